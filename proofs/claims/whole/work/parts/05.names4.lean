theorem dX6_entry_0 : decode cX6_entry 0 = .ok (.iload_n 1, 1) := by decide +kernel
theorem dX6_entry_1 : decode cX6_entry 1 = .ok (.ifCond .ge 5, 3) := by decide +kernel
theorem dX6_entry_4 : decode cX6_entry 4 = .ok (.iconst (-1), 1) := by decide +kernel
theorem dX6_entry_5 : decode cX6_entry 5 = .ok (.ireturn, 1) := by decide +kernel
theorem dX6_entry_6 : decode cX6_entry 6 = .ok (.aload_n 0, 1) := by decide +kernel
theorem dX6_entry_7 : decode cX6_entry 7 = .ok (.iload_n 1, 1) := by decide +kernel
theorem dX6_entry_8 : decode cX6_entry 8 = .ok (.invokevirtual 146, 3) := by decide +kernel
theorem dX6_entry_11 : decode cX6_entry 11 = .ok (.ireturn, 1) := by decide +kernel
set_option maxRecDepth 20000 in
theorem ggX6_weight_X4_system : GoodIn wsX6_weight wsX4_system := goodIn_r _ [6, 7, 25, 26, 27, 28, 29] (by decide +kernel) (by decide +kernel)
set_option maxRecDepth 20000 in
theorem gX6_weight_X4_system : GoodIn wsX6_weight (wsV RX6 72 RX4 yX4_system wsX4_system) := goodIn_app (goodIn_of _ (by decide +kernel)) ggX6_weight_X4_system
set_option maxRecDepth 20000 in
theorem ggX6_weight_X0_has : GoodIn wsX6_weight wsX0_has := goodIn_r _ [12, 13, 30, 31, 32] (by decide +kernel) (by decide +kernel)
set_option maxRecDepth 20000 in
theorem gX6_weight_X0_has : GoodIn wsX6_weight (wsV RX6 80 RX0 yX0_has wsX0_has) := goodIn_app (goodIn_of _ (by decide +kernel)) ggX6_weight_X0_has
set_option maxRecDepth 20000 in
theorem ggX6_weight_X0_weightOf : GoodIn wsX6_weight wsX0_weightOf := goodIn_r _ [17, 18, 19, 9, 10, 11, 12, 13, 30, 31, 32] (by decide +kernel) (by decide +kernel)
set_option maxRecDepth 20000 in
theorem gX6_weight_X0_weightOf : GoodIn wsX6_weight (wsV RX6 103 RX0 yX0_weightOf wsX0_weightOf) := goodIn_app (goodIn_of _ (by decide +kernel)) ggX6_weight_X0_weightOf
theorem dX6_weight_0 : decode cX6_weight 0 = .ok (.aload_n 0, 1) := by decide +kernel
theorem dX6_weight_1 : decode cX6_weight 1 = .ok (.getfield 26, 3) := by decide +kernel
theorem dX6_weight_4 : decode cX6_weight 4 = .ok (.invokevirtual 72, 3) := by decide +kernel
theorem dX6_weight_7 : decode cX6_weight 7 = .ok (.iload_n 1, 1) := by decide +kernel
theorem dX6_weight_8 : decode cX6_weight 8 = .ok (.invokevirtual 80, 3) := by decide +kernel
theorem dX6_weight_11 : decode cX6_weight 11 = .ok (.ifCond .ne 5, 3) := by decide +kernel
theorem dX6_weight_14 : decode cX6_weight 14 = .ok (.iconst (-1), 1) := by decide +kernel
theorem dX6_weight_15 : decode cX6_weight 15 = .ok (.ireturn, 1) := by decide +kernel
theorem dX6_weight_16 : decode cX6_weight 16 = .ok (.aload_n 0, 1) := by decide +kernel
theorem dX6_weight_17 : decode cX6_weight 17 = .ok (.getfield 26, 3) := by decide +kernel
theorem dX6_weight_20 : decode cX6_weight 20 = .ok (.invokevirtual 72, 3) := by decide +kernel
theorem dX6_weight_23 : decode cX6_weight 23 = .ok (.iload_n 1, 1) := by decide +kernel
theorem dX6_weight_24 : decode cX6_weight 24 = .ok (.invokevirtual 103, 3) := by decide +kernel
theorem dX6_weight_27 : decode cX6_weight 27 = .ok (.ireturn, 1) := by decide +kernel
set_option maxRecDepth 20000 in
theorem ggX6_violated_X4_system : GoodIn wsX6_violated wsX4_system := goodIn_r _ [6, 7, 20, 21, 22, 23, 24] (by decide +kernel) (by decide +kernel)
set_option maxRecDepth 20000 in
theorem gX6_violated_X4_system : GoodIn wsX6_violated (wsV RX6 72 RX4 yX4_system wsX4_system) := goodIn_app (goodIn_of _ (by decide +kernel)) ggX6_violated_X4_system
set_option maxRecDepth 20000 in
theorem ggX6_violated_X0_violatedBy : GoodIn wsX6_violated wsX0_violatedBy := goodIn_r _ [12, 13, 14, 25, 26, 27] (by decide +kernel) (by decide +kernel)
set_option maxRecDepth 20000 in
theorem gX6_violated_X0_violatedBy : GoodIn wsX6_violated (wsV RX6 149 RX0 yX0_violatedBy wsX0_violatedBy) := goodIn_app (goodIn_of _ (by decide +kernel)) ggX6_violated_X0_violatedBy
theorem dX6_violated_0 : decode cX6_violated 0 = .ok (.iload_n 1, 1) := by decide +kernel
theorem dX6_violated_1 : decode cX6_violated 1 = .ok (.ifCond .lt 9, 3) := by decide +kernel
theorem dX6_violated_4 : decode cX6_violated 4 = .ok (.iload_n 1, 1) := by decide +kernel
theorem dX6_violated_5 : decode cX6_violated 5 = .ok (.bipush 64, 2) := by decide +kernel
theorem dX6_violated_7 : decode cX6_violated 7 = .ok (.if_icmp .lt 5, 3) := by decide +kernel
theorem dX6_violated_10 : decode cX6_violated 10 = .ok (.iconst (-1), 1) := by decide +kernel
theorem dX6_violated_11 : decode cX6_violated 11 = .ok (.ireturn, 1) := by decide +kernel
theorem dX6_violated_12 : decode cX6_violated 12 = .ok (.aload_n 0, 1) := by decide +kernel
theorem dX6_violated_13 : decode cX6_violated 13 = .ok (.getfield 26, 3) := by decide +kernel
theorem dX6_violated_16 : decode cX6_violated 16 = .ok (.invokevirtual 72, 3) := by decide +kernel
theorem dX6_violated_19 : decode cX6_violated 19 = .ok (.iload_n 1, 1) := by decide +kernel
theorem dX6_violated_20 : decode cX6_violated 20 = .ok (.invokevirtual 149, 3) := by decide +kernel
theorem dX6_violated_23 : decode cX6_violated 23 = .ok (.ireturn, 1) := by decide +kernel
set_option maxRecDepth 20000 in
theorem ggX6_modelCount_X4_system : GoodIn wsX6_modelCount wsX4_system := goodIn_r _ [6, 7, 37, 38, 39, 40, 41] (by decide +kernel) (by decide +kernel)
set_option maxRecDepth 20000 in
theorem gX6_modelCount_X4_system : GoodIn wsX6_modelCount (wsV RX6 72 RX4 yX4_system wsX4_system) := goodIn_app (goodIn_of _ (by decide +kernel)) ggX6_modelCount_X4_system
set_option maxRecDepth 20000 in
theorem ggX6_modelCount_X0_isSelection : GoodIn wsX6_modelCount wsX0_isSelection := goodIn_r _ [12, 13, 14, 15, 11, 16, 17, 18, 42, 43, 44] (by decide +kernel) (by decide +kernel)
set_option maxRecDepth 20000 in
theorem gX6_modelCount_X0_isSelection : GoodIn wsX6_modelCount (wsV RX6 152 RX0 yX0_isSelection wsX0_isSelection) := goodIn_app (goodIn_of _ (by decide +kernel)) ggX6_modelCount_X0_isSelection
set_option maxRecDepth 20000 in
theorem ggX6_modelCount_X0_modelsOf : GoodIn wsX6_modelCount wsX0_modelsOf := goodIn_r _ [22, 23, 17, 18, 24, 42, 43, 44] (by decide +kernel) (by decide +kernel)
set_option maxRecDepth 20000 in
theorem gX6_modelCount_X0_modelsOf : GoodIn wsX6_modelCount (wsV RX6 155 RX0 yX0_modelsOf wsX0_modelsOf) := goodIn_app (goodIn_of _ (by decide +kernel)) ggX6_modelCount_X0_modelsOf
set_option maxRecDepth 20000 in
theorem ggX6_modelCount_J13_bitCount_95d88 : GoodIn wsX6_modelCount wsJ13_bitCount_95d88 := goodIn_r _ [28, 29, 30, 31] (by decide +kernel) (by decide +kernel)
set_option maxRecDepth 20000 in
theorem gX6_modelCount_J13_bitCount_95d88 : GoodIn wsX6_modelCount (va_wsS RX6 159 yJ13_bitCount_95d88 wsJ13_bitCount_95d88) := goodIn_app (goodIn_of _ (by decide +kernel)) ggX6_modelCount_J13_bitCount_95d88
theorem dX6_modelCount_0 : decode cX6_modelCount 0 = .ok (.aload_n 0, 1) := by decide +kernel
theorem dX6_modelCount_1 : decode cX6_modelCount 1 = .ok (.getfield 26, 3) := by decide +kernel
theorem dX6_modelCount_4 : decode cX6_modelCount 4 = .ok (.invokevirtual 72, 3) := by decide +kernel
theorem dX6_modelCount_7 : decode cX6_modelCount 7 = .ok (.iload_n 1, 1) := by decide +kernel
theorem dX6_modelCount_8 : decode cX6_modelCount 8 = .ok (.invokevirtual 152, 3) := by decide +kernel
theorem dX6_modelCount_11 : decode cX6_modelCount 11 = .ok (.ifCond .ne 5, 3) := by decide +kernel
theorem dX6_modelCount_14 : decode cX6_modelCount 14 = .ok (.iconst (-1), 1) := by decide +kernel
theorem dX6_modelCount_15 : decode cX6_modelCount 15 = .ok (.ireturn, 1) := by decide +kernel
theorem dX6_modelCount_16 : decode cX6_modelCount 16 = .ok (.aload_n 0, 1) := by decide +kernel
theorem dX6_modelCount_17 : decode cX6_modelCount 17 = .ok (.getfield 26, 3) := by decide +kernel
theorem dX6_modelCount_20 : decode cX6_modelCount 20 = .ok (.invokevirtual 72, 3) := by decide +kernel
theorem dX6_modelCount_23 : decode cX6_modelCount 23 = .ok (.iload_n 1, 1) := by decide +kernel
theorem dX6_modelCount_24 : decode cX6_modelCount 24 = .ok (.invokevirtual 155, 3) := by decide +kernel
theorem dX6_modelCount_27 : decode cX6_modelCount 27 = .ok (.invokestatic 159, 3) := by decide +kernel
theorem dX6_modelCount_30 : decode cX6_modelCount 30 = .ok (.ireturn, 1) := by decide +kernel
set_option maxRecDepth 20000 in
theorem ggX6_firstModel_X4_system : GoodIn wsX6_firstModel wsX4_system := goodIn_r _ [6, 7, 34, 35, 36, 37, 38] (by decide +kernel) (by decide +kernel)
set_option maxRecDepth 20000 in
theorem gX6_firstModel_X4_system : GoodIn wsX6_firstModel (wsV RX6 72 RX4 yX4_system wsX4_system) := goodIn_app (goodIn_of _ (by decide +kernel)) ggX6_firstModel_X4_system
set_option maxRecDepth 20000 in
theorem ggX6_firstModel_X0_isSelection : GoodIn wsX6_firstModel wsX0_isSelection := goodIn_r _ [12, 13, 14, 15, 11, 16, 17, 18, 39, 40, 41] (by decide +kernel) (by decide +kernel)
set_option maxRecDepth 20000 in
theorem gX6_firstModel_X0_isSelection : GoodIn wsX6_firstModel (wsV RX6 152 RX0 yX0_isSelection wsX0_isSelection) := goodIn_app (goodIn_of _ (by decide +kernel)) ggX6_firstModel_X0_isSelection
set_option maxRecDepth 20000 in
theorem ggX6_firstModel_X0_smallestModel : GoodIn wsX6_firstModel wsX0_smallestModel := goodIn_r _ [22, 23, 24, 25, 11, 26, 27, 17, 18, 28, 39, 40, 41] (by decide +kernel) (by decide +kernel)
set_option maxRecDepth 20000 in
theorem gX6_firstModel_X0_smallestModel : GoodIn wsX6_firstModel (wsV RX6 164 RX0 yX0_smallestModel wsX0_smallestModel) := goodIn_app (goodIn_of _ (by decide +kernel)) ggX6_firstModel_X0_smallestModel
theorem dX6_firstModel_0 : decode cX6_firstModel 0 = .ok (.aload_n 0, 1) := by decide +kernel
theorem dX6_firstModel_1 : decode cX6_firstModel 1 = .ok (.getfield 26, 3) := by decide +kernel
theorem dX6_firstModel_4 : decode cX6_firstModel 4 = .ok (.invokevirtual 72, 3) := by decide +kernel
theorem dX6_firstModel_7 : decode cX6_firstModel 7 = .ok (.iload_n 1, 1) := by decide +kernel
theorem dX6_firstModel_8 : decode cX6_firstModel 8 = .ok (.invokevirtual 152, 3) := by decide +kernel
theorem dX6_firstModel_11 : decode cX6_firstModel 11 = .ok (.ifCond .ne 5, 3) := by decide +kernel
theorem dX6_firstModel_14 : decode cX6_firstModel 14 = .ok (.iconst (-1), 1) := by decide +kernel
theorem dX6_firstModel_15 : decode cX6_firstModel 15 = .ok (.ireturn, 1) := by decide +kernel
theorem dX6_firstModel_16 : decode cX6_firstModel 16 = .ok (.aload_n 0, 1) := by decide +kernel
theorem dX6_firstModel_17 : decode cX6_firstModel 17 = .ok (.getfield 26, 3) := by decide +kernel
theorem dX6_firstModel_20 : decode cX6_firstModel 20 = .ok (.invokevirtual 72, 3) := by decide +kernel
theorem dX6_firstModel_23 : decode cX6_firstModel 23 = .ok (.iload_n 1, 1) := by decide +kernel
theorem dX6_firstModel_24 : decode cX6_firstModel 24 = .ok (.invokevirtual 164, 3) := by decide +kernel
theorem dX6_firstModel_27 : decode cX6_firstModel 27 = .ok (.ireturn, 1) := by decide +kernel
set_option maxRecDepth 20000 in
theorem ggX6_grown_X4_system : GoodIn wsX6_grown wsX4_system := goodIn_r _ [6, 7, 39, 40, 41, 42, 43] (by decide +kernel) (by decide +kernel)
set_option maxRecDepth 20000 in
theorem gX6_grown_X4_system : GoodIn wsX6_grown (wsV RX6 72 RX4 yX4_system wsX4_system) := goodIn_app (goodIn_of _ (by decide +kernel)) ggX6_grown_X4_system
set_option maxRecDepth 20000 in
theorem ggX6_grown_X0_isSelection : GoodIn wsX6_grown wsX0_isSelection := goodIn_r _ [12, 13, 14, 15, 11, 16, 17, 18, 44, 45, 46] (by decide +kernel) (by decide +kernel)
set_option maxRecDepth 20000 in
theorem gX6_grown_X0_isSelection : GoodIn wsX6_grown (wsV RX6 152 RX0 yX0_isSelection wsX0_isSelection) := goodIn_app (goodIn_of _ (by decide +kernel)) ggX6_grown_X0_isSelection
set_option maxRecDepth 20000 in
theorem ggX6_grown_X0_isSatisfiable : GoodIn wsX6_grown wsX0_isSatisfiable := goodIn_r _ [22, 23, 24, 25, 11, 26, 27, 17, 18, 28, 44, 45, 46] (by decide +kernel) (by decide +kernel)
set_option maxRecDepth 20000 in
theorem gX6_grown_X0_isSatisfiable : GoodIn wsX6_grown (wsV RX6 167 RX0 yX0_isSatisfiable wsX0_isSatisfiable) := goodIn_app (goodIn_of _ (by decide +kernel)) ggX6_grown_X0_isSatisfiable
set_option maxRecDepth 20000 in
theorem ggX6_grown_X0_grow : GoodIn wsX6_grown wsX0_grow := goodIn_r _ [32, 17, 13, 14, 15, 11, 16, 18, 33, 20, 21, 22, 23, 24, 25, 26, 27, 28, 44, 45, 46] (by decide +kernel) (by decide +kernel)
set_option maxRecDepth 20000 in
theorem gX6_grown_X0_grow : GoodIn wsX6_grown (wsV RX6 170 RX0 yX0_grow wsX0_grow) := goodIn_app (goodIn_of _ (by decide +kernel)) ggX6_grown_X0_grow
theorem dX6_grown_0 : decode cX6_grown 0 = .ok (.aload_n 0, 1) := by decide +kernel
theorem dX6_grown_1 : decode cX6_grown 1 = .ok (.getfield 26, 3) := by decide +kernel
theorem dX6_grown_4 : decode cX6_grown 4 = .ok (.invokevirtual 72, 3) := by decide +kernel
theorem dX6_grown_7 : decode cX6_grown 7 = .ok (.iload_n 1, 1) := by decide +kernel
theorem dX6_grown_8 : decode cX6_grown 8 = .ok (.invokevirtual 152, 3) := by decide +kernel
theorem dX6_grown_11 : decode cX6_grown 11 = .ok (.ifCond .ne 5, 3) := by decide +kernel
theorem dX6_grown_14 : decode cX6_grown 14 = .ok (.iconst (-1), 1) := by decide +kernel
theorem dX6_grown_15 : decode cX6_grown 15 = .ok (.ireturn, 1) := by decide +kernel
theorem dX6_grown_16 : decode cX6_grown 16 = .ok (.aload_n 0, 1) := by decide +kernel
theorem dX6_grown_17 : decode cX6_grown 17 = .ok (.getfield 26, 3) := by decide +kernel
theorem dX6_grown_20 : decode cX6_grown 20 = .ok (.invokevirtual 72, 3) := by decide +kernel
theorem dX6_grown_23 : decode cX6_grown 23 = .ok (.iload_n 1, 1) := by decide +kernel
theorem dX6_grown_24 : decode cX6_grown 24 = .ok (.invokevirtual 167, 3) := by decide +kernel
theorem dX6_grown_27 : decode cX6_grown 27 = .ok (.ifCond .ne 6, 3) := by decide +kernel
theorem dX6_grown_30 : decode cX6_grown 30 = .ok (.bipush (-2), 2) := by decide +kernel
theorem dX6_grown_32 : decode cX6_grown 32 = .ok (.ireturn, 1) := by decide +kernel
theorem dX6_grown_33 : decode cX6_grown 33 = .ok (.aload_n 0, 1) := by decide +kernel
theorem dX6_grown_34 : decode cX6_grown 34 = .ok (.getfield 26, 3) := by decide +kernel
theorem dX6_grown_37 : decode cX6_grown 37 = .ok (.invokevirtual 72, 3) := by decide +kernel
theorem dX6_grown_40 : decode cX6_grown 40 = .ok (.iload_n 1, 1) := by decide +kernel
theorem dX6_grown_41 : decode cX6_grown 41 = .ok (.invokevirtual 170, 3) := by decide +kernel
theorem dX6_grown_44 : decode cX6_grown 44 = .ok (.ireturn, 1) := by decide +kernel
set_option maxRecDepth 20000 in
theorem ggX6_shrunk_X4_system : GoodIn wsX6_shrunk wsX4_system := goodIn_r _ [6, 7, 39, 40, 41, 42, 43] (by decide +kernel) (by decide +kernel)
set_option maxRecDepth 20000 in
theorem gX6_shrunk_X4_system : GoodIn wsX6_shrunk (wsV RX6 72 RX4 yX4_system wsX4_system) := goodIn_app (goodIn_of _ (by decide +kernel)) ggX6_shrunk_X4_system
set_option maxRecDepth 20000 in
theorem ggX6_shrunk_X0_isSelection : GoodIn wsX6_shrunk wsX0_isSelection := goodIn_r _ [12, 13, 14, 15, 11, 16, 17, 18, 44, 45, 46] (by decide +kernel) (by decide +kernel)
set_option maxRecDepth 20000 in
theorem gX6_shrunk_X0_isSelection : GoodIn wsX6_shrunk (wsV RX6 152 RX0 yX0_isSelection wsX0_isSelection) := goodIn_app (goodIn_of _ (by decide +kernel)) ggX6_shrunk_X0_isSelection
set_option maxRecDepth 20000 in
theorem ggX6_shrunk_X0_isSatisfiable : GoodIn wsX6_shrunk wsX0_isSatisfiable := goodIn_r _ [22, 23, 24, 25, 11, 26, 27, 17, 18, 28, 44, 45, 46] (by decide +kernel) (by decide +kernel)
set_option maxRecDepth 20000 in
theorem gX6_shrunk_X0_isSatisfiable : GoodIn wsX6_shrunk (wsV RX6 167 RX0 yX0_isSatisfiable wsX0_isSatisfiable) := goodIn_app (goodIn_of _ (by decide +kernel)) ggX6_shrunk_X0_isSatisfiable
set_option maxRecDepth 20000 in
theorem ggX6_shrunk_X0_shrink : GoodIn wsX6_shrunk wsX0_shrink := goodIn_r _ [32, 17, 33, 20, 21, 11, 22, 23, 24, 25, 26, 27, 18, 28, 44, 45, 46] (by decide +kernel) (by decide +kernel)
set_option maxRecDepth 20000 in
theorem gX6_shrunk_X0_shrink : GoodIn wsX6_shrunk (wsV RX6 173 RX0 yX0_shrink wsX0_shrink) := goodIn_app (goodIn_of _ (by decide +kernel)) ggX6_shrunk_X0_shrink
theorem dX6_shrunk_0 : decode cX6_shrunk 0 = .ok (.aload_n 0, 1) := by decide +kernel
theorem dX6_shrunk_1 : decode cX6_shrunk 1 = .ok (.getfield 26, 3) := by decide +kernel
theorem dX6_shrunk_4 : decode cX6_shrunk 4 = .ok (.invokevirtual 72, 3) := by decide +kernel
theorem dX6_shrunk_7 : decode cX6_shrunk 7 = .ok (.iload_n 1, 1) := by decide +kernel
theorem dX6_shrunk_8 : decode cX6_shrunk 8 = .ok (.invokevirtual 152, 3) := by decide +kernel
theorem dX6_shrunk_11 : decode cX6_shrunk 11 = .ok (.ifCond .ne 5, 3) := by decide +kernel
theorem dX6_shrunk_14 : decode cX6_shrunk 14 = .ok (.iconst (-1), 1) := by decide +kernel
theorem dX6_shrunk_15 : decode cX6_shrunk 15 = .ok (.ireturn, 1) := by decide +kernel
theorem dX6_shrunk_16 : decode cX6_shrunk 16 = .ok (.aload_n 0, 1) := by decide +kernel
theorem dX6_shrunk_17 : decode cX6_shrunk 17 = .ok (.getfield 26, 3) := by decide +kernel
theorem dX6_shrunk_20 : decode cX6_shrunk 20 = .ok (.invokevirtual 72, 3) := by decide +kernel
theorem dX6_shrunk_23 : decode cX6_shrunk 23 = .ok (.iload_n 1, 1) := by decide +kernel
theorem dX6_shrunk_24 : decode cX6_shrunk 24 = .ok (.invokevirtual 167, 3) := by decide +kernel
theorem dX6_shrunk_27 : decode cX6_shrunk 27 = .ok (.ifCond .eq 6, 3) := by decide +kernel
theorem dX6_shrunk_30 : decode cX6_shrunk 30 = .ok (.bipush (-2), 2) := by decide +kernel
theorem dX6_shrunk_32 : decode cX6_shrunk 32 = .ok (.ireturn, 1) := by decide +kernel
theorem dX6_shrunk_33 : decode cX6_shrunk 33 = .ok (.aload_n 0, 1) := by decide +kernel
theorem dX6_shrunk_34 : decode cX6_shrunk 34 = .ok (.getfield 26, 3) := by decide +kernel
theorem dX6_shrunk_37 : decode cX6_shrunk 37 = .ok (.invokevirtual 72, 3) := by decide +kernel
theorem dX6_shrunk_40 : decode cX6_shrunk 40 = .ok (.iload_n 1, 1) := by decide +kernel
theorem dX6_shrunk_41 : decode cX6_shrunk 41 = .ok (.invokevirtual 173, 3) := by decide +kernel
theorem dX6_shrunk_44 : decode cX6_shrunk 44 = .ok (.ireturn, 1) := by decide +kernel
set_option maxRecDepth 20000 in
theorem ggX6_critical_X4_system : GoodIn wsX6_critical wsX4_system := goodIn_r _ [6, 7, 39, 40, 41, 42, 43] (by decide +kernel) (by decide +kernel)
set_option maxRecDepth 20000 in
theorem gX6_critical_X4_system : GoodIn wsX6_critical (wsV RX6 72 RX4 yX4_system wsX4_system) := goodIn_app (goodIn_of _ (by decide +kernel)) ggX6_critical_X4_system
set_option maxRecDepth 20000 in
theorem ggX6_critical_X0_isSelection : GoodIn wsX6_critical wsX0_isSelection := goodIn_r _ [12, 13, 14, 15, 11, 16, 17, 18, 44, 45, 46] (by decide +kernel) (by decide +kernel)
set_option maxRecDepth 20000 in
theorem gX6_critical_X0_isSelection : GoodIn wsX6_critical (wsV RX6 152 RX0 yX0_isSelection wsX0_isSelection) := goodIn_app (goodIn_of _ (by decide +kernel)) ggX6_critical_X0_isSelection
set_option maxRecDepth 20000 in
theorem ggX6_critical_X0_isSatisfiable : GoodIn wsX6_critical wsX0_isSatisfiable := goodIn_r _ [22, 23, 24, 25, 11, 26, 27, 17, 18, 28, 44, 45, 46] (by decide +kernel) (by decide +kernel)
set_option maxRecDepth 20000 in
theorem gX6_critical_X0_isSatisfiable : GoodIn wsX6_critical (wsV RX6 167 RX0 yX0_isSatisfiable wsX0_isSatisfiable) := goodIn_app (goodIn_of _ (by decide +kernel)) ggX6_critical_X0_isSatisfiable
set_option maxRecDepth 20000 in
theorem ggX6_critical_X0_criticalOf : GoodIn wsX6_critical wsX0_criticalOf := goodIn_r _ [32, 17, 33, 20, 21, 11, 22, 23, 24, 25, 26, 27, 18, 28, 44, 45, 46] (by decide +kernel) (by decide +kernel)
set_option maxRecDepth 20000 in
theorem gX6_critical_X0_criticalOf : GoodIn wsX6_critical (wsV RX6 176 RX0 yX0_criticalOf wsX0_criticalOf) := goodIn_app (goodIn_of _ (by decide +kernel)) ggX6_critical_X0_criticalOf
theorem dX6_critical_0 : decode cX6_critical 0 = .ok (.aload_n 0, 1) := by decide +kernel
theorem dX6_critical_1 : decode cX6_critical 1 = .ok (.getfield 26, 3) := by decide +kernel
theorem dX6_critical_4 : decode cX6_critical 4 = .ok (.invokevirtual 72, 3) := by decide +kernel
theorem dX6_critical_7 : decode cX6_critical 7 = .ok (.iload_n 1, 1) := by decide +kernel
theorem dX6_critical_8 : decode cX6_critical 8 = .ok (.invokevirtual 152, 3) := by decide +kernel
theorem dX6_critical_11 : decode cX6_critical 11 = .ok (.ifCond .ne 5, 3) := by decide +kernel
theorem dX6_critical_14 : decode cX6_critical 14 = .ok (.iconst (-1), 1) := by decide +kernel
theorem dX6_critical_15 : decode cX6_critical 15 = .ok (.ireturn, 1) := by decide +kernel
theorem dX6_critical_16 : decode cX6_critical 16 = .ok (.aload_n 0, 1) := by decide +kernel
theorem dX6_critical_17 : decode cX6_critical 17 = .ok (.getfield 26, 3) := by decide +kernel
theorem dX6_critical_20 : decode cX6_critical 20 = .ok (.invokevirtual 72, 3) := by decide +kernel
theorem dX6_critical_23 : decode cX6_critical 23 = .ok (.iload_n 1, 1) := by decide +kernel
theorem dX6_critical_24 : decode cX6_critical 24 = .ok (.invokevirtual 167, 3) := by decide +kernel
theorem dX6_critical_27 : decode cX6_critical 27 = .ok (.ifCond .eq 6, 3) := by decide +kernel
theorem dX6_critical_30 : decode cX6_critical 30 = .ok (.bipush (-2), 2) := by decide +kernel
theorem dX6_critical_32 : decode cX6_critical 32 = .ok (.ireturn, 1) := by decide +kernel
theorem dX6_critical_33 : decode cX6_critical 33 = .ok (.aload_n 0, 1) := by decide +kernel
theorem dX6_critical_34 : decode cX6_critical 34 = .ok (.getfield 26, 3) := by decide +kernel
theorem dX6_critical_37 : decode cX6_critical 37 = .ok (.invokevirtual 72, 3) := by decide +kernel
theorem dX6_critical_40 : decode cX6_critical 40 = .ok (.iload_n 1, 1) := by decide +kernel
theorem dX6_critical_41 : decode cX6_critical 41 = .ok (.invokevirtual 176, 3) := by decide +kernel
theorem dX6_critical_44 : decode cX6_critical 44 = .ok (.ireturn, 1) := by decide +kernel
set_option maxRecDepth 20000 in
theorem ggX6_smallestHittingSet_X4_leastHittingSet : GoodIn wsX6_smallestHittingSet wsX4_leastHittingSet := goodIn_r _ [6, 7, 8, 9, 10, 11, 12, 13, 14, 15, 16, 17, 18, 19, 20, 21, 22, 23, 24, 25, 26, 27, 28, 5, 29, 30, 31, 32, 33, 34, 35, 36, 37, 38, 39, 40, 41, 47, 48, 49, 50, 51, 52, 53, 54, 55, 56] (by decide +kernel) (by decide +kernel)
set_option maxRecDepth 20000 in
theorem gX6_smallestHittingSet_X4_leastHittingSet : GoodIn wsX6_smallestHittingSet (wsV RX6 179 RX4 yX4_leastHittingSet wsX4_leastHittingSet) := goodIn_app (goodIn_of _ (by decide +kernel)) ggX6_smallestHittingSet_X4_leastHittingSet
theorem dX6_smallestHittingSet_0 : decode cX6_smallestHittingSet 0 = .ok (.aload_n 0, 1) := by decide +kernel
theorem dX6_smallestHittingSet_1 : decode cX6_smallestHittingSet 1 = .ok (.getfield 26, 3) := by decide +kernel
theorem dX6_smallestHittingSet_4 : decode cX6_smallestHittingSet 4 = .ok (.iconst 0, 1) := by decide +kernel
theorem dX6_smallestHittingSet_5 : decode cX6_smallestHittingSet 5 = .ok (.invokevirtual 179, 3) := by decide +kernel
theorem dX6_smallestHittingSet_8 : decode cX6_smallestHittingSet 8 = .ok (.ireturn, 1) := by decide +kernel
set_option maxRecDepth 20000 in
theorem ggX6_cheapestHittingSet_X4_leastHittingSet : GoodIn wsX6_cheapestHittingSet wsX4_leastHittingSet := goodIn_r _ [6, 7, 8, 9, 10, 11, 12, 13, 14, 15, 16, 17, 18, 19, 20, 21, 22, 23, 24, 25, 26, 27, 28, 5, 29, 30, 31, 32, 33, 34, 35, 36, 37, 38, 39, 40, 41, 47, 48, 49, 50, 51, 52, 53, 54, 55, 56] (by decide +kernel) (by decide +kernel)
set_option maxRecDepth 20000 in
theorem gX6_cheapestHittingSet_X4_leastHittingSet : GoodIn wsX6_cheapestHittingSet (wsV RX6 179 RX4 yX4_leastHittingSet wsX4_leastHittingSet) := goodIn_app (goodIn_of _ (by decide +kernel)) ggX6_cheapestHittingSet_X4_leastHittingSet
theorem dX6_cheapestHittingSet_0 : decode cX6_cheapestHittingSet 0 = .ok (.aload_n 0, 1) := by decide +kernel
theorem dX6_cheapestHittingSet_1 : decode cX6_cheapestHittingSet 1 = .ok (.getfield 26, 3) := by decide +kernel
theorem dX6_cheapestHittingSet_4 : decode cX6_cheapestHittingSet 4 = .ok (.iconst 1, 1) := by decide +kernel
theorem dX6_cheapestHittingSet_5 : decode cX6_cheapestHittingSet 5 = .ok (.invokevirtual 179, 3) := by decide +kernel
theorem dX6_cheapestHittingSet_8 : decode cX6_cheapestHittingSet 8 = .ok (.ireturn, 1) := by decide +kernel
set_option maxRecDepth 20000 in
theorem ggX6_heaviestSatisfiable_X4_system : GoodIn wsX6_heaviestSatisfiable wsX4_system := goodIn_r _ [6, 7, 33, 34, 35, 36, 37] (by decide +kernel) (by decide +kernel)
set_option maxRecDepth 20000 in
theorem gX6_heaviestSatisfiable_X4_system : GoodIn wsX6_heaviestSatisfiable (wsV RX6 72 RX4 yX4_system wsX4_system) := goodIn_app (goodIn_of _ (by decide +kernel)) ggX6_heaviestSatisfiable_X4_system
set_option maxRecDepth 20000 in
theorem ggX6_heaviestSatisfiable_X0_heaviest : GoodIn wsX6_heaviestSatisfiable wsX0_heaviest := goodIn_r _ [12, 13, 14, 15, 11, 16, 17, 18, 19, 20, 21, 22, 23, 24, 25, 26, 27, 38, 39, 40] (by decide +kernel) (by decide +kernel)
set_option maxRecDepth 20000 in
theorem gX6_heaviestSatisfiable_X0_heaviest : GoodIn wsX6_heaviestSatisfiable (wsV RX6 183 RX0 yX0_heaviest wsX0_heaviest) := goodIn_app (goodIn_of _ (by decide +kernel)) ggX6_heaviestSatisfiable_X0_heaviest
theorem dX6_heaviestSatisfiable_0 : decode cX6_heaviestSatisfiable 0 = .ok (.aload_n 0, 1) := by decide +kernel
theorem dX6_heaviestSatisfiable_1 : decode cX6_heaviestSatisfiable 1 = .ok (.getfield 26, 3) := by decide +kernel
theorem dX6_heaviestSatisfiable_4 : decode cX6_heaviestSatisfiable 4 = .ok (.invokevirtual 72, 3) := by decide +kernel
theorem dX6_heaviestSatisfiable_7 : decode cX6_heaviestSatisfiable 7 = .ok (.invokevirtual 183, 3) := by decide +kernel
theorem dX6_heaviestSatisfiable_10 : decode cX6_heaviestSatisfiable 10 = .ok (.ireturn, 1) := by decide +kernel
set_option maxRecDepth 20000 in
theorem ggX6_blame_X4_system : GoodIn wsX6_blame wsX4_system := goodIn_r _ [6, 7, 42, 43, 44, 45, 46] (by decide +kernel) (by decide +kernel)
set_option maxRecDepth 20000 in
theorem gX6_blame_X4_system : GoodIn wsX6_blame (wsV RX6 72 RX4 yX4_system wsX4_system) := goodIn_app (goodIn_of _ (by decide +kernel)) ggX6_blame_X4_system
set_option maxRecDepth 20000 in
theorem ggX6_blame_X0_has : GoodIn wsX6_blame wsX0_has := goodIn_r _ [12, 13, 47, 48, 49] (by decide +kernel) (by decide +kernel)
set_option maxRecDepth 20000 in
theorem gX6_blame_X0_has : GoodIn wsX6_blame (wsV RX6 80 RX0 yX0_has wsX0_has) := goodIn_app (goodIn_of _ (by decide +kernel)) ggX6_blame_X0_has
set_option maxRecDepth 20000 in
theorem ggX6_blame_X4_blameOf : GoodIn wsX6_blame wsX4_blameOf := goodIn_r _ [17, 18, 19, 20, 21, 22, 23, 24, 25, 26, 27, 28, 29, 30, 31, 32, 33, 34, 35, 36, 42, 43, 44, 45, 46, 50, 51] (by decide +kernel) (by decide +kernel)
set_option maxRecDepth 20000 in
theorem gX6_blame_X4_blameOf : GoodIn wsX6_blame (wsV RX6 186 RX4 yX4_blameOf wsX4_blameOf) := goodIn_app (goodIn_of _ (by decide +kernel)) ggX6_blame_X4_blameOf
theorem dX6_blame_0 : decode cX6_blame 0 = .ok (.aload_n 0, 1) := by decide +kernel
theorem dX6_blame_1 : decode cX6_blame 1 = .ok (.getfield 26, 3) := by decide +kernel
theorem dX6_blame_4 : decode cX6_blame 4 = .ok (.invokevirtual 72, 3) := by decide +kernel
theorem dX6_blame_7 : decode cX6_blame 7 = .ok (.iload_n 1, 1) := by decide +kernel
theorem dX6_blame_8 : decode cX6_blame 8 = .ok (.invokevirtual 80, 3) := by decide +kernel
theorem dX6_blame_11 : decode cX6_blame 11 = .ok (.ifCond .ne 5, 3) := by decide +kernel
theorem dX6_blame_14 : decode cX6_blame 14 = .ok (.iconst (-1), 1) := by decide +kernel
theorem dX6_blame_15 : decode cX6_blame 15 = .ok (.ireturn, 1) := by decide +kernel
theorem dX6_blame_16 : decode cX6_blame 16 = .ok (.aload_n 0, 1) := by decide +kernel
theorem dX6_blame_17 : decode cX6_blame 17 = .ok (.getfield 26, 3) := by decide +kernel
theorem dX6_blame_20 : decode cX6_blame 20 = .ok (.iload_n 1, 1) := by decide +kernel
theorem dX6_blame_21 : decode cX6_blame 21 = .ok (.invokevirtual 186, 3) := by decide +kernel
theorem dX6_blame_24 : decode cX6_blame 24 = .ok (.ireturn, 1) := by decide +kernel
set_option maxRecDepth 20000 in
theorem ggX6_save_X4_init : GoodIn wsX6_save wsX4_init := goodIn_r _ [7, 8, 9, 10, 11, 12, 13, 14, 15, 16, 17, 18, 19, 20, 21, 22, 23, 24, 25, 26, 27, 28, 29, 30, 31, 32, 71, 72, 73, 66, 67, 68, 69, 70, 74, 75] (by decide +kernel) (by decide +kernel)
set_option maxRecDepth 20000 in
theorem gX6_save_X4_init_n25 : GoodIn wsX6_save (wsX4_init) := ggX6_save_X4_init
set_option maxRecDepth 20000 in
theorem ggX6_save_X4_copyFrom : GoodIn wsX6_save wsX4_copyFrom := goodIn_r _ [36, 14, 18, 19, 21, 37, 38, 39, 40, 22, 41, 42, 43, 13, 44, 26, 45, 28, 46, 47, 48, 49, 17, 50, 32, 51, 52, 66, 67, 68, 69, 70, 71, 72, 73, 74, 75] (by decide +kernel) (by decide +kernel)
set_option maxRecDepth 20000 in
theorem gX6_save_X4_copyFrom : GoodIn wsX6_save (wsV RX6 189 RX4 yX4_copyFrom wsX4_copyFrom) := goodIn_app (goodIn_of _ (by decide +kernel)) ggX6_save_X4_copyFrom
set_option maxRecDepth 20000 in
theorem ggX6_save_X4_system : GoodIn wsX6_save wsX4_system := goodIn_r _ [56, 14, 66, 67, 68, 69, 70] (by decide +kernel) (by decide +kernel)
set_option maxRecDepth 20000 in
theorem gX6_save_X4_system : GoodIn wsX6_save (wsV RX6 72 RX4 yX4_system wsX4_system) := goodIn_app (goodIn_of _ (by decide +kernel)) ggX6_save_X4_system
set_option maxRecDepth 20000 in
theorem ggX6_save_X0_size : GoodIn wsX6_save wsX0_size := goodIn_r _ [60, 46, 71, 72, 73] (by decide +kernel) (by decide +kernel)
set_option maxRecDepth 20000 in
theorem gX6_save_X0_size : GoodIn wsX6_save (wsV RX6 75 RX0 yX0_size wsX0_size) := goodIn_app (goodIn_of _ (by decide +kernel)) ggX6_save_X0_size
theorem dX6_save_0 : decode cX6_save 0 = .ok (.iload_n 1, 1) := by decide +kernel
theorem dX6_save_1 : decode cX6_save 1 = .ok (.ifCond .lt 8, 3) := by decide +kernel
theorem dX6_save_4 : decode cX6_save 4 = .ok (.iload_n 1, 1) := by decide +kernel
theorem dX6_save_5 : decode cX6_save 5 = .ok (.iconst 2, 1) := by decide +kernel
theorem dX6_save_6 : decode cX6_save 6 = .ok (.if_icmp .lt 5, 3) := by decide +kernel
theorem dX6_save_9 : decode cX6_save 9 = .ok (.iconst (-1), 1) := by decide +kernel
theorem dX6_save_10 : decode cX6_save 10 = .ok (.ireturn, 1) := by decide +kernel
theorem dX6_save_11 : decode cX6_save 11 = .ok (.aload_n 0, 1) := by decide +kernel
theorem dX6_save_12 : decode cX6_save 12 = .ok (.getfield 37, 3) := by decide +kernel
theorem dX6_save_15 : decode cX6_save 15 = .ok (.iload_n 1, 1) := by decide +kernel
theorem dX6_save_16 : decode cX6_save 16 = .ok (.aaload, 1) := by decide +kernel
theorem dX6_save_17 : decode cX6_save 17 = .ok (.astore_n 2, 1) := by decide +kernel
theorem dX6_save_18 : decode cX6_save 18 = .ok (.aload_n 2, 1) := by decide +kernel
theorem dX6_save_19 : decode cX6_save 19 = .ok (.ifnonnull 18, 3) := by decide +kernel
theorem dX6_save_22 : decode cX6_save 22 = .ok (.new 23, 3) := by decide +kernel
theorem dX6_save_25 : decode cX6_save 25 = .ok (.dup, 1) := by decide +kernel
theorem dX6_save_26 : decode cX6_save 26 = .ok (.invokespecial 25, 3) := by decide +kernel
theorem dX6_save_29 : decode cX6_save 29 = .ok (.astore_n 2, 1) := by decide +kernel
theorem dX6_save_30 : decode cX6_save 30 = .ok (.aload_n 0, 1) := by decide +kernel
theorem dX6_save_31 : decode cX6_save 31 = .ok (.getfield 37, 3) := by decide +kernel
theorem dX6_save_34 : decode cX6_save 34 = .ok (.iload_n 1, 1) := by decide +kernel
theorem dX6_save_35 : decode cX6_save 35 = .ok (.aload_n 2, 1) := by decide +kernel
theorem dX6_save_36 : decode cX6_save 36 = .ok (.aastore, 1) := by decide +kernel
theorem dX6_save_37 : decode cX6_save 37 = .ok (.aload_n 2, 1) := by decide +kernel
theorem dX6_save_38 : decode cX6_save 38 = .ok (.aload_n 0, 1) := by decide +kernel
theorem dX6_save_39 : decode cX6_save 39 = .ok (.getfield 26, 3) := by decide +kernel
theorem dX6_save_42 : decode cX6_save 42 = .ok (.invokevirtual 189, 3) := by decide +kernel
theorem dX6_save_45 : decode cX6_save 45 = .ok (.aload_n 0, 1) := by decide +kernel
theorem dX6_save_46 : decode cX6_save 46 = .ok (.getfield 26, 3) := by decide +kernel
theorem dX6_save_49 : decode cX6_save 49 = .ok (.invokevirtual 72, 3) := by decide +kernel
theorem dX6_save_52 : decode cX6_save 52 = .ok (.invokevirtual 75, 3) := by decide +kernel
theorem dX6_save_55 : decode cX6_save 55 = .ok (.ireturn, 1) := by decide +kernel
set_option maxRecDepth 20000 in
theorem ggX6_restore_X4_copyFrom : GoodIn wsX6_restore wsX4_copyFrom := goodIn_r _ [8, 9, 10, 11, 12, 13, 14, 15, 16, 17, 18, 19, 20, 21, 22, 23, 24, 25, 26, 27, 28, 29, 30, 31, 32, 33, 34, 54, 55, 56, 57, 58, 59, 60, 61, 62, 63] (by decide +kernel) (by decide +kernel)
set_option maxRecDepth 20000 in
theorem gX6_restore_X4_copyFrom : GoodIn wsX6_restore (wsV RX6 189 RX4 yX4_copyFrom wsX4_copyFrom) := goodIn_app (goodIn_of _ (by decide +kernel)) ggX6_restore_X4_copyFrom
set_option maxRecDepth 20000 in
theorem ggX6_restore_X1_clear : GoodIn wsX6_restore wsX1_clear := goodIn_r _ [39, 40, 64, 65, 66] (by decide +kernel) (by decide +kernel)
set_option maxRecDepth 20000 in
theorem gX6_restore_X1_clear : GoodIn wsX6_restore (wsV RX6 192 RX1 yX1_clear wsX1_clear) := goodIn_app (goodIn_of _ (by decide +kernel)) ggX6_restore_X1_clear
set_option maxRecDepth 20000 in
theorem ggX6_restore_X4_system : GoodIn wsX6_restore wsX4_system := goodIn_r _ [44, 9, 54, 55, 56, 57, 58] (by decide +kernel) (by decide +kernel)
set_option maxRecDepth 20000 in
theorem gX6_restore_X4_system : GoodIn wsX6_restore (wsV RX6 72 RX4 yX4_system wsX4_system) := goodIn_app (goodIn_of _ (by decide +kernel)) ggX6_restore_X4_system
set_option maxRecDepth 20000 in
theorem ggX6_restore_X0_size : GoodIn wsX6_restore wsX0_size := goodIn_r _ [48, 26, 59, 60, 61] (by decide +kernel) (by decide +kernel)
set_option maxRecDepth 20000 in
theorem gX6_restore_X0_size : GoodIn wsX6_restore (wsV RX6 75 RX0 yX0_size wsX0_size) := goodIn_app (goodIn_of _ (by decide +kernel)) ggX6_restore_X0_size
theorem dX6_restore_0 : decode cX6_restore 0 = .ok (.iload_n 1, 1) := by decide +kernel
theorem dX6_restore_1 : decode cX6_restore 1 = .ok (.ifCond .lt 8, 3) := by decide +kernel
theorem dX6_restore_4 : decode cX6_restore 4 = .ok (.iload_n 1, 1) := by decide +kernel
theorem dX6_restore_5 : decode cX6_restore 5 = .ok (.iconst 2, 1) := by decide +kernel
theorem dX6_restore_6 : decode cX6_restore 6 = .ok (.if_icmp .lt 5, 3) := by decide +kernel
theorem dX6_restore_9 : decode cX6_restore 9 = .ok (.iconst (-1), 1) := by decide +kernel
theorem dX6_restore_10 : decode cX6_restore 10 = .ok (.ireturn, 1) := by decide +kernel
theorem dX6_restore_11 : decode cX6_restore 11 = .ok (.aload_n 0, 1) := by decide +kernel
theorem dX6_restore_12 : decode cX6_restore 12 = .ok (.getfield 37, 3) := by decide +kernel
theorem dX6_restore_15 : decode cX6_restore 15 = .ok (.iload_n 1, 1) := by decide +kernel
theorem dX6_restore_16 : decode cX6_restore 16 = .ok (.aaload, 1) := by decide +kernel
theorem dX6_restore_17 : decode cX6_restore 17 = .ok (.astore_n 2, 1) := by decide +kernel
theorem dX6_restore_18 : decode cX6_restore 18 = .ok (.aload_n 2, 1) := by decide +kernel
theorem dX6_restore_19 : decode cX6_restore 19 = .ok (.ifnonnull 6, 3) := by decide +kernel
theorem dX6_restore_22 : decode cX6_restore 22 = .ok (.bipush (-2), 2) := by decide +kernel
theorem dX6_restore_24 : decode cX6_restore 24 = .ok (.ireturn, 1) := by decide +kernel
theorem dX6_restore_25 : decode cX6_restore 25 = .ok (.aload_n 0, 1) := by decide +kernel
theorem dX6_restore_26 : decode cX6_restore 26 = .ok (.getfield 26, 3) := by decide +kernel
theorem dX6_restore_29 : decode cX6_restore 29 = .ok (.aload_n 2, 1) := by decide +kernel
theorem dX6_restore_30 : decode cX6_restore 30 = .ok (.invokevirtual 189, 3) := by decide +kernel
theorem dX6_restore_33 : decode cX6_restore 33 = .ok (.aload_n 0, 1) := by decide +kernel
theorem dX6_restore_34 : decode cX6_restore 34 = .ok (.getfield 33, 3) := by decide +kernel
theorem dX6_restore_37 : decode cX6_restore 37 = .ok (.invokevirtual 192, 3) := by decide +kernel
theorem dX6_restore_40 : decode cX6_restore 40 = .ok (.aload_n 0, 1) := by decide +kernel
theorem dX6_restore_41 : decode cX6_restore 41 = .ok (.getfield 26, 3) := by decide +kernel
theorem dX6_restore_44 : decode cX6_restore 44 = .ok (.invokevirtual 72, 3) := by decide +kernel
theorem dX6_restore_47 : decode cX6_restore 47 = .ok (.invokevirtual 75, 3) := by decide +kernel
theorem dX6_restore_50 : decode cX6_restore 50 = .ok (.ireturn, 1) := by decide +kernel
set_option maxRecDepth 20000 in
theorem ggX6_constraintCount_X4_system : GoodIn wsX6_constraintCount wsX4_system := goodIn_r _ [6, 7, 19, 20, 21, 22, 23] (by decide +kernel) (by decide +kernel)
set_option maxRecDepth 20000 in
theorem gX6_constraintCount_X4_system : GoodIn wsX6_constraintCount (wsV RX6 72 RX4 yX4_system wsX4_system) := goodIn_app (goodIn_of _ (by decide +kernel)) ggX6_constraintCount_X4_system
set_option maxRecDepth 20000 in
theorem ggX6_constraintCount_X0_size : GoodIn wsX6_constraintCount wsX0_size := goodIn_r _ [12, 13, 24, 25, 26] (by decide +kernel) (by decide +kernel)
set_option maxRecDepth 20000 in
theorem gX6_constraintCount_X0_size : GoodIn wsX6_constraintCount (wsV RX6 75 RX0 yX0_size wsX0_size) := goodIn_app (goodIn_of _ (by decide +kernel)) ggX6_constraintCount_X0_size
theorem dX6_constraintCount_0 : decode cX6_constraintCount 0 = .ok (.aload_n 0, 1) := by decide +kernel
theorem dX6_constraintCount_1 : decode cX6_constraintCount 1 = .ok (.getfield 26, 3) := by decide +kernel
theorem dX6_constraintCount_4 : decode cX6_constraintCount 4 = .ok (.invokevirtual 72, 3) := by decide +kernel
theorem dX6_constraintCount_7 : decode cX6_constraintCount 7 = .ok (.invokevirtual 75, 3) := by decide +kernel
theorem dX6_constraintCount_10 : decode cX6_constraintCount 10 = .ok (.ireturn, 1) := by decide +kernel
set_option maxRecDepth 20000 in
theorem ggX6_softConstraints_X4_system : GoodIn wsX6_softConstraints wsX4_system := goodIn_r _ [6, 7, 20, 21, 22, 23, 24] (by decide +kernel) (by decide +kernel)
set_option maxRecDepth 20000 in
theorem gX6_softConstraints_X4_system : GoodIn wsX6_softConstraints (wsV RX6 72 RX4 yX4_system wsX4_system) := goodIn_app (goodIn_of _ (by decide +kernel)) ggX6_softConstraints_X4_system
set_option maxRecDepth 20000 in
theorem ggX6_softConstraints_X0_softMask : GoodIn wsX6_softConstraints wsX0_softMask := goodIn_r _ [12, 13, 14, 25, 26, 27] (by decide +kernel) (by decide +kernel)
set_option maxRecDepth 20000 in
theorem gX6_softConstraints_X0_softMask : GoodIn wsX6_softConstraints (wsV RX6 94 RX0 yX0_softMask wsX0_softMask) := goodIn_app (goodIn_of _ (by decide +kernel)) ggX6_softConstraints_X0_softMask
theorem dX6_softConstraints_0 : decode cX6_softConstraints 0 = .ok (.aload_n 0, 1) := by decide +kernel
theorem dX6_softConstraints_1 : decode cX6_softConstraints 1 = .ok (.getfield 26, 3) := by decide +kernel
theorem dX6_softConstraints_4 : decode cX6_softConstraints 4 = .ok (.invokevirtual 72, 3) := by decide +kernel
theorem dX6_softConstraints_7 : decode cX6_softConstraints 7 = .ok (.invokevirtual 94, 3) := by decide +kernel
theorem dX6_softConstraints_10 : decode cX6_softConstraints 10 = .ok (.ireturn, 1) := by decide +kernel
set_option maxRecDepth 20000 in
theorem ggX6_undoDepth_X1_depth : GoodIn wsX6_undoDepth wsX1_depth := goodIn_r _ [6, 7, 13, 14, 15] (by decide +kernel) (by decide +kernel)
set_option maxRecDepth 20000 in
theorem gX6_undoDepth_X1_depth : GoodIn wsX6_undoDepth (wsV RX6 126 RX1 yX1_depth wsX1_depth) := goodIn_app (goodIn_of _ (by decide +kernel)) ggX6_undoDepth_X1_depth
theorem dX6_undoDepth_0 : decode cX6_undoDepth 0 = .ok (.aload_n 0, 1) := by decide +kernel
theorem dX6_undoDepth_1 : decode cX6_undoDepth 1 = .ok (.getfield 33, 3) := by decide +kernel
theorem dX6_undoDepth_4 : decode cX6_undoDepth 4 = .ok (.invokevirtual 126, 3) := by decide +kernel
theorem dX6_undoDepth_7 : decode cX6_undoDepth 7 = .ok (.ireturn, 1) := by decide +kernel
theorem dX7_init_0 : decode cX7_init 0 = .ok (.aload_n 0, 1) := by decide +kernel
theorem dX7_init_1 : decode cX7_init 1 = .ok (.invokespecial 1, 3) := by decide +kernel
theorem dX7_init_4 : decode cX7_init 4 = .ok (.aload_n 0, 1) := by decide +kernel
theorem dX7_init_5 : decode cX7_init 5 = .ok (.sipush 568, 3) := by decide +kernel
theorem dX7_init_8 : decode cX7_init 8 = .ok (.newarray .int, 2) := by decide +kernel
theorem dX7_init_10 : decode cX7_init 10 = .ok (.putfield 7, 3) := by decide +kernel
theorem dX7_init_13 : decode cX7_init 13 = .ok (.aload_n 0, 1) := by decide +kernel
theorem dX7_init_14 : decode cX7_init 14 = .ok (.bipush 64, 2) := by decide +kernel
theorem dX7_init_16 : decode cX7_init 16 = .ok (.newarray .int, 2) := by decide +kernel
theorem dX7_init_18 : decode cX7_init 18 = .ok (.putfield 13, 3) := by decide +kernel
theorem dX7_init_21 : decode cX7_init 21 = .ok (.aload_n 0, 1) := by decide +kernel
theorem dX7_init_22 : decode cX7_init 22 = .ok (.sipush 2840, 3) := by decide +kernel
theorem dX7_init_25 : decode cX7_init 25 = .ok (.newarray .int, 2) := by decide +kernel
theorem dX7_init_27 : decode cX7_init 27 = .ok (.putfield 16, 3) := by decide +kernel
theorem dX7_init_30 : decode cX7_init 30 = .ok (.aload_n 0, 1) := by decide +kernel
theorem dX7_init_31 : decode cX7_init 31 = .ok (.sipush 1136, 3) := by decide +kernel
theorem dX7_init_34 : decode cX7_init 34 = .ok (.newarray .int, 2) := by decide +kernel
theorem dX7_init_36 : decode cX7_init 36 = .ok (.putfield 19, 3) := by decide +kernel
theorem dX7_init_39 : decode cX7_init 39 = .ok (.aload_n 0, 1) := by decide +kernel
theorem dX7_init_40 : decode cX7_init 40 = .ok (.iconst 2, 1) := by decide +kernel
theorem dX7_init_41 : decode cX7_init 41 = .ok (.newarray .boolean, 2) := by decide +kernel
theorem dX7_init_43 : decode cX7_init 43 = .ok (.putfield 22, 3) := by decide +kernel
theorem dX7_init_46 : decode cX7_init 46 = .ok (.aload_n 0, 1) := by decide +kernel
theorem dX7_init_47 : decode cX7_init 47 = .ok (.bipush 120, 2) := by decide +kernel
theorem dX7_init_49 : decode cX7_init 49 = .ok (.newarray .int, 2) := by decide +kernel
theorem dX7_init_51 : decode cX7_init 51 = .ok (.putfield 26, 3) := by decide +kernel
theorem dX7_init_54 : decode cX7_init 54 = .ok (.aload_n 0, 1) := by decide +kernel
theorem dX7_init_55 : decode cX7_init 55 = .ok (.bipush 64, 2) := by decide +kernel
theorem dX7_init_57 : decode cX7_init 57 = .ok (.newarray .int, 2) := by decide +kernel
theorem dX7_init_59 : decode cX7_init 59 = .ok (.putfield 29, 3) := by decide +kernel
theorem dX7_init_62 : decode cX7_init 62 = .ok (.aload_n 0, 1) := by decide +kernel
theorem dX7_init_63 : decode cX7_init 63 = .ok (.sipush 1024, 3) := by decide +kernel
theorem dX7_init_66 : decode cX7_init 66 = .ok (.newarray .boolean, 2) := by decide +kernel
theorem dX7_init_68 : decode cX7_init 68 = .ok (.putfield 32, 3) := by decide +kernel
theorem dX7_init_71 : decode cX7_init 71 = .ok (.return_, 1) := by decide +kernel
theorem dX7_in_0 : decode cX7_in 0 = .ok (.iload_n 0, 1) := by decide +kernel
theorem dX7_in_1 : decode cX7_in 1 = .ok (.iload_n 1, 1) := by decide +kernel
theorem dX7_in_2 : decode cX7_in 2 = .ok (.if_icmp .lt 12, 3) := by decide +kernel
theorem dX7_in_5 : decode cX7_in 5 = .ok (.iload_n 0, 1) := by decide +kernel
theorem dX7_in_6 : decode cX7_in 6 = .ok (.iload_n 2, 1) := by decide +kernel
theorem dX7_in_7 : decode cX7_in 7 = .ok (.if_icmp .gt 7, 3) := by decide +kernel
theorem dX7_in_10 : decode cX7_in 10 = .ok (.iconst 1, 1) := by decide +kernel
theorem dX7_in_11 : decode cX7_in 11 = .ok (.goto 4, 3) := by decide +kernel
theorem dX7_in_14 : decode cX7_in 14 = .ok (.iconst 0, 1) := by decide +kernel
theorem dX7_in_15 : decode cX7_in 15 = .ok (.ireturn, 1) := by decide +kernel
theorem dX7_bitCount_0 : decode cX7_bitCount 0 = .ok (.iconst 0, 1) := by decide +kernel
theorem dX7_bitCount_1 : decode cX7_bitCount 1 = .ok (.istore_n 1, 1) := by decide +kernel
theorem dX7_bitCount_2 : decode cX7_bitCount 2 = .ok (.iconst 0, 1) := by decide +kernel
theorem dX7_bitCount_3 : decode cX7_bitCount 3 = .ok (.istore_n 2, 1) := by decide +kernel
theorem dX7_bitCount_4 : decode cX7_bitCount 4 = .ok (.iload_n 2, 1) := by decide +kernel
theorem dX7_bitCount_5 : decode cX7_bitCount 5 = .ok (.bipush 10, 2) := by decide +kernel
theorem dX7_bitCount_7 : decode cX7_bitCount 7 = .ok (.if_icmp .ge 17, 3) := by decide +kernel
theorem dX7_bitCount_10 : decode cX7_bitCount 10 = .ok (.iload_n 1, 1) := by decide +kernel
theorem dX7_bitCount_11 : decode cX7_bitCount 11 = .ok (.iload_n 0, 1) := by decide +kernel
theorem dX7_bitCount_12 : decode cX7_bitCount 12 = .ok (.iload_n 2, 1) := by decide +kernel
theorem dX7_bitCount_13 : decode cX7_bitCount 13 = .ok (.ishr, 1) := by decide +kernel
theorem dX7_bitCount_14 : decode cX7_bitCount 14 = .ok (.iconst 1, 1) := by decide +kernel
theorem dX7_bitCount_15 : decode cX7_bitCount 15 = .ok (.iand, 1) := by decide +kernel
theorem dX7_bitCount_16 : decode cX7_bitCount 16 = .ok (.iadd, 1) := by decide +kernel
theorem dX7_bitCount_17 : decode cX7_bitCount 17 = .ok (.istore_n 1, 1) := by decide +kernel
theorem dX7_bitCount_18 : decode cX7_bitCount 18 = .ok (.iinc 2 1, 3) := by decide +kernel
theorem dX7_bitCount_21 : decode cX7_bitCount 21 = .ok (.goto (-17), 3) := by decide +kernel
theorem dX7_bitCount_24 : decode cX7_bitCount 24 = .ok (.iload_n 1, 1) := by decide +kernel
theorem dX7_bitCount_25 : decode cX7_bitCount 25 = .ok (.ireturn, 1) := by decide +kernel
theorem dX7_has_0 : decode cX7_has 0 = .ok (.iload_n 0, 1) := by decide +kernel
theorem dX7_has_1 : decode cX7_has 1 = .ok (.iload_n 1, 1) := by decide +kernel
theorem dX7_has_2 : decode cX7_has 2 = .ok (.ishr, 1) := by decide +kernel
theorem dX7_has_3 : decode cX7_has 3 = .ok (.iconst 1, 1) := by decide +kernel
theorem dX7_has_4 : decode cX7_has 4 = .ok (.iand, 1) := by decide +kernel
theorem dX7_has_5 : decode cX7_has 5 = .ok (.iconst 1, 1) := by decide +kernel
theorem dX7_has_6 : decode cX7_has 6 = .ok (.if_icmp .ne 7, 3) := by decide +kernel
theorem dX7_has_9 : decode cX7_has 9 = .ok (.iconst 1, 1) := by decide +kernel
theorem dX7_has_10 : decode cX7_has 10 = .ok (.goto 4, 3) := by decide +kernel
theorem dX7_has_13 : decode cX7_has 13 = .ok (.iconst 0, 1) := by decide +kernel
theorem dX7_has_14 : decode cX7_has 14 = .ok (.ireturn, 1) := by decide +kernel
theorem dX7_characterAt_0 : decode cX7_characterAt 0 = .ok (.iload_n 1, 1) := by decide +kernel
theorem dX7_characterAt_1 : decode cX7_characterAt 1 = .ok (.aload_n 0, 1) := by decide +kernel
theorem dX7_characterAt_2 : decode cX7_characterAt 2 = .ok (.getfield 39, 3) := by decide +kernel
theorem dX7_characterAt_5 : decode cX7_characterAt 5 = .ok (.if_icmp .ge 12, 3) := by decide +kernel
theorem dX7_characterAt_8 : decode cX7_characterAt 8 = .ok (.aload_n 0, 1) := by decide +kernel
theorem dX7_characterAt_9 : decode cX7_characterAt 9 = .ok (.getfield 26, 3) := by decide +kernel
theorem dX7_characterAt_12 : decode cX7_characterAt 12 = .ok (.iload_n 1, 1) := by decide +kernel
theorem dX7_characterAt_13 : decode cX7_characterAt 13 = .ok (.iaload, 1) := by decide +kernel
theorem dX7_characterAt_14 : decode cX7_characterAt 14 = .ok (.goto 4, 3) := by decide +kernel
theorem dX7_characterAt_17 : decode cX7_characterAt 17 = .ok (.iconst (-1), 1) := by decide +kernel
theorem dX7_characterAt_18 : decode cX7_characterAt 18 = .ok (.ireturn, 1) := by decide +kernel
theorem dX7_isWord_0 : decode cX7_isWord 0 = .ok (.iload_n 2, 1) := by decide +kernel
theorem dX7_isWord_1 : decode cX7_isWord 1 = .ok (.ifCond .ne 7, 3) := by decide +kernel
theorem dX7_isWord_4 : decode cX7_isWord 4 = .ok (.iconst 1, 1) := by decide +kernel
theorem dX7_isWord_5 : decode cX7_isWord 5 = .ok (.goto 21, 3) := by decide +kernel
theorem dX7_isWord_8 : decode cX7_isWord 8 = .ok (.iload_n 3, 1) := by decide +kernel
theorem dX7_isWord_9 : decode cX7_isWord 9 = .ok (.ifCond .ne 7, 3) := by decide +kernel
theorem dX7_isWord_12 : decode cX7_isWord 12 = .ok (.iconst 2, 1) := by decide +kernel
theorem dX7_isWord_13 : decode cX7_isWord 13 = .ok (.goto 13, 3) := by decide +kernel
theorem dX7_isWord_16 : decode cX7_isWord 16 = .ok (.iload 4, 2) := by decide +kernel
theorem dX7_isWord_18 : decode cX7_isWord 18 = .ok (.ifCond .ne 7, 3) := by decide +kernel
theorem dX7_isWord_21 : decode cX7_isWord 21 = .ok (.iconst 3, 1) := by decide +kernel
theorem dX7_isWord_22 : decode cX7_isWord 22 = .ok (.goto 4, 3) := by decide +kernel
theorem dX7_isWord_25 : decode cX7_isWord 25 = .ok (.iconst 4, 1) := by decide +kernel
theorem dX7_isWord_26 : decode cX7_isWord 26 = .ok (.istore 5, 2) := by decide +kernel
theorem dX7_isWord_28 : decode cX7_isWord 28 = .ok (.aload_n 0, 1) := by decide +kernel
theorem dX7_isWord_29 : decode cX7_isWord 29 = .ok (.getfield 42, 3) := by decide +kernel
theorem dX7_isWord_32 : decode cX7_isWord 32 = .ok (.aload_n 0, 1) := by decide +kernel
theorem dX7_isWord_33 : decode cX7_isWord 33 = .ok (.getfield 45, 3) := by decide +kernel
theorem dX7_isWord_36 : decode cX7_isWord 36 = .ok (.isub, 1) := by decide +kernel
theorem dX7_isWord_37 : decode cX7_isWord 37 = .ok (.iload 5, 2) := by decide +kernel
theorem dX7_isWord_39 : decode cX7_isWord 39 = .ok (.if_icmp .ne 20, 3) := by decide +kernel
theorem dX7_isWord_42 : decode cX7_isWord 42 = .ok (.aload_n 0, 1) := by decide +kernel
theorem dX7_isWord_43 : decode cX7_isWord 43 = .ok (.getfield 26, 3) := by decide +kernel
theorem dX7_isWord_46 : decode cX7_isWord 46 = .ok (.aload_n 0, 1) := by decide +kernel
theorem dX7_isWord_47 : decode cX7_isWord 47 = .ok (.getfield 45, 3) := by decide +kernel
theorem dX7_isWord_50 : decode cX7_isWord 50 = .ok (.iaload, 1) := by decide +kernel
theorem dX7_isWord_51 : decode cX7_isWord 51 = .ok (.iload_n 1, 1) := by decide +kernel
theorem dX7_isWord_52 : decode cX7_isWord 52 = .ok (.if_icmp .ne 7, 3) := by decide +kernel
theorem dX7_isWord_55 : decode cX7_isWord 55 = .ok (.iconst 1, 1) := by decide +kernel
theorem dX7_isWord_56 : decode cX7_isWord 56 = .ok (.goto 4, 3) := by decide +kernel
theorem dX7_isWord_59 : decode cX7_isWord 59 = .ok (.iconst 0, 1) := by decide +kernel
theorem dX7_isWord_60 : decode cX7_isWord 60 = .ok (.istore 6, 2) := by decide +kernel
theorem dX7_isWord_62 : decode cX7_isWord 62 = .ok (.iload 6, 2) := by decide +kernel
theorem dX7_isWord_64 : decode cX7_isWord 64 = .ok (.ifCond .eq 28, 3) := by decide +kernel
theorem dX7_isWord_67 : decode cX7_isWord 67 = .ok (.iload 5, 2) := by decide +kernel
theorem dX7_isWord_69 : decode cX7_isWord 69 = .ok (.iconst 2, 1) := by decide +kernel
theorem dX7_isWord_70 : decode cX7_isWord 70 = .ok (.if_icmp .lt 18, 3) := by decide +kernel
theorem dX7_isWord_73 : decode cX7_isWord 73 = .ok (.aload_n 0, 1) := by decide +kernel
theorem dX7_isWord_74 : decode cX7_isWord 74 = .ok (.getfield 26, 3) := by decide +kernel
theorem dX7_isWord_77 : decode cX7_isWord 77 = .ok (.aload_n 0, 1) := by decide +kernel
theorem dX7_isWord_78 : decode cX7_isWord 78 = .ok (.getfield 45, 3) := by decide +kernel
theorem dX7_isWord_81 : decode cX7_isWord 81 = .ok (.iconst 1, 1) := by decide +kernel
theorem dX7_isWord_82 : decode cX7_isWord 82 = .ok (.iadd, 1) := by decide +kernel
theorem dX7_isWord_83 : decode cX7_isWord 83 = .ok (.iaload, 1) := by decide +kernel
theorem dX7_isWord_84 : decode cX7_isWord 84 = .ok (.iload_n 2, 1) := by decide +kernel
theorem dX7_isWord_85 : decode cX7_isWord 85 = .ok (.if_icmp .ne 7, 3) := by decide +kernel
theorem dX7_isWord_88 : decode cX7_isWord 88 = .ok (.iconst 1, 1) := by decide +kernel
theorem dX7_isWord_89 : decode cX7_isWord 89 = .ok (.goto 4, 3) := by decide +kernel
theorem dX7_isWord_92 : decode cX7_isWord 92 = .ok (.iconst 0, 1) := by decide +kernel
theorem dX7_isWord_93 : decode cX7_isWord 93 = .ok (.istore 6, 2) := by decide +kernel
theorem dX7_isWord_95 : decode cX7_isWord 95 = .ok (.iload 6, 2) := by decide +kernel
theorem dX7_isWord_97 : decode cX7_isWord 97 = .ok (.ifCond .eq 28, 3) := by decide +kernel
theorem dX7_isWord_100 : decode cX7_isWord 100 = .ok (.iload 5, 2) := by decide +kernel
theorem dX7_isWord_102 : decode cX7_isWord 102 = .ok (.iconst 3, 1) := by decide +kernel
theorem dX7_isWord_103 : decode cX7_isWord 103 = .ok (.if_icmp .lt 18, 3) := by decide +kernel
theorem dX7_isWord_106 : decode cX7_isWord 106 = .ok (.aload_n 0, 1) := by decide +kernel
theorem dX7_isWord_107 : decode cX7_isWord 107 = .ok (.getfield 26, 3) := by decide +kernel
theorem dX7_isWord_110 : decode cX7_isWord 110 = .ok (.aload_n 0, 1) := by decide +kernel
theorem dX7_isWord_111 : decode cX7_isWord 111 = .ok (.getfield 45, 3) := by decide +kernel
theorem dX7_isWord_114 : decode cX7_isWord 114 = .ok (.iconst 2, 1) := by decide +kernel
theorem dX7_isWord_115 : decode cX7_isWord 115 = .ok (.iadd, 1) := by decide +kernel
theorem dX7_isWord_116 : decode cX7_isWord 116 = .ok (.iaload, 1) := by decide +kernel
theorem dX7_isWord_117 : decode cX7_isWord 117 = .ok (.iload_n 3, 1) := by decide +kernel
theorem dX7_isWord_118 : decode cX7_isWord 118 = .ok (.if_icmp .ne 7, 3) := by decide +kernel
theorem dX7_isWord_121 : decode cX7_isWord 121 = .ok (.iconst 1, 1) := by decide +kernel
theorem dX7_isWord_122 : decode cX7_isWord 122 = .ok (.goto 4, 3) := by decide +kernel
theorem dX7_isWord_125 : decode cX7_isWord 125 = .ok (.iconst 0, 1) := by decide +kernel
theorem dX7_isWord_126 : decode cX7_isWord 126 = .ok (.istore 6, 2) := by decide +kernel
theorem dX7_isWord_128 : decode cX7_isWord 128 = .ok (.iload 6, 2) := by decide +kernel
theorem dX7_isWord_130 : decode cX7_isWord 130 = .ok (.ifCond .eq 29, 3) := by decide +kernel
theorem dX7_isWord_133 : decode cX7_isWord 133 = .ok (.iload 5, 2) := by decide +kernel
theorem dX7_isWord_135 : decode cX7_isWord 135 = .ok (.iconst 4, 1) := by decide +kernel
theorem dX7_isWord_136 : decode cX7_isWord 136 = .ok (.if_icmp .lt 19, 3) := by decide +kernel
theorem dX7_isWord_139 : decode cX7_isWord 139 = .ok (.aload_n 0, 1) := by decide +kernel
theorem dX7_isWord_140 : decode cX7_isWord 140 = .ok (.getfield 26, 3) := by decide +kernel
theorem dX7_isWord_143 : decode cX7_isWord 143 = .ok (.aload_n 0, 1) := by decide +kernel
theorem dX7_isWord_144 : decode cX7_isWord 144 = .ok (.getfield 45, 3) := by decide +kernel
theorem dX7_isWord_147 : decode cX7_isWord 147 = .ok (.iconst 3, 1) := by decide +kernel
theorem dX7_isWord_148 : decode cX7_isWord 148 = .ok (.iadd, 1) := by decide +kernel
theorem dX7_isWord_149 : decode cX7_isWord 149 = .ok (.iaload, 1) := by decide +kernel
theorem dX7_isWord_150 : decode cX7_isWord 150 = .ok (.iload 4, 2) := by decide +kernel
theorem dX7_isWord_152 : decode cX7_isWord 152 = .ok (.if_icmp .ne 7, 3) := by decide +kernel
theorem dX7_isWord_155 : decode cX7_isWord 155 = .ok (.iconst 1, 1) := by decide +kernel
theorem dX7_isWord_156 : decode cX7_isWord 156 = .ok (.goto 4, 3) := by decide +kernel
theorem dX7_isWord_159 : decode cX7_isWord 159 = .ok (.iconst 0, 1) := by decide +kernel
theorem dX7_isWord_160 : decode cX7_isWord 160 = .ok (.ireturn, 1) := by decide +kernel
set_option maxRecDepth 20000 in
theorem ggX7_keyword_X7_isWord : GoodIn wsX7_keyword wsX7_isWord := goodIn_r _ [5, 6, 7, 8, 9, 10, 11, 12, 13, 14, 15, 16, 17, 18, 19, 20, 21, 22, 23, 24, 25] (by decide +kernel) (by decide +kernel)
set_option maxRecDepth 20000 in
theorem gX7_keyword_X7_isWord : GoodIn wsX7_keyword (wsV RX7 48 RX7 yX7_isWord wsX7_isWord) := goodIn_app (goodIn_of _ (by decide +kernel)) ggX7_keyword_X7_isWord
theorem dX7_keyword_0 : decode cX7_keyword 0 = .ok (.aload_n 0, 1) := by decide +kernel
theorem dX7_keyword_1 : decode cX7_keyword 1 = .ok (.bipush 111, 2) := by decide +kernel
theorem dX7_keyword_3 : decode cX7_keyword 3 = .ok (.bipush 114, 2) := by decide +kernel
theorem dX7_keyword_5 : decode cX7_keyword 5 = .ok (.iconst 0, 1) := by decide +kernel
theorem dX7_keyword_6 : decode cX7_keyword 6 = .ok (.iconst 0, 1) := by decide +kernel
theorem dX7_keyword_7 : decode cX7_keyword 7 = .ok (.invokevirtual 48, 3) := by decide +kernel
theorem dX7_keyword_10 : decode cX7_keyword 10 = .ok (.ifCond .eq 5, 3) := by decide +kernel
theorem dX7_keyword_13 : decode cX7_keyword 13 = .ok (.iconst 1, 1) := by decide +kernel
theorem dX7_keyword_14 : decode cX7_keyword 14 = .ok (.ireturn, 1) := by decide +kernel
theorem dX7_keyword_15 : decode cX7_keyword 15 = .ok (.aload_n 0, 1) := by decide +kernel
theorem dX7_keyword_16 : decode cX7_keyword 16 = .ok (.bipush 120, 2) := by decide +kernel
theorem dX7_keyword_18 : decode cX7_keyword 18 = .ok (.bipush 111, 2) := by decide +kernel
theorem dX7_keyword_20 : decode cX7_keyword 20 = .ok (.bipush 114, 2) := by decide +kernel
theorem dX7_keyword_22 : decode cX7_keyword 22 = .ok (.iconst 0, 1) := by decide +kernel
theorem dX7_keyword_23 : decode cX7_keyword 23 = .ok (.invokevirtual 48, 3) := by decide +kernel
theorem dX7_keyword_26 : decode cX7_keyword 26 = .ok (.ifCond .eq 5, 3) := by decide +kernel
theorem dX7_keyword_29 : decode cX7_keyword 29 = .ok (.iconst 2, 1) := by decide +kernel
theorem dX7_keyword_30 : decode cX7_keyword 30 = .ok (.ireturn, 1) := by decide +kernel
theorem dX7_keyword_31 : decode cX7_keyword 31 = .ok (.aload_n 0, 1) := by decide +kernel
theorem dX7_keyword_32 : decode cX7_keyword 32 = .ok (.bipush 109, 2) := by decide +kernel
theorem dX7_keyword_34 : decode cX7_keyword 34 = .ok (.bipush 111, 2) := by decide +kernel
theorem dX7_keyword_36 : decode cX7_keyword 36 = .ok (.bipush 115, 2) := by decide +kernel
theorem dX7_keyword_38 : decode cX7_keyword 38 = .ok (.bipush 116, 2) := by decide +kernel
theorem dX7_keyword_40 : decode cX7_keyword 40 = .ok (.invokevirtual 48, 3) := by decide +kernel
theorem dX7_keyword_43 : decode cX7_keyword 43 = .ok (.ifCond .eq 5, 3) := by decide +kernel
theorem dX7_keyword_46 : decode cX7_keyword 46 = .ok (.iconst 3, 1) := by decide +kernel
theorem dX7_keyword_47 : decode cX7_keyword 47 = .ok (.ireturn, 1) := by decide +kernel
theorem dX7_keyword_48 : decode cX7_keyword 48 = .ok (.aload_n 0, 1) := by decide +kernel
theorem dX7_keyword_49 : decode cX7_keyword 49 = .ok (.bipush 119, 2) := by decide +kernel
theorem dX7_keyword_51 : decode cX7_keyword 51 = .ok (.iconst 0, 1) := by decide +kernel
theorem dX7_keyword_52 : decode cX7_keyword 52 = .ok (.iconst 0, 1) := by decide +kernel
theorem dX7_keyword_53 : decode cX7_keyword 53 = .ok (.iconst 0, 1) := by decide +kernel
theorem dX7_keyword_54 : decode cX7_keyword 54 = .ok (.invokevirtual 48, 3) := by decide +kernel
theorem dX7_keyword_57 : decode cX7_keyword 57 = .ok (.ifCond .eq 7, 3) := by decide +kernel
theorem dX7_keyword_60 : decode cX7_keyword 60 = .ok (.iconst 4, 1) := by decide +kernel
theorem dX7_keyword_61 : decode cX7_keyword 61 = .ok (.goto 24, 3) := by decide +kernel
theorem dX7_keyword_64 : decode cX7_keyword 64 = .ok (.aload_n 0, 1) := by decide +kernel
theorem dX7_keyword_65 : decode cX7_keyword 65 = .ok (.bipush 104, 2) := by decide +kernel
theorem dX7_keyword_67 : decode cX7_keyword 67 = .ok (.bipush 97, 2) := by decide +kernel
theorem dX7_keyword_69 : decode cX7_keyword 69 = .ok (.bipush 114, 2) := by decide +kernel
theorem dX7_keyword_71 : decode cX7_keyword 71 = .ok (.bipush 100, 2) := by decide +kernel
theorem dX7_keyword_73 : decode cX7_keyword 73 = .ok (.invokevirtual 48, 3) := by decide +kernel
theorem dX7_keyword_76 : decode cX7_keyword 76 = .ok (.ifCond .eq 7, 3) := by decide +kernel
theorem dX7_keyword_79 : decode cX7_keyword 79 = .ok (.iconst 5, 1) := by decide +kernel
theorem dX7_keyword_80 : decode cX7_keyword 80 = .ok (.goto 5, 3) := by decide +kernel
theorem dX7_keyword_83 : decode cX7_keyword 83 = .ok (.bipush (-9), 2) := by decide +kernel
theorem dX7_keyword_85 : decode cX7_keyword 85 = .ok (.ireturn, 1) := by decide +kernel
set_option maxRecDepth 20000 in
theorem ggX7_advance_X7_characterAt : GoodIn wsX7_advance wsX7_characterAt := goodIn_r _ [9, 10, 11, 23, 24, 25, 26, 27, 28, 29, 30, 31, 32, 33, 34, 35, 36, 37, 38, 39] (by decide +kernel) (by decide +kernel)
set_option maxRecDepth 20000 in
theorem gX7_advance_X7_characterAt : GoodIn wsX7_advance (wsV RX7 52 RX7 yX7_characterAt wsX7_characterAt) := goodIn_app (goodIn_of _ (by decide +kernel)) ggX7_advance_X7_characterAt
set_option maxRecDepth 20000 in
theorem ggX7_advance_X7_in : GoodIn wsX7_advance wsX7_in := goodIn_r _ [14] (by decide +kernel) (by decide +kernel)
set_option maxRecDepth 20000 in
theorem gX7_advance_X7_in : GoodIn wsX7_advance (va_wsS RX7 59 yX7_in wsX7_in) := goodIn_app (goodIn_of _ (by decide +kernel)) ggX7_advance_X7_in
set_option maxRecDepth 20000 in
theorem ggX7_advance_X7_keyword : GoodIn wsX7_advance wsX7_keyword := goodIn_r _ [18, 19, 20, 21, 8, 22, 1, 2, 11, 23, 24, 25, 26, 27, 28, 29, 30, 31, 32, 33, 34, 35, 36, 37, 38, 39] (by decide +kernel) (by decide +kernel)
set_option maxRecDepth 20000 in
theorem gX7_advance_X7_keyword : GoodIn wsX7_advance (wsV RX7 63 RX7 yX7_keyword wsX7_keyword) := goodIn_app (goodIn_of _ (by decide +kernel)) ggX7_advance_X7_keyword
theorem dX7_advance_0 : decode cX7_advance 0 = .ok (.aload_n 0, 1) := by decide +kernel
theorem dX7_advance_1 : decode cX7_advance 1 = .ok (.aload_n 0, 1) := by decide +kernel
theorem dX7_advance_2 : decode cX7_advance 2 = .ok (.getfield 42, 3) := by decide +kernel
theorem dX7_advance_5 : decode cX7_advance 5 = .ok (.invokevirtual 52, 3) := by decide +kernel
theorem dX7_advance_8 : decode cX7_advance 8 = .ok (.bipush 32, 2) := by decide +kernel
theorem dX7_advance_10 : decode cX7_advance 10 = .ok (.if_icmp .ne 16, 3) := by decide +kernel
theorem dX7_advance_13 : decode cX7_advance 13 = .ok (.aload_n 0, 1) := by decide +kernel
theorem dX7_advance_14 : decode cX7_advance 14 = .ok (.dup, 1) := by decide +kernel
theorem dX7_advance_15 : decode cX7_advance 15 = .ok (.getfield 42, 3) := by decide +kernel
theorem dX7_advance_18 : decode cX7_advance 18 = .ok (.iconst 1, 1) := by decide +kernel
theorem dX7_advance_19 : decode cX7_advance 19 = .ok (.iadd, 1) := by decide +kernel
theorem dX7_advance_20 : decode cX7_advance 20 = .ok (.putfield 42, 3) := by decide +kernel
theorem dX7_advance_23 : decode cX7_advance 23 = .ok (.goto (-23), 3) := by decide +kernel
theorem dX7_advance_26 : decode cX7_advance 26 = .ok (.aload_n 0, 1) := by decide +kernel
theorem dX7_advance_27 : decode cX7_advance 27 = .ok (.aload_n 0, 1) := by decide +kernel
theorem dX7_advance_28 : decode cX7_advance 28 = .ok (.getfield 42, 3) := by decide +kernel
theorem dX7_advance_31 : decode cX7_advance 31 = .ok (.putfield 45, 3) := by decide +kernel
theorem dX7_advance_34 : decode cX7_advance 34 = .ok (.aload_n 0, 1) := by decide +kernel
theorem dX7_advance_35 : decode cX7_advance 35 = .ok (.aload_n 0, 1) := by decide +kernel
theorem dX7_advance_36 : decode cX7_advance 36 = .ok (.getfield 42, 3) := by decide +kernel
theorem dX7_advance_39 : decode cX7_advance 39 = .ok (.invokevirtual 52, 3) := by decide +kernel
theorem dX7_advance_42 : decode cX7_advance 42 = .ok (.istore_n 1, 1) := by decide +kernel
theorem dX7_advance_43 : decode cX7_advance 43 = .ok (.iload_n 1, 1) := by decide +kernel
theorem dX7_advance_44 : decode cX7_advance 44 = .ok (.ifCond .ge 11, 3) := by decide +kernel
theorem dX7_advance_47 : decode cX7_advance 47 = .ok (.aload_n 0, 1) := by decide +kernel
theorem dX7_advance_48 : decode cX7_advance 48 = .ok (.iconst 0, 1) := by decide +kernel
theorem dX7_advance_49 : decode cX7_advance 49 = .ok (.putfield 56, 3) := by decide +kernel
theorem dX7_advance_52 : decode cX7_advance 52 = .ok (.goto 119, 3) := by decide +kernel
theorem dX7_advance_55 : decode cX7_advance 55 = .ok (.iload_n 1, 1) := by decide +kernel
theorem dX7_advance_56 : decode cX7_advance 56 = .ok (.bipush 97, 2) := by decide +kernel
theorem dX7_advance_58 : decode cX7_advance 58 = .ok (.bipush 122, 2) := by decide +kernel
theorem dX7_advance_60 : decode cX7_advance 60 = .ok (.invokestatic 59, 3) := by decide +kernel
theorem dX7_advance_63 : decode cX7_advance 63 = .ok (.ifCond .eq 50, 3) := by decide +kernel
theorem dX7_advance_66 : decode cX7_advance 66 = .ok (.aload_n 0, 1) := by decide +kernel
theorem dX7_advance_67 : decode cX7_advance 67 = .ok (.aload_n 0, 1) := by decide +kernel
theorem dX7_advance_68 : decode cX7_advance 68 = .ok (.getfield 42, 3) := by decide +kernel
theorem dX7_advance_71 : decode cX7_advance 71 = .ok (.invokevirtual 52, 3) := by decide +kernel
theorem dX7_advance_74 : decode cX7_advance 74 = .ok (.bipush 97, 2) := by decide +kernel
theorem dX7_advance_76 : decode cX7_advance 76 = .ok (.bipush 122, 2) := by decide +kernel
theorem dX7_advance_78 : decode cX7_advance 78 = .ok (.invokestatic 59, 3) := by decide +kernel
theorem dX7_advance_81 : decode cX7_advance 81 = .ok (.ifCond .eq 16, 3) := by decide +kernel
theorem dX7_advance_84 : decode cX7_advance 84 = .ok (.aload_n 0, 1) := by decide +kernel
theorem dX7_advance_85 : decode cX7_advance 85 = .ok (.dup, 1) := by decide +kernel
theorem dX7_advance_86 : decode cX7_advance 86 = .ok (.getfield 42, 3) := by decide +kernel
theorem dX7_advance_89 : decode cX7_advance 89 = .ok (.iconst 1, 1) := by decide +kernel
theorem dX7_advance_90 : decode cX7_advance 90 = .ok (.iadd, 1) := by decide +kernel
theorem dX7_advance_91 : decode cX7_advance 91 = .ok (.putfield 42, 3) := by decide +kernel
theorem dX7_advance_94 : decode cX7_advance 94 = .ok (.goto (-28), 3) := by decide +kernel
theorem dX7_advance_97 : decode cX7_advance 97 = .ok (.aload_n 0, 1) := by decide +kernel
theorem dX7_advance_98 : decode cX7_advance 98 = .ok (.iconst 1, 1) := by decide +kernel
theorem dX7_advance_99 : decode cX7_advance 99 = .ok (.putfield 56, 3) := by decide +kernel
theorem dX7_advance_102 : decode cX7_advance 102 = .ok (.aload_n 0, 1) := by decide +kernel
theorem dX7_advance_103 : decode cX7_advance 103 = .ok (.aload_n 0, 1) := by decide +kernel
theorem dX7_advance_104 : decode cX7_advance 104 = .ok (.invokevirtual 63, 3) := by decide +kernel
theorem dX7_advance_107 : decode cX7_advance 107 = .ok (.putfield 67, 3) := by decide +kernel
theorem dX7_advance_110 : decode cX7_advance 110 = .ok (.goto 61, 3) := by decide +kernel
theorem dX7_advance_113 : decode cX7_advance 113 = .ok (.aload_n 0, 1) := by decide +kernel
theorem dX7_advance_114 : decode cX7_advance 114 = .ok (.dup, 1) := by decide +kernel
theorem dX7_advance_115 : decode cX7_advance 115 = .ok (.getfield 42, 3) := by decide +kernel
theorem dX7_advance_118 : decode cX7_advance 118 = .ok (.iconst 1, 1) := by decide +kernel
theorem dX7_advance_119 : decode cX7_advance 119 = .ok (.iadd, 1) := by decide +kernel
theorem dX7_advance_120 : decode cX7_advance 120 = .ok (.putfield 42, 3) := by decide +kernel
theorem dX7_advance_123 : decode cX7_advance 123 = .ok (.aload_n 0, 1) := by decide +kernel
theorem dX7_advance_124 : decode cX7_advance 124 = .ok (.iload_n 1, 1) := by decide +kernel
theorem dX7_advance_125 : decode cX7_advance 125 = .ok (.bipush 48, 2) := by decide +kernel
theorem dX7_advance_127 : decode cX7_advance 127 = .ok (.bipush 57, 2) := by decide +kernel
theorem dX7_advance_129 : decode cX7_advance 129 = .ok (.invokestatic 59, 3) := by decide +kernel
theorem dX7_advance_132 : decode cX7_advance 132 = .ok (.ifCond .eq 7, 3) := by decide +kernel
theorem dX7_advance_135 : decode cX7_advance 135 = .ok (.iconst 2, 1) := by decide +kernel
theorem dX7_advance_136 : decode cX7_advance 136 = .ok (.goto 24, 3) := by decide +kernel
theorem dX7_advance_139 : decode cX7_advance 139 = .ok (.iload_n 1, 1) := by decide +kernel
theorem dX7_advance_140 : decode cX7_advance 140 = .ok (.bipush 45, 2) := by decide +kernel
theorem dX7_advance_142 : decode cX7_advance 142 = .ok (.if_icmp .ne 7, 3) := by decide +kernel
theorem dX7_advance_145 : decode cX7_advance 145 = .ok (.iconst 3, 1) := by decide +kernel
theorem dX7_advance_146 : decode cX7_advance 146 = .ok (.goto 14, 3) := by decide +kernel
theorem dX7_advance_149 : decode cX7_advance 149 = .ok (.iload_n 1, 1) := by decide +kernel
theorem dX7_advance_150 : decode cX7_advance 150 = .ok (.bipush 59, 2) := by decide +kernel
theorem dX7_advance_152 : decode cX7_advance 152 = .ok (.if_icmp .ne 7, 3) := by decide +kernel
theorem dX7_advance_155 : decode cX7_advance 155 = .ok (.iconst 4, 1) := by decide +kernel
theorem dX7_advance_156 : decode cX7_advance 156 = .ok (.goto 4, 3) := by decide +kernel
theorem dX7_advance_159 : decode cX7_advance 159 = .ok (.iconst 5, 1) := by decide +kernel
theorem dX7_advance_160 : decode cX7_advance 160 = .ok (.putfield 56, 3) := by decide +kernel
theorem dX7_advance_163 : decode cX7_advance 163 = .ok (.aload_n 0, 1) := by decide +kernel
theorem dX7_advance_164 : decode cX7_advance 164 = .ok (.iload_n 1, 1) := by decide +kernel
theorem dX7_advance_165 : decode cX7_advance 165 = .ok (.bipush 48, 2) := by decide +kernel
theorem dX7_advance_167 : decode cX7_advance 167 = .ok (.isub, 1) := by decide +kernel
theorem dX7_advance_168 : decode cX7_advance 168 = .ok (.putfield 67, 3) := by decide +kernel
theorem dX7_advance_171 : decode cX7_advance 171 = .ok (.return_, 1) := by decide +kernel
theorem dX7_isFine_0 : decode cX7_isFine 0 = .ok (.aload_n 0, 1) := by decide +kernel
theorem dX7_isFine_1 : decode cX7_isFine 1 = .ok (.getfield 70, 3) := by decide +kernel
theorem dX7_isFine_4 : decode cX7_isFine 4 = .ok (.bipush (-9), 2) := by decide +kernel
theorem dX7_isFine_6 : decode cX7_isFine 6 = .ok (.if_icmp .ne 7, 3) := by decide +kernel
theorem dX7_isFine_9 : decode cX7_isFine 9 = .ok (.iconst 1, 1) := by decide +kernel
theorem dX7_isFine_10 : decode cX7_isFine 10 = .ok (.goto 4, 3) := by decide +kernel
theorem dX7_isFine_13 : decode cX7_isFine 13 = .ok (.iconst 0, 1) := by decide +kernel
theorem dX7_isFine_14 : decode cX7_isFine 14 = .ok (.ireturn, 1) := by decide +kernel
set_option maxRecDepth 20000 in
theorem ggX7_take_X7_isFine : GoodIn wsX7_take wsX7_isFine := goodIn_r _ [8, 3, 32, 33, 34, 35, 36, 37, 38, 39, 40, 41, 42, 43, 44, 45, 46, 47, 48] (by decide +kernel) (by decide +kernel)
set_option maxRecDepth 20000 in
theorem gX7_take_X7_isFine : GoodIn wsX7_take (wsV RX7 73 RX7 yX7_isFine wsX7_isFine) := goodIn_app (goodIn_of _ (by decide +kernel)) ggX7_take_X7_isFine
set_option maxRecDepth 20000 in
theorem ggX7_take_X7_advance : GoodIn wsX7_take wsX7_advance := goodIn_r _ [12, 13, 2, 14, 1, 15, 16, 17, 7, 18, 19, 20, 21, 22, 23, 24, 25, 26, 27, 28, 29, 30, 31, 32, 33, 34, 35, 36, 37, 38, 39, 40, 41, 42, 43, 44, 45, 46, 47, 48] (by decide +kernel) (by decide +kernel)
set_option maxRecDepth 20000 in
theorem gX7_take_X7_advance : GoodIn wsX7_take (wsV RX7 77 RX7 yX7_advance wsX7_advance) := goodIn_app (goodIn_of _ (by decide +kernel)) ggX7_take_X7_advance
theorem dX7_take_0 : decode cX7_take 0 = .ok (.aload_n 0, 1) := by decide +kernel
theorem dX7_take_1 : decode cX7_take 1 = .ok (.getfield 67, 3) := by decide +kernel
theorem dX7_take_4 : decode cX7_take 4 = .ok (.istore_n 2, 1) := by decide +kernel
theorem dX7_take_5 : decode cX7_take 5 = .ok (.aload_n 0, 1) := by decide +kernel
theorem dX7_take_6 : decode cX7_take 6 = .ok (.invokevirtual 73, 3) := by decide +kernel
theorem dX7_take_9 : decode cX7_take 9 = .ok (.ifCond .eq 22, 3) := by decide +kernel
theorem dX7_take_12 : decode cX7_take 12 = .ok (.iload_n 1, 1) := by decide +kernel
theorem dX7_take_13 : decode cX7_take 13 = .ok (.ifCond .eq 10, 3) := by decide +kernel
theorem dX7_take_16 : decode cX7_take 16 = .ok (.aload_n 0, 1) := by decide +kernel
theorem dX7_take_17 : decode cX7_take 17 = .ok (.invokevirtual 77, 3) := by decide +kernel
theorem dX7_take_20 : decode cX7_take 20 = .ok (.goto 11, 3) := by decide +kernel
theorem dX7_take_23 : decode cX7_take 23 = .ok (.aload_n 0, 1) := by decide +kernel
theorem dX7_take_24 : decode cX7_take 24 = .ok (.aload_n 0, 1) := by decide +kernel
theorem dX7_take_25 : decode cX7_take 25 = .ok (.getfield 45, 3) := by decide +kernel
theorem dX7_take_28 : decode cX7_take 28 = .ok (.putfield 70, 3) := by decide +kernel
theorem dX7_take_31 : decode cX7_take 31 = .ok (.iload_n 2, 1) := by decide +kernel
theorem dX7_take_32 : decode cX7_take 32 = .ok (.ireturn, 1) := by decide +kernel
theorem dX7_isKeyword_0 : decode cX7_isKeyword 0 = .ok (.aload_n 0, 1) := by decide +kernel
theorem dX7_isKeyword_1 : decode cX7_isKeyword 1 = .ok (.getfield 56, 3) := by decide +kernel
theorem dX7_isKeyword_4 : decode cX7_isKeyword 4 = .ok (.iconst 1, 1) := by decide +kernel
theorem dX7_isKeyword_5 : decode cX7_isKeyword 5 = .ok (.if_icmp .ne 15, 3) := by decide +kernel
theorem dX7_isKeyword_8 : decode cX7_isKeyword 8 = .ok (.aload_n 0, 1) := by decide +kernel
theorem dX7_isKeyword_9 : decode cX7_isKeyword 9 = .ok (.getfield 67, 3) := by decide +kernel
theorem dX7_isKeyword_12 : decode cX7_isKeyword 12 = .ok (.iload_n 1, 1) := by decide +kernel
theorem dX7_isKeyword_13 : decode cX7_isKeyword 13 = .ok (.if_icmp .ne 7, 3) := by decide +kernel
theorem dX7_isKeyword_16 : decode cX7_isKeyword 16 = .ok (.iconst 1, 1) := by decide +kernel
theorem dX7_isKeyword_17 : decode cX7_isKeyword 17 = .ok (.goto 4, 3) := by decide +kernel
theorem dX7_isKeyword_20 : decode cX7_isKeyword 20 = .ok (.iconst 0, 1) := by decide +kernel
theorem dX7_isKeyword_21 : decode cX7_isKeyword 21 = .ok (.ireturn, 1) := by decide +kernel
set_option maxRecDepth 20000 in
theorem ggX7_digit_X7_in : GoodIn wsX7_digit wsX7_in := goodIn_r _ [6] (by decide +kernel) (by decide +kernel)
set_option maxRecDepth 20000 in
theorem gX7_digit_X7_in : GoodIn wsX7_digit (va_wsS RX7 59 yX7_in wsX7_in) := goodIn_app (goodIn_of _ (by decide +kernel)) ggX7_digit_X7_in
set_option maxRecDepth 20000 in
theorem ggX7_digit_X7_take : GoodIn wsX7_digit wsX7_take := goodIn_r _ [10, 2, 11, 12, 13, 14, 15, 5, 16, 17, 18, 19, 20, 21, 1, 22, 23, 24, 25, 26, 27, 3, 4, 6, 28, 29, 30, 31, 32, 33, 34, 35, 36, 37, 38, 39, 40, 41, 42, 43, 44, 45, 46, 47, 48, 49, 50, 51, 52] (by decide +kernel) (by decide +kernel)
set_option maxRecDepth 20000 in
theorem gX7_digit_X7_take : GoodIn wsX7_digit (wsV RX7 80 RX7 yX7_take wsX7_take) := goodIn_app (goodIn_of _ (by decide +kernel)) ggX7_digit_X7_take
theorem dX7_digit_0 : decode cX7_digit 0 = .ok (.aload_n 0, 1) := by decide +kernel
theorem dX7_digit_1 : decode cX7_digit 1 = .ok (.aload_n 0, 1) := by decide +kernel
theorem dX7_digit_2 : decode cX7_digit 2 = .ok (.getfield 56, 3) := by decide +kernel
theorem dX7_digit_5 : decode cX7_digit 5 = .ok (.iconst 2, 1) := by decide +kernel
theorem dX7_digit_6 : decode cX7_digit 6 = .ok (.if_icmp .ne 19, 3) := by decide +kernel
theorem dX7_digit_9 : decode cX7_digit 9 = .ok (.aload_n 0, 1) := by decide +kernel
theorem dX7_digit_10 : decode cX7_digit 10 = .ok (.getfield 67, 3) := by decide +kernel
theorem dX7_digit_13 : decode cX7_digit 13 = .ok (.iload_n 1, 1) := by decide +kernel
theorem dX7_digit_14 : decode cX7_digit 14 = .ok (.iload_n 2, 1) := by decide +kernel
theorem dX7_digit_15 : decode cX7_digit 15 = .ok (.invokestatic 59, 3) := by decide +kernel
theorem dX7_digit_18 : decode cX7_digit 18 = .ok (.ifCond .eq 7, 3) := by decide +kernel
theorem dX7_digit_21 : decode cX7_digit 21 = .ok (.iconst 1, 1) := by decide +kernel
theorem dX7_digit_22 : decode cX7_digit 22 = .ok (.goto 4, 3) := by decide +kernel
theorem dX7_digit_25 : decode cX7_digit 25 = .ok (.iconst 0, 1) := by decide +kernel
theorem dX7_digit_26 : decode cX7_digit 26 = .ok (.invokevirtual 80, 3) := by decide +kernel
theorem dX7_digit_29 : decode cX7_digit 29 = .ok (.ireturn, 1) := by decide +kernel
set_option maxRecDepth 20000 in
theorem ggX7_readBody_X7_isKeyword : GoodIn wsX7_readBody wsX7_isKeyword := goodIn_r _ [7, 2, 8, 52, 53, 54, 55, 56, 57, 58, 59, 60, 61, 62, 63, 64, 65, 66, 67, 68] (by decide +kernel) (by decide +kernel)
set_option maxRecDepth 20000 in
theorem gX7_readBody_X7_isKeyword : GoodIn wsX7_readBody (wsV RX7 84 RX7 yX7_isKeyword wsX7_isKeyword) := goodIn_app (goodIn_of _ (by decide +kernel)) ggX7_readBody_X7_isKeyword
set_option maxRecDepth 20000 in
theorem ggX7_readBody_X7_take : GoodIn wsX7_readBody wsX7_take := goodIn_r _ [12, 8, 13, 14, 15, 16, 17, 6, 18, 19, 20, 21, 22, 23, 2, 24, 25, 26, 27, 28, 29, 30, 31, 32, 33, 34, 35, 36, 37, 38, 39, 40, 52, 53, 54, 55, 56, 57, 58, 59, 60, 61, 62, 63, 64, 65, 66, 67, 68] (by decide +kernel) (by decide +kernel)
set_option maxRecDepth 20000 in
theorem gX7_readBody_X7_take : GoodIn wsX7_readBody (wsV RX7 80 RX7 yX7_take wsX7_take) := goodIn_app (goodIn_of _ (by decide +kernel)) ggX7_readBody_X7_take
set_option maxRecDepth 20000 in
theorem ggX7_readBody_X7_digit : GoodIn wsX7_readBody wsX7_digit := goodIn_r _ [44, 2, 8, 30, 31, 6, 32, 9, 10, 11, 12, 13, 14, 15, 16, 17, 18, 19, 20, 21, 22, 23, 24, 25, 26, 27, 28, 29, 33, 34, 35, 36, 37, 38, 39, 40, 52, 53, 54, 55, 56, 57, 58, 59, 60, 61, 62, 63, 64, 65, 66, 67, 68] (by decide +kernel) (by decide +kernel)
set_option maxRecDepth 20000 in
theorem gX7_readBody_X7_digit : GoodIn wsX7_readBody (wsV RX7 88 RX7 yX7_digit wsX7_digit) := goodIn_app (goodIn_of _ (by decide +kernel)) ggX7_readBody_X7_digit
set_option maxRecDepth 20000 in
theorem ggX7_readBody_X7_readLiteral : GoodIn wsX7_readBody wsX7_readLiteral := goodIn_r _ [48, 2, 8, 1, 9, 10, 11, 6, 12, 13, 14, 15, 16, 17, 18, 19, 20, 21, 22, 23, 24, 25, 26, 27, 28, 29, 30, 31, 32, 33, 34, 35, 36, 37, 38, 39, 40, 49, 50, 51, 52, 53, 54, 55, 56, 57, 58, 59, 60, 61, 62, 63, 64, 65, 66, 67, 68] (by decide +kernel) (by decide +kernel)
set_option maxRecDepth 20000 in
theorem gX7_readBody_X7_readLiteral : GoodIn wsX7_readBody (wsV RX7 92 RX7 yX7_readLiteral wsX7_readLiteral) := goodIn_app (goodIn_of _ (by decide +kernel)) ggX7_readBody_X7_readLiteral
set_option maxRecDepth 20000 in
theorem ggX7_readBody_X7_isFine : GoodIn wsX7_readBody wsX7_isFine := goodIn_r _ [18, 14, 52, 53, 54, 55, 56, 57, 58, 59, 60, 61, 62, 63, 64, 65, 66, 67, 68] (by decide +kernel) (by decide +kernel)
set_option maxRecDepth 20000 in
theorem gX7_readBody_X7_isFine : GoodIn wsX7_readBody (wsV RX7 73 RX7 yX7_isFine wsX7_isFine) := goodIn_app (goodIn_of _ (by decide +kernel)) ggX7_readBody_X7_isFine
theorem dX7_readBody_0 : decode cX7_readBody 0 = .ok (.aload_n 0, 1) := by decide +kernel
theorem dX7_readBody_1 : decode cX7_readBody 1 = .ok (.iconst 3, 1) := by decide +kernel
theorem dX7_readBody_2 : decode cX7_readBody 2 = .ok (.invokevirtual 84, 3) := by decide +kernel
theorem dX7_readBody_5 : decode cX7_readBody 5 = .ok (.istore_n 2, 1) := by decide +kernel
theorem dX7_readBody_6 : decode cX7_readBody 6 = .ok (.aload_n 0, 1) := by decide +kernel
theorem dX7_readBody_7 : decode cX7_readBody 7 = .ok (.iconst 2, 1) := by decide +kernel
theorem dX7_readBody_8 : decode cX7_readBody 8 = .ok (.invokevirtual 84, 3) := by decide +kernel
theorem dX7_readBody_11 : decode cX7_readBody 11 = .ok (.istore_n 3, 1) := by decide +kernel
theorem dX7_readBody_12 : decode cX7_readBody 12 = .ok (.aload_n 0, 1) := by decide +kernel
theorem dX7_readBody_13 : decode cX7_readBody 13 = .ok (.iload_n 2, 1) := by decide +kernel
theorem dX7_readBody_14 : decode cX7_readBody 14 = .ok (.ifCond .ne 15, 3) := by decide +kernel
theorem dX7_readBody_17 : decode cX7_readBody 17 = .ok (.iload_n 3, 1) := by decide +kernel
theorem dX7_readBody_18 : decode cX7_readBody 18 = .ok (.ifCond .ne 11, 3) := by decide +kernel
theorem dX7_readBody_21 : decode cX7_readBody 21 = .ok (.aload_n 0, 1) := by decide +kernel
theorem dX7_readBody_22 : decode cX7_readBody 22 = .ok (.iconst 1, 1) := by decide +kernel
theorem dX7_readBody_23 : decode cX7_readBody 23 = .ok (.invokevirtual 84, 3) := by decide +kernel
theorem dX7_readBody_26 : decode cX7_readBody 26 = .ok (.ifCond .eq 7, 3) := by decide +kernel
theorem dX7_readBody_29 : decode cX7_readBody 29 = .ok (.iconst 1, 1) := by decide +kernel
theorem dX7_readBody_30 : decode cX7_readBody 30 = .ok (.goto 4, 3) := by decide +kernel
theorem dX7_readBody_33 : decode cX7_readBody 33 = .ok (.iconst 0, 1) := by decide +kernel
theorem dX7_readBody_34 : decode cX7_readBody 34 = .ok (.invokevirtual 80, 3) := by decide +kernel
theorem dX7_readBody_37 : decode cX7_readBody 37 = .ok (.pop, 1) := by decide +kernel
theorem dX7_readBody_38 : decode cX7_readBody 38 = .ok (.aload_n 0, 1) := by decide +kernel
theorem dX7_readBody_39 : decode cX7_readBody 39 = .ok (.getfield 13, 3) := by decide +kernel
theorem dX7_readBody_42 : decode cX7_readBody 42 = .ok (.iload_n 1, 1) := by decide +kernel
theorem dX7_readBody_43 : decode cX7_readBody 43 = .ok (.iconst 0, 1) := by decide +kernel
theorem dX7_readBody_44 : decode cX7_readBody 44 = .ok (.iadd, 1) := by decide +kernel
theorem dX7_readBody_45 : decode cX7_readBody 45 = .ok (.iload_n 2, 1) := by decide +kernel
theorem dX7_readBody_46 : decode cX7_readBody 46 = .ok (.ifCond .eq 7, 3) := by decide +kernel
theorem dX7_readBody_49 : decode cX7_readBody 49 = .ok (.iconst 2, 1) := by decide +kernel
theorem dX7_readBody_50 : decode cX7_readBody 50 = .ok (.goto 12, 3) := by decide +kernel
theorem dX7_readBody_53 : decode cX7_readBody 53 = .ok (.iload_n 3, 1) := by decide +kernel
theorem dX7_readBody_54 : decode cX7_readBody 54 = .ok (.ifCond .eq 7, 3) := by decide +kernel
theorem dX7_readBody_57 : decode cX7_readBody 57 = .ok (.iconst 1, 1) := by decide +kernel
theorem dX7_readBody_58 : decode cX7_readBody 58 = .ok (.goto 4, 3) := by decide +kernel
theorem dX7_readBody_61 : decode cX7_readBody 61 = .ok (.iconst 0, 1) := by decide +kernel
theorem dX7_readBody_62 : decode cX7_readBody 62 = .ok (.iastore, 1) := by decide +kernel
theorem dX7_readBody_63 : decode cX7_readBody 63 = .ok (.aload_n 0, 1) := by decide +kernel
theorem dX7_readBody_64 : decode cX7_readBody 64 = .ok (.getfield 13, 3) := by decide +kernel
theorem dX7_readBody_67 : decode cX7_readBody 67 = .ok (.iload_n 1, 1) := by decide +kernel
theorem dX7_readBody_68 : decode cX7_readBody 68 = .ok (.iconst 1, 1) := by decide +kernel
theorem dX7_readBody_69 : decode cX7_readBody 69 = .ok (.iadd, 1) := by decide +kernel
theorem dX7_readBody_70 : decode cX7_readBody 70 = .ok (.iload_n 2, 1) := by decide +kernel
theorem dX7_readBody_71 : decode cX7_readBody 71 = .ok (.ifCond .eq 13, 3) := by decide +kernel
theorem dX7_readBody_74 : decode cX7_readBody 74 = .ok (.aload_n 0, 1) := by decide +kernel
theorem dX7_readBody_75 : decode cX7_readBody 75 = .ok (.iconst 0, 1) := by decide +kernel
theorem dX7_readBody_76 : decode cX7_readBody 76 = .ok (.bipush 6, 2) := by decide +kernel
theorem dX7_readBody_78 : decode cX7_readBody 78 = .ok (.invokevirtual 88, 3) := by decide +kernel
theorem dX7_readBody_81 : decode cX7_readBody 81 = .ok (.goto 4, 3) := by decide +kernel
theorem dX7_readBody_84 : decode cX7_readBody 84 = .ok (.iconst 0, 1) := by decide +kernel
theorem dX7_readBody_85 : decode cX7_readBody 85 = .ok (.iastore, 1) := by decide +kernel
theorem dX7_readBody_86 : decode cX7_readBody 86 = .ok (.aload_n 0, 1) := by decide +kernel
theorem dX7_readBody_87 : decode cX7_readBody 87 = .ok (.getfield 13, 3) := by decide +kernel
theorem dX7_readBody_90 : decode cX7_readBody 90 = .ok (.iload_n 1, 1) := by decide +kernel
theorem dX7_readBody_91 : decode cX7_readBody 91 = .ok (.iconst 2, 1) := by decide +kernel
theorem dX7_readBody_92 : decode cX7_readBody 92 = .ok (.iadd, 1) := by decide +kernel
theorem dX7_readBody_93 : decode cX7_readBody 93 = .ok (.iconst 0, 1) := by decide +kernel
theorem dX7_readBody_94 : decode cX7_readBody 94 = .ok (.iastore, 1) := by decide +kernel
theorem dX7_readBody_95 : decode cX7_readBody 95 = .ok (.aload_n 0, 1) := by decide +kernel
theorem dX7_readBody_96 : decode cX7_readBody 96 = .ok (.getfield 13, 3) := by decide +kernel
theorem dX7_readBody_99 : decode cX7_readBody 99 = .ok (.iload_n 1, 1) := by decide +kernel
theorem dX7_readBody_100 : decode cX7_readBody 100 = .ok (.iconst 3, 1) := by decide +kernel
theorem dX7_readBody_101 : decode cX7_readBody 101 = .ok (.iadd, 1) := by decide +kernel
theorem dX7_readBody_102 : decode cX7_readBody 102 = .ok (.iconst 0, 1) := by decide +kernel
theorem dX7_readBody_103 : decode cX7_readBody 103 = .ok (.iastore, 1) := by decide +kernel
theorem dX7_readBody_104 : decode cX7_readBody 104 = .ok (.aload_n 0, 1) := by decide +kernel
theorem dX7_readBody_105 : decode cX7_readBody 105 = .ok (.iload_n 1, 1) := by decide +kernel
theorem dX7_readBody_106 : decode cX7_readBody 106 = .ok (.invokevirtual 92, 3) := by decide +kernel
theorem dX7_readBody_109 : decode cX7_readBody 109 = .ok (.aload_n 0, 1) := by decide +kernel
theorem dX7_readBody_110 : decode cX7_readBody 110 = .ok (.invokevirtual 73, 3) := by decide +kernel
theorem dX7_readBody_113 : decode cX7_readBody 113 = .ok (.ifCond .eq 27, 3) := by decide +kernel
theorem dX7_readBody_116 : decode cX7_readBody 116 = .ok (.aload_n 0, 1) := by decide +kernel
theorem dX7_readBody_117 : decode cX7_readBody 117 = .ok (.getfield 56, 3) := by decide +kernel
theorem dX7_readBody_120 : decode cX7_readBody 120 = .ok (.iconst 3, 1) := by decide +kernel
theorem dX7_readBody_121 : decode cX7_readBody 121 = .ok (.if_icmp .eq 11, 3) := by decide +kernel
theorem dX7_readBody_124 : decode cX7_readBody 124 = .ok (.aload_n 0, 1) := by decide +kernel
theorem dX7_readBody_125 : decode cX7_readBody 125 = .ok (.getfield 56, 3) := by decide +kernel
theorem dX7_readBody_128 : decode cX7_readBody 128 = .ok (.iconst 2, 1) := by decide +kernel
theorem dX7_readBody_129 : decode cX7_readBody 129 = .ok (.if_icmp .ne 11, 3) := by decide +kernel
theorem dX7_readBody_132 : decode cX7_readBody 132 = .ok (.aload_n 0, 1) := by decide +kernel
theorem dX7_readBody_133 : decode cX7_readBody 133 = .ok (.iload_n 1, 1) := by decide +kernel
theorem dX7_readBody_134 : decode cX7_readBody 134 = .ok (.invokevirtual 92, 3) := by decide +kernel
theorem dX7_readBody_137 : decode cX7_readBody 137 = .ok (.goto (-28), 3) := by decide +kernel
theorem dX7_readBody_140 : decode cX7_readBody 140 = .ok (.return_, 1) := by decide +kernel
set_option maxRecDepth 20000 in
theorem ggX7_readLiteral_X7_take : GoodIn wsX7_readLiteral wsX7_take := goodIn_r _ [8, 2, 9, 10, 11, 12, 13, 7, 14, 15, 16, 17, 18, 19, 1, 20, 21, 22, 23, 24, 25, 26, 27, 28, 29, 30, 31, 32, 33, 34, 35, 36, 40, 41, 42, 43, 44, 45, 46, 47, 48, 49, 50, 51, 52, 53, 54, 55, 56] (by decide +kernel) (by decide +kernel)
set_option maxRecDepth 20000 in
theorem gX7_readLiteral_X7_take : GoodIn wsX7_readLiteral (wsV RX7 80 RX7 yX7_take wsX7_take) := goodIn_app (goodIn_of _ (by decide +kernel)) ggX7_readLiteral_X7_take
set_option maxRecDepth 20000 in
theorem ggX7_readLiteral_X7_in : GoodIn wsX7_readLiteral wsX7_in := goodIn_r _ [28] (by decide +kernel) (by decide +kernel)
set_option maxRecDepth 20000 in
theorem gX7_readLiteral_X7_in : GoodIn wsX7_readLiteral (va_wsS RX7 59 yX7_in wsX7_in) := goodIn_app (goodIn_of _ (by decide +kernel)) ggX7_readLiteral_X7_in
set_option maxRecDepth 20000 in
theorem ggX7_readLiteral_X7_has : GoodIn wsX7_readLiteral wsX7_has := goodIn_r _ [39] (by decide +kernel) (by decide +kernel)
set_option maxRecDepth 20000 in
theorem gX7_readLiteral_X7_has : GoodIn wsX7_readLiteral (va_wsS RX7 96 yX7_has wsX7_has) := goodIn_app (goodIn_of _ (by decide +kernel)) ggX7_readLiteral_X7_has
set_option maxRecDepth 20000 in
theorem ggX7_readLiteral_X7_isFine : GoodIn wsX7_readLiteral wsX7_isFine := goodIn_r _ [14, 10, 40, 41, 42, 43, 44, 45, 46, 47, 48, 49, 50, 51, 52, 53, 54, 55, 56] (by decide +kernel) (by decide +kernel)
set_option maxRecDepth 20000 in
theorem gX7_readLiteral_X7_isFine : GoodIn wsX7_readLiteral (wsV RX7 73 RX7 yX7_isFine wsX7_isFine) := goodIn_app (goodIn_of _ (by decide +kernel)) ggX7_readLiteral_X7_isFine
theorem dX7_readLiteral_0 : decode cX7_readLiteral 0 = .ok (.aload_n 0, 1) := by decide +kernel
theorem dX7_readLiteral_1 : decode cX7_readLiteral 1 = .ok (.getfield 56, 3) := by decide +kernel
theorem dX7_readLiteral_4 : decode cX7_readLiteral 4 = .ok (.iconst 3, 1) := by decide +kernel
theorem dX7_readLiteral_5 : decode cX7_readLiteral 5 = .ok (.if_icmp .ne 7, 3) := by decide +kernel
theorem dX7_readLiteral_8 : decode cX7_readLiteral 8 = .ok (.iconst 1, 1) := by decide +kernel
theorem dX7_readLiteral_9 : decode cX7_readLiteral 9 = .ok (.goto 4, 3) := by decide +kernel
theorem dX7_readLiteral_12 : decode cX7_readLiteral 12 = .ok (.iconst 0, 1) := by decide +kernel
theorem dX7_readLiteral_13 : decode cX7_readLiteral 13 = .ok (.istore_n 2, 1) := by decide +kernel
theorem dX7_readLiteral_14 : decode cX7_readLiteral 14 = .ok (.iload_n 2, 1) := by decide +kernel
theorem dX7_readLiteral_15 : decode cX7_readLiteral 15 = .ok (.ifCond .eq 9, 3) := by decide +kernel
theorem dX7_readLiteral_18 : decode cX7_readLiteral 18 = .ok (.aload_n 0, 1) := by decide +kernel
theorem dX7_readLiteral_19 : decode cX7_readLiteral 19 = .ok (.iconst 1, 1) := by decide +kernel
theorem dX7_readLiteral_20 : decode cX7_readLiteral 20 = .ok (.invokevirtual 80, 3) := by decide +kernel
theorem dX7_readLiteral_23 : decode cX7_readLiteral 23 = .ok (.pop, 1) := by decide +kernel
theorem dX7_readLiteral_24 : decode cX7_readLiteral 24 = .ok (.aload_n 0, 1) := by decide +kernel
theorem dX7_readLiteral_25 : decode cX7_readLiteral 25 = .ok (.aload_n 0, 1) := by decide +kernel
theorem dX7_readLiteral_26 : decode cX7_readLiteral 26 = .ok (.getfield 56, 3) := by decide +kernel
theorem dX7_readLiteral_29 : decode cX7_readLiteral 29 = .ok (.iconst 2, 1) := by decide +kernel
theorem dX7_readLiteral_30 : decode cX7_readLiteral 30 = .ok (.if_icmp .ne 38, 3) := by decide +kernel
theorem dX7_readLiteral_33 : decode cX7_readLiteral 33 = .ok (.aload_n 0, 1) := by decide +kernel
theorem dX7_readLiteral_34 : decode cX7_readLiteral 34 = .ok (.getfield 67, 3) := by decide +kernel
theorem dX7_readLiteral_37 : decode cX7_readLiteral 37 = .ok (.iconst 1, 1) := by decide +kernel
theorem dX7_readLiteral_38 : decode cX7_readLiteral 38 = .ok (.bipush 6, 2) := by decide +kernel
theorem dX7_readLiteral_40 : decode cX7_readLiteral 40 = .ok (.invokestatic 59, 3) := by decide +kernel
theorem dX7_readLiteral_43 : decode cX7_readLiteral 43 = .ok (.ifCond .eq 25, 3) := by decide +kernel
theorem dX7_readLiteral_46 : decode cX7_readLiteral 46 = .ok (.aload_n 0, 1) := by decide +kernel
theorem dX7_readLiteral_47 : decode cX7_readLiteral 47 = .ok (.getfield 13, 3) := by decide +kernel
theorem dX7_readLiteral_50 : decode cX7_readLiteral 50 = .ok (.iload_n 1, 1) := by decide +kernel
theorem dX7_readLiteral_51 : decode cX7_readLiteral 51 = .ok (.iconst 2, 1) := by decide +kernel
theorem dX7_readLiteral_52 : decode cX7_readLiteral 52 = .ok (.iadd, 1) := by decide +kernel
theorem dX7_readLiteral_53 : decode cX7_readLiteral 53 = .ok (.iaload, 1) := by decide +kernel
theorem dX7_readLiteral_54 : decode cX7_readLiteral 54 = .ok (.aload_n 0, 1) := by decide +kernel
theorem dX7_readLiteral_55 : decode cX7_readLiteral 55 = .ok (.getfield 67, 3) := by decide +kernel
theorem dX7_readLiteral_58 : decode cX7_readLiteral 58 = .ok (.invokestatic 96, 3) := by decide +kernel
theorem dX7_readLiteral_61 : decode cX7_readLiteral 61 = .ok (.ifCond .ne 7, 3) := by decide +kernel
theorem dX7_readLiteral_64 : decode cX7_readLiteral 64 = .ok (.iconst 1, 1) := by decide +kernel
theorem dX7_readLiteral_65 : decode cX7_readLiteral 65 = .ok (.goto 4, 3) := by decide +kernel
theorem dX7_readLiteral_68 : decode cX7_readLiteral 68 = .ok (.iconst 0, 1) := by decide +kernel
theorem dX7_readLiteral_69 : decode cX7_readLiteral 69 = .ok (.invokevirtual 80, 3) := by decide +kernel
theorem dX7_readLiteral_72 : decode cX7_readLiteral 72 = .ok (.istore_n 3, 1) := by decide +kernel
theorem dX7_readLiteral_73 : decode cX7_readLiteral 73 = .ok (.aload_n 0, 1) := by decide +kernel
theorem dX7_readLiteral_74 : decode cX7_readLiteral 74 = .ok (.invokevirtual 73, 3) := by decide +kernel
theorem dX7_readLiteral_77 : decode cX7_readLiteral 77 = .ok (.ifCond .eq 39, 3) := by decide +kernel
theorem dX7_readLiteral_80 : decode cX7_readLiteral 80 = .ok (.aload_n 0, 1) := by decide +kernel
theorem dX7_readLiteral_81 : decode cX7_readLiteral 81 = .ok (.getfield 13, 3) := by decide +kernel
theorem dX7_readLiteral_84 : decode cX7_readLiteral 84 = .ok (.iload_n 1, 1) := by decide +kernel
theorem dX7_readLiteral_85 : decode cX7_readLiteral 85 = .ok (.iconst 2, 1) := by decide +kernel
theorem dX7_readLiteral_86 : decode cX7_readLiteral 86 = .ok (.iadd, 1) := by decide +kernel
theorem dX7_readLiteral_87 : decode cX7_readLiteral 87 = .ok (.dup2, 1) := by decide +kernel
theorem dX7_readLiteral_88 : decode cX7_readLiteral 88 = .ok (.iaload, 1) := by decide +kernel
theorem dX7_readLiteral_89 : decode cX7_readLiteral 89 = .ok (.iconst 1, 1) := by decide +kernel
theorem dX7_readLiteral_90 : decode cX7_readLiteral 90 = .ok (.iload_n 3, 1) := by decide +kernel
theorem dX7_readLiteral_91 : decode cX7_readLiteral 91 = .ok (.ishl, 1) := by decide +kernel
theorem dX7_readLiteral_92 : decode cX7_readLiteral 92 = .ok (.ior, 1) := by decide +kernel
theorem dX7_readLiteral_93 : decode cX7_readLiteral 93 = .ok (.iastore, 1) := by decide +kernel
theorem dX7_readLiteral_94 : decode cX7_readLiteral 94 = .ok (.aload_n 0, 1) := by decide +kernel
theorem dX7_readLiteral_95 : decode cX7_readLiteral 95 = .ok (.getfield 13, 3) := by decide +kernel
theorem dX7_readLiteral_98 : decode cX7_readLiteral 98 = .ok (.iload_n 1, 1) := by decide +kernel
theorem dX7_readLiteral_99 : decode cX7_readLiteral 99 = .ok (.iconst 3, 1) := by decide +kernel
theorem dX7_readLiteral_100 : decode cX7_readLiteral 100 = .ok (.iadd, 1) := by decide +kernel
theorem dX7_readLiteral_101 : decode cX7_readLiteral 101 = .ok (.dup2, 1) := by decide +kernel
theorem dX7_readLiteral_102 : decode cX7_readLiteral 102 = .ok (.iaload, 1) := by decide +kernel
theorem dX7_readLiteral_103 : decode cX7_readLiteral 103 = .ok (.iload_n 2, 1) := by decide +kernel
theorem dX7_readLiteral_104 : decode cX7_readLiteral 104 = .ok (.ifCond .eq 9, 3) := by decide +kernel
theorem dX7_readLiteral_107 : decode cX7_readLiteral 107 = .ok (.iconst 1, 1) := by decide +kernel
theorem dX7_readLiteral_108 : decode cX7_readLiteral 108 = .ok (.iload_n 3, 1) := by decide +kernel
theorem dX7_readLiteral_109 : decode cX7_readLiteral 109 = .ok (.ishl, 1) := by decide +kernel
theorem dX7_readLiteral_110 : decode cX7_readLiteral 110 = .ok (.goto 4, 3) := by decide +kernel
theorem dX7_readLiteral_113 : decode cX7_readLiteral 113 = .ok (.iconst 0, 1) := by decide +kernel
theorem dX7_readLiteral_114 : decode cX7_readLiteral 114 = .ok (.ior, 1) := by decide +kernel
theorem dX7_readLiteral_115 : decode cX7_readLiteral 115 = .ok (.iastore, 1) := by decide +kernel
theorem dX7_readLiteral_116 : decode cX7_readLiteral 116 = .ok (.return_, 1) := by decide +kernel
set_option maxRecDepth 20000 in
theorem ggX7_readConstraint_X7_take : GoodIn wsX7_readConstraint wsX7_take := goodIn_r _ [7, 8, 9, 10, 11, 12, 13, 6, 14, 15, 16, 17, 18, 19, 2, 20, 21, 22, 23, 24, 25, 26, 27, 28, 29, 30, 31, 32, 33, 34, 35, 36, 56, 57, 58, 59, 60, 61, 62, 63, 64, 65, 66, 67, 68, 69, 70, 71, 72] (by decide +kernel) (by decide +kernel)
set_option maxRecDepth 20000 in
theorem gX7_readConstraint_X7_take : GoodIn wsX7_readConstraint (wsV RX7 80 RX7 yX7_take wsX7_take) := goodIn_app (goodIn_of _ (by decide +kernel)) ggX7_readConstraint_X7_take
set_option maxRecDepth 20000 in
theorem ggX7_readConstraint_X7_isKeyword : GoodIn wsX7_readConstraint wsX7_isKeyword := goodIn_r _ [40, 2, 8, 56, 57, 58, 59, 60, 61, 62, 63, 64, 65, 66, 67, 68, 69, 70, 71, 72] (by decide +kernel) (by decide +kernel)
set_option maxRecDepth 20000 in
theorem gX7_readConstraint_X7_isKeyword : GoodIn wsX7_readConstraint (wsV RX7 84 RX7 yX7_isKeyword wsX7_isKeyword) := goodIn_app (goodIn_of _ (by decide +kernel)) ggX7_readConstraint_X7_isKeyword
set_option maxRecDepth 20000 in
theorem ggX7_readConstraint_X7_readBody : GoodIn wsX7_readConstraint wsX7_readBody := goodIn_r _ [44, 1, 2, 37, 38, 39, 6, 40, 8, 3, 4, 5, 7, 9, 10, 11, 12, 13, 14, 15, 16, 17, 18, 19, 20, 21, 22, 23, 24, 25, 26, 27, 28, 29, 30, 31, 32, 33, 34, 35, 36, 45, 46, 47, 48, 49, 50, 51, 52, 53, 54, 55, 56, 57, 58, 59, 60, 61, 62, 63, 64, 65, 66, 67, 68, 69, 70, 71, 72] (by decide +kernel) (by decide +kernel)
set_option maxRecDepth 20000 in
theorem gX7_readConstraint_X7_readBody : GoodIn wsX7_readConstraint (wsV RX7 100 RX7 yX7_readBody wsX7_readBody) := goodIn_app (goodIn_of _ (by decide +kernel)) ggX7_readConstraint_X7_readBody
set_option maxRecDepth 20000 in
theorem ggX7_readConstraint_X7_isFine : GoodIn wsX7_readConstraint wsX7_isFine := goodIn_r _ [14, 10, 56, 57, 58, 59, 60, 61, 62, 63, 64, 65, 66, 67, 68, 69, 70, 71, 72] (by decide +kernel) (by decide +kernel)
set_option maxRecDepth 20000 in
theorem gX7_readConstraint_X7_isFine : GoodIn wsX7_readConstraint (wsV RX7 73 RX7 yX7_isFine wsX7_isFine) := goodIn_app (goodIn_of _ (by decide +kernel)) ggX7_readConstraint_X7_isFine
set_option maxRecDepth 20000 in
theorem ggX7_readConstraint_X7_digit : GoodIn wsX7_readConstraint wsX7_digit := goodIn_r _ [48, 2, 8, 26, 27, 6, 28, 3, 4, 5, 7, 9, 10, 11, 12, 13, 14, 15, 16, 17, 18, 19, 20, 21, 22, 23, 24, 25, 29, 30, 31, 32, 33, 34, 35, 36, 56, 57, 58, 59, 60, 61, 62, 63, 64, 65, 66, 67, 68, 69, 70, 71, 72] (by decide +kernel) (by decide +kernel)
set_option maxRecDepth 20000 in
theorem gX7_readConstraint_X7_digit : GoodIn wsX7_readConstraint (wsV RX7 88 RX7 yX7_digit wsX7_digit) := goodIn_app (goodIn_of _ (by decide +kernel)) ggX7_readConstraint_X7_digit
theorem dX7_readConstraint_0 : decode cX7_readConstraint 0 = .ok (.iconst 4, 1) := by decide +kernel
theorem dX7_readConstraint_1 : decode cX7_readConstraint 1 = .ok (.bipush 6, 2) := by decide +kernel
theorem dX7_readConstraint_3 : decode cX7_readConstraint 3 = .ok (.aload_n 0, 1) := by decide +kernel
theorem dX7_readConstraint_4 : decode cX7_readConstraint 4 = .ok (.getfield 13, 3) := by decide +kernel
theorem dX7_readConstraint_7 : decode cX7_readConstraint 7 = .ok (.iconst 0, 1) := by decide +kernel
theorem dX7_readConstraint_8 : decode cX7_readConstraint 8 = .ok (.iaload, 1) := by decide +kernel
theorem dX7_readConstraint_9 : decode cX7_readConstraint 9 = .ok (.imul, 1) := by decide +kernel
theorem dX7_readConstraint_10 : decode cX7_readConstraint 10 = .ok (.iadd, 1) := by decide +kernel
theorem dX7_readConstraint_11 : decode cX7_readConstraint 11 = .ok (.istore_n 1, 1) := by decide +kernel
theorem dX7_readConstraint_12 : decode cX7_readConstraint 12 = .ok (.aload_n 0, 1) := by decide +kernel
theorem dX7_readConstraint_13 : decode cX7_readConstraint 13 = .ok (.getfield 13, 3) := by decide +kernel
theorem dX7_readConstraint_16 : decode cX7_readConstraint 16 = .ok (.iconst 0, 1) := by decide +kernel
theorem dX7_readConstraint_17 : decode cX7_readConstraint 17 = .ok (.iaload, 1) := by decide +kernel
theorem dX7_readConstraint_18 : decode cX7_readConstraint 18 = .ok (.bipush 10, 2) := by decide +kernel
theorem dX7_readConstraint_20 : decode cX7_readConstraint 20 = .ok (.if_icmp .ne 10, 3) := by decide +kernel
theorem dX7_readConstraint_23 : decode cX7_readConstraint 23 = .ok (.aload_n 0, 1) := by decide +kernel
theorem dX7_readConstraint_24 : decode cX7_readConstraint 24 = .ok (.iconst 0, 1) := by decide +kernel
theorem dX7_readConstraint_25 : decode cX7_readConstraint 25 = .ok (.invokevirtual 80, 3) := by decide +kernel
theorem dX7_readConstraint_28 : decode cX7_readConstraint 28 = .ok (.pop, 1) := by decide +kernel
theorem dX7_readConstraint_29 : decode cX7_readConstraint 29 = .ok (.return_, 1) := by decide +kernel
theorem dX7_readConstraint_30 : decode cX7_readConstraint 30 = .ok (.aload_n 0, 1) := by decide +kernel
theorem dX7_readConstraint_31 : decode cX7_readConstraint 31 = .ok (.iconst 5, 1) := by decide +kernel
theorem dX7_readConstraint_32 : decode cX7_readConstraint 32 = .ok (.invokevirtual 84, 3) := by decide +kernel
theorem dX7_readConstraint_35 : decode cX7_readConstraint 35 = .ok (.istore_n 2, 1) := by decide +kernel
theorem dX7_readConstraint_36 : decode cX7_readConstraint 36 = .ok (.iload_n 2, 1) := by decide +kernel
theorem dX7_readConstraint_37 : decode cX7_readConstraint 37 = .ok (.ifCond .eq 9, 3) := by decide +kernel
theorem dX7_readConstraint_40 : decode cX7_readConstraint 40 = .ok (.aload_n 0, 1) := by decide +kernel
theorem dX7_readConstraint_41 : decode cX7_readConstraint 41 = .ok (.iconst 1, 1) := by decide +kernel
theorem dX7_readConstraint_42 : decode cX7_readConstraint 42 = .ok (.invokevirtual 80, 3) := by decide +kernel
theorem dX7_readConstraint_45 : decode cX7_readConstraint 45 = .ok (.pop, 1) := by decide +kernel
theorem dX7_readConstraint_46 : decode cX7_readConstraint 46 = .ok (.aload_n 0, 1) := by decide +kernel
theorem dX7_readConstraint_47 : decode cX7_readConstraint 47 = .ok (.iload_n 1, 1) := by decide +kernel
theorem dX7_readConstraint_48 : decode cX7_readConstraint 48 = .ok (.invokevirtual 100, 3) := by decide +kernel
theorem dX7_readConstraint_51 : decode cX7_readConstraint 51 = .ok (.iconst 1, 1) := by decide +kernel
theorem dX7_readConstraint_52 : decode cX7_readConstraint 52 = .ok (.istore_n 3, 1) := by decide +kernel
theorem dX7_readConstraint_53 : decode cX7_readConstraint 53 = .ok (.iload_n 2, 1) := by decide +kernel
theorem dX7_readConstraint_54 : decode cX7_readConstraint 54 = .ok (.ifCond .ne 32, 3) := by decide +kernel
theorem dX7_readConstraint_57 : decode cX7_readConstraint 57 = .ok (.aload_n 0, 1) := by decide +kernel
theorem dX7_readConstraint_58 : decode cX7_readConstraint 58 = .ok (.invokevirtual 73, 3) := by decide +kernel
theorem dX7_readConstraint_61 : decode cX7_readConstraint 61 = .ok (.ifCond .eq 25, 3) := by decide +kernel
theorem dX7_readConstraint_64 : decode cX7_readConstraint 64 = .ok (.aload_n 0, 1) := by decide +kernel
theorem dX7_readConstraint_65 : decode cX7_readConstraint 65 = .ok (.iconst 4, 1) := by decide +kernel
theorem dX7_readConstraint_66 : decode cX7_readConstraint 66 = .ok (.invokevirtual 84, 3) := by decide +kernel
theorem dX7_readConstraint_69 : decode cX7_readConstraint 69 = .ok (.ifCond .eq 17, 3) := by decide +kernel
theorem dX7_readConstraint_72 : decode cX7_readConstraint 72 = .ok (.aload_n 0, 1) := by decide +kernel
theorem dX7_readConstraint_73 : decode cX7_readConstraint 73 = .ok (.iconst 1, 1) := by decide +kernel
theorem dX7_readConstraint_74 : decode cX7_readConstraint 74 = .ok (.invokevirtual 80, 3) := by decide +kernel
theorem dX7_readConstraint_77 : decode cX7_readConstraint 77 = .ok (.pop, 1) := by decide +kernel
theorem dX7_readConstraint_78 : decode cX7_readConstraint 78 = .ok (.aload_n 0, 1) := by decide +kernel
theorem dX7_readConstraint_79 : decode cX7_readConstraint 79 = .ok (.iconst 1, 1) := by decide +kernel
theorem dX7_readConstraint_80 : decode cX7_readConstraint 80 = .ok (.bipush 9, 2) := by decide +kernel
theorem dX7_readConstraint_82 : decode cX7_readConstraint 82 = .ok (.invokevirtual 88, 3) := by decide +kernel
theorem dX7_readConstraint_85 : decode cX7_readConstraint 85 = .ok (.istore_n 3, 1) := by decide +kernel
theorem dX7_readConstraint_86 : decode cX7_readConstraint 86 = .ok (.aload_n 0, 1) := by decide +kernel
theorem dX7_readConstraint_87 : decode cX7_readConstraint 87 = .ok (.aload_n 0, 1) := by decide +kernel
theorem dX7_readConstraint_88 : decode cX7_readConstraint 88 = .ok (.getfield 56, 3) := by decide +kernel
theorem dX7_readConstraint_91 : decode cX7_readConstraint 91 = .ok (.iconst 4, 1) := by decide +kernel
theorem dX7_readConstraint_92 : decode cX7_readConstraint 92 = .ok (.if_icmp .ne 7, 3) := by decide +kernel
theorem dX7_readConstraint_95 : decode cX7_readConstraint 95 = .ok (.iconst 1, 1) := by decide +kernel
theorem dX7_readConstraint_96 : decode cX7_readConstraint 96 = .ok (.goto 4, 3) := by decide +kernel
theorem dX7_readConstraint_99 : decode cX7_readConstraint 99 = .ok (.iconst 0, 1) := by decide +kernel
theorem dX7_readConstraint_100 : decode cX7_readConstraint 100 = .ok (.invokevirtual 80, 3) := by decide +kernel
theorem dX7_readConstraint_103 : decode cX7_readConstraint 103 = .ok (.pop, 1) := by decide +kernel
theorem dX7_readConstraint_104 : decode cX7_readConstraint 104 = .ok (.aload_n 0, 1) := by decide +kernel
theorem dX7_readConstraint_105 : decode cX7_readConstraint 105 = .ok (.getfield 13, 3) := by decide +kernel
theorem dX7_readConstraint_108 : decode cX7_readConstraint 108 = .ok (.iload_n 1, 1) := by decide +kernel
theorem dX7_readConstraint_109 : decode cX7_readConstraint 109 = .ok (.iconst 4, 1) := by decide +kernel
theorem dX7_readConstraint_110 : decode cX7_readConstraint 110 = .ok (.iadd, 1) := by decide +kernel
theorem dX7_readConstraint_111 : decode cX7_readConstraint 111 = .ok (.iload_n 2, 1) := by decide +kernel
theorem dX7_readConstraint_112 : decode cX7_readConstraint 112 = .ok (.ifCond .eq 7, 3) := by decide +kernel
theorem dX7_readConstraint_115 : decode cX7_readConstraint 115 = .ok (.iconst 1, 1) := by decide +kernel
theorem dX7_readConstraint_116 : decode cX7_readConstraint 116 = .ok (.goto 4, 3) := by decide +kernel
theorem dX7_readConstraint_119 : decode cX7_readConstraint 119 = .ok (.iconst 0, 1) := by decide +kernel
theorem dX7_readConstraint_120 : decode cX7_readConstraint 120 = .ok (.iastore, 1) := by decide +kernel
theorem dX7_readConstraint_121 : decode cX7_readConstraint 121 = .ok (.aload_n 0, 1) := by decide +kernel
theorem dX7_readConstraint_122 : decode cX7_readConstraint 122 = .ok (.getfield 13, 3) := by decide +kernel
theorem dX7_readConstraint_125 : decode cX7_readConstraint 125 = .ok (.iload_n 1, 1) := by decide +kernel
theorem dX7_readConstraint_126 : decode cX7_readConstraint 126 = .ok (.iconst 5, 1) := by decide +kernel
theorem dX7_readConstraint_127 : decode cX7_readConstraint 127 = .ok (.iadd, 1) := by decide +kernel
theorem dX7_readConstraint_128 : decode cX7_readConstraint 128 = .ok (.iload_n 2, 1) := by decide +kernel
theorem dX7_readConstraint_129 : decode cX7_readConstraint 129 = .ok (.ifCond .eq 7, 3) := by decide +kernel
theorem dX7_readConstraint_132 : decode cX7_readConstraint 132 = .ok (.iconst 0, 1) := by decide +kernel
theorem dX7_readConstraint_133 : decode cX7_readConstraint 133 = .ok (.goto 4, 3) := by decide +kernel
theorem dX7_readConstraint_136 : decode cX7_readConstraint 136 = .ok (.iload_n 3, 1) := by decide +kernel
theorem dX7_readConstraint_137 : decode cX7_readConstraint 137 = .ok (.iastore, 1) := by decide +kernel
theorem dX7_readConstraint_138 : decode cX7_readConstraint 138 = .ok (.aload_n 0, 1) := by decide +kernel
theorem dX7_readConstraint_139 : decode cX7_readConstraint 139 = .ok (.getfield 13, 3) := by decide +kernel
theorem dX7_readConstraint_142 : decode cX7_readConstraint 142 = .ok (.iconst 0, 1) := by decide +kernel
theorem dX7_readConstraint_143 : decode cX7_readConstraint 143 = .ok (.dup2, 1) := by decide +kernel
theorem dX7_readConstraint_144 : decode cX7_readConstraint 144 = .ok (.iaload, 1) := by decide +kernel
theorem dX7_readConstraint_145 : decode cX7_readConstraint 145 = .ok (.iconst 1, 1) := by decide +kernel
theorem dX7_readConstraint_146 : decode cX7_readConstraint 146 = .ok (.iadd, 1) := by decide +kernel
theorem dX7_readConstraint_147 : decode cX7_readConstraint 147 = .ok (.iastore, 1) := by decide +kernel
theorem dX7_readConstraint_148 : decode cX7_readConstraint 148 = .ok (.return_, 1) := by decide +kernel
set_option maxRecDepth 20000 in
theorem ggX7_readSystem_X7_advance : GoodIn wsX7_readSystem wsX7_advance := goodIn_r _ [9, 3, 10, 4, 11, 12, 13, 14, 8, 15, 16, 17, 18, 19, 20, 21, 22, 23, 24, 25, 26, 27, 28, 60, 61, 62, 63, 64, 65, 66, 67, 68, 69, 70, 71, 72, 73, 74, 75, 76] (by decide +kernel) (by decide +kernel)
set_option maxRecDepth 20000 in
theorem gX7_readSystem_X7_advance : GoodIn wsX7_readSystem (wsV RX7 77 RX7 yX7_advance wsX7_advance) := goodIn_app (goodIn_of _ (by decide +kernel)) ggX7_readSystem_X7_advance
set_option maxRecDepth 20000 in
theorem ggX7_readSystem_X7_isFine : GoodIn wsX7_readSystem wsX7_isFine := goodIn_r _ [32, 2, 60, 61, 62, 63, 64, 65, 66, 67, 68, 69, 70, 71, 72, 73, 74, 75, 76] (by decide +kernel) (by decide +kernel)
set_option maxRecDepth 20000 in
theorem gX7_readSystem_X7_isFine : GoodIn wsX7_readSystem (wsV RX7 73 RX7 yX7_isFine wsX7_isFine) := goodIn_app (goodIn_of _ (by decide +kernel)) ggX7_readSystem_X7_isFine
set_option maxRecDepth 20000 in
theorem ggX7_readSystem_X7_readConstraint : GoodIn wsX7_readSystem wsX7_readConstraint := goodIn_r _ [36, 1, 4, 37, 38, 39, 8, 40, 11, 10, 2, 29, 30, 31, 32, 5, 6, 7, 9, 3, 12, 13, 14, 15, 16, 17, 18, 19, 20, 21, 22, 23, 24, 25, 26, 27, 28, 41, 42, 43, 44, 45, 46, 47, 48, 49, 50, 51, 52, 53, 54, 55, 56, 57, 58, 59, 60, 61, 62, 63, 64, 65, 66, 67, 68, 69, 70, 71, 72, 73, 74, 75, 76] (by decide +kernel) (by decide +kernel)
set_option maxRecDepth 20000 in
theorem gX7_readSystem_X7_readConstraint : GoodIn wsX7_readSystem (wsV RX7 103 RX7 yX7_readConstraint wsX7_readConstraint) := goodIn_app (goodIn_of _ (by decide +kernel)) ggX7_readSystem_X7_readConstraint
theorem dX7_readSystem_0 : decode cX7_readSystem 0 = .ok (.iconst 0, 1) := by decide +kernel
theorem dX7_readSystem_1 : decode cX7_readSystem 1 = .ok (.istore_n 1, 1) := by decide +kernel
theorem dX7_readSystem_2 : decode cX7_readSystem 2 = .ok (.iload_n 1, 1) := by decide +kernel
theorem dX7_readSystem_3 : decode cX7_readSystem 3 = .ok (.bipush 64, 2) := by decide +kernel
theorem dX7_readSystem_5 : decode cX7_readSystem 5 = .ok (.if_icmp .ge 16, 3) := by decide +kernel
theorem dX7_readSystem_8 : decode cX7_readSystem 8 = .ok (.aload_n 0, 1) := by decide +kernel
theorem dX7_readSystem_9 : decode cX7_readSystem 9 = .ok (.getfield 13, 3) := by decide +kernel
theorem dX7_readSystem_12 : decode cX7_readSystem 12 = .ok (.iload_n 1, 1) := by decide +kernel
theorem dX7_readSystem_13 : decode cX7_readSystem 13 = .ok (.iconst 0, 1) := by decide +kernel
theorem dX7_readSystem_14 : decode cX7_readSystem 14 = .ok (.iastore, 1) := by decide +kernel
theorem dX7_readSystem_15 : decode cX7_readSystem 15 = .ok (.iinc 1 1, 3) := by decide +kernel
theorem dX7_readSystem_18 : decode cX7_readSystem 18 = .ok (.goto (-16), 3) := by decide +kernel
theorem dX7_readSystem_21 : decode cX7_readSystem 21 = .ok (.aload_n 0, 1) := by decide +kernel
theorem dX7_readSystem_22 : decode cX7_readSystem 22 = .ok (.bipush (-9), 2) := by decide +kernel
theorem dX7_readSystem_24 : decode cX7_readSystem 24 = .ok (.putfield 70, 3) := by decide +kernel
theorem dX7_readSystem_27 : decode cX7_readSystem 27 = .ok (.aload_n 0, 1) := by decide +kernel
theorem dX7_readSystem_28 : decode cX7_readSystem 28 = .ok (.iconst 0, 1) := by decide +kernel
theorem dX7_readSystem_29 : decode cX7_readSystem 29 = .ok (.putfield 42, 3) := by decide +kernel
theorem dX7_readSystem_32 : decode cX7_readSystem 32 = .ok (.aload_n 0, 1) := by decide +kernel
theorem dX7_readSystem_33 : decode cX7_readSystem 33 = .ok (.invokevirtual 77, 3) := by decide +kernel
theorem dX7_readSystem_36 : decode cX7_readSystem 36 = .ok (.aload_n 0, 1) := by decide +kernel
theorem dX7_readSystem_37 : decode cX7_readSystem 37 = .ok (.invokevirtual 73, 3) := by decide +kernel
theorem dX7_readSystem_40 : decode cX7_readSystem 40 = .ok (.ifCond .eq 17, 3) := by decide +kernel
theorem dX7_readSystem_43 : decode cX7_readSystem 43 = .ok (.aload_n 0, 1) := by decide +kernel
theorem dX7_readSystem_44 : decode cX7_readSystem 44 = .ok (.getfield 56, 3) := by decide +kernel
theorem dX7_readSystem_47 : decode cX7_readSystem 47 = .ok (.ifCond .eq 10, 3) := by decide +kernel
theorem dX7_readSystem_50 : decode cX7_readSystem 50 = .ok (.aload_n 0, 1) := by decide +kernel
theorem dX7_readSystem_51 : decode cX7_readSystem 51 = .ok (.invokevirtual 103, 3) := by decide +kernel
theorem dX7_readSystem_54 : decode cX7_readSystem 54 = .ok (.goto (-18), 3) := by decide +kernel
theorem dX7_readSystem_57 : decode cX7_readSystem 57 = .ok (.return_, 1) := by decide +kernel
set_option maxRecDepth 20000 in
theorem ggX7_append_X7_in : GoodIn wsX7_append wsX7_in := goodIn_r _ [7] (by decide +kernel) (by decide +kernel)
