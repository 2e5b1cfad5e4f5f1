theorem dX0_weightOf_0 : decode cX0_weightOf 0 = .ok (.aload_n 0, 1) := by decide +kernel
theorem dX0_weightOf_1 : decode cX0_weightOf 1 = .ok (.iload_n 1, 1) := by decide +kernel
theorem dX0_weightOf_2 : decode cX0_weightOf 2 = .ok (.invokevirtual 29, 3) := by decide +kernel
theorem dX0_weightOf_5 : decode cX0_weightOf 5 = .ok (.ifCond .eq 12, 3) := by decide +kernel
theorem dX0_weightOf_8 : decode cX0_weightOf 8 = .ok (.aload_n 0, 1) := by decide +kernel
theorem dX0_weightOf_9 : decode cX0_weightOf 9 = .ok (.getfield 15, 3) := by decide +kernel
theorem dX0_weightOf_12 : decode cX0_weightOf 12 = .ok (.iload_n 1, 1) := by decide +kernel
theorem dX0_weightOf_13 : decode cX0_weightOf 13 = .ok (.iaload, 1) := by decide +kernel
theorem dX0_weightOf_14 : decode cX0_weightOf 14 = .ok (.goto 4, 3) := by decide +kernel
theorem dX0_weightOf_17 : decode cX0_weightOf 17 = .ok (.iconst 0, 1) := by decide +kernel
theorem dX0_weightOf_18 : decode cX0_weightOf 18 = .ok (.ireturn, 1) := by decide +kernel
set_option maxRecDepth 20000 in
theorem ggX0_isHard_X0_weightOf : GoodIn wsX0_isHard wsX0_weightOf := goodIn_r _ [5, 6, 7, 8, 9, 4, 10, 11, 12, 13, 14] (by decide +kernel) (by decide +kernel)
set_option maxRecDepth 20000 in
theorem gX0_isHard_X0_weightOf : GoodIn wsX0_isHard (wsV RX0 33 RX0 yX0_weightOf wsX0_weightOf) := goodIn_app (goodIn_of _ (by decide +kernel)) ggX0_isHard_X0_weightOf
theorem dX0_isHard_0 : decode cX0_isHard 0 = .ok (.aload_n 0, 1) := by decide +kernel
theorem dX0_isHard_1 : decode cX0_isHard 1 = .ok (.iload_n 1, 1) := by decide +kernel
theorem dX0_isHard_2 : decode cX0_isHard 2 = .ok (.invokevirtual 33, 3) := by decide +kernel
theorem dX0_isHard_5 : decode cX0_isHard 5 = .ok (.ifCond .ne 7, 3) := by decide +kernel
theorem dX0_isHard_8 : decode cX0_isHard 8 = .ok (.iconst 1, 1) := by decide +kernel
theorem dX0_isHard_9 : decode cX0_isHard 9 = .ok (.goto 4, 3) := by decide +kernel
theorem dX0_isHard_12 : decode cX0_isHard 12 = .ok (.iconst 0, 1) := by decide +kernel
theorem dX0_isHard_13 : decode cX0_isHard 13 = .ok (.ireturn, 1) := by decide +kernel
set_option maxRecDepth 20000 in
theorem ggX0_changeWeight_X0_has : GoodIn wsX0_changeWeight wsX0_has := goodIn_r _ [6, 7, 8, 9, 10] (by decide +kernel) (by decide +kernel)
set_option maxRecDepth 20000 in
theorem gX0_changeWeight_X0_has : GoodIn wsX0_changeWeight (wsV RX0 29 RX0 yX0_has wsX0_has) := goodIn_app (goodIn_of _ (by decide +kernel)) ggX0_changeWeight_X0_has
theorem dX0_changeWeight_0 : decode cX0_changeWeight 0 = .ok (.aload_n 0, 1) := by decide +kernel
theorem dX0_changeWeight_1 : decode cX0_changeWeight 1 = .ok (.iload_n 1, 1) := by decide +kernel
theorem dX0_changeWeight_2 : decode cX0_changeWeight 2 = .ok (.invokevirtual 29, 3) := by decide +kernel
theorem dX0_changeWeight_5 : decode cX0_changeWeight 5 = .ok (.ifCond .eq 10, 3) := by decide +kernel
theorem dX0_changeWeight_8 : decode cX0_changeWeight 8 = .ok (.aload_n 0, 1) := by decide +kernel
theorem dX0_changeWeight_9 : decode cX0_changeWeight 9 = .ok (.getfield 15, 3) := by decide +kernel
theorem dX0_changeWeight_12 : decode cX0_changeWeight 12 = .ok (.iload_n 1, 1) := by decide +kernel
theorem dX0_changeWeight_13 : decode cX0_changeWeight 13 = .ok (.iload_n 2, 1) := by decide +kernel
theorem dX0_changeWeight_14 : decode cX0_changeWeight 14 = .ok (.iastore, 1) := by decide +kernel
theorem dX0_changeWeight_15 : decode cX0_changeWeight 15 = .ok (.return_, 1) := by decide +kernel
theorem dX0_softMask_0 : decode cX0_softMask 0 = .ok (.iconst 0, 1) := by decide +kernel
theorem dX0_softMask_1 : decode cX0_softMask 1 = .ok (.istore_n 1, 1) := by decide +kernel
theorem dX0_softMask_2 : decode cX0_softMask 2 = .ok (.iconst 0, 1) := by decide +kernel
theorem dX0_softMask_3 : decode cX0_softMask 3 = .ok (.istore_n 2, 1) := by decide +kernel
theorem dX0_softMask_4 : decode cX0_softMask 4 = .ok (.iload_n 2, 1) := by decide +kernel
theorem dX0_softMask_5 : decode cX0_softMask 5 = .ok (.aload_n 0, 1) := by decide +kernel
theorem dX0_softMask_6 : decode cX0_softMask 6 = .ok (.getfield 19, 3) := by decide +kernel
theorem dX0_softMask_9 : decode cX0_softMask 9 = .ok (.if_icmp .ge 24, 3) := by decide +kernel
theorem dX0_softMask_12 : decode cX0_softMask 12 = .ok (.aload_n 0, 1) := by decide +kernel
theorem dX0_softMask_13 : decode cX0_softMask 13 = .ok (.getfield 15, 3) := by decide +kernel
theorem dX0_softMask_16 : decode cX0_softMask 16 = .ok (.iload_n 2, 1) := by decide +kernel
theorem dX0_softMask_17 : decode cX0_softMask 17 = .ok (.iaload, 1) := by decide +kernel
theorem dX0_softMask_18 : decode cX0_softMask 18 = .ok (.ifCond .eq 9, 3) := by decide +kernel
theorem dX0_softMask_21 : decode cX0_softMask 21 = .ok (.iload_n 1, 1) := by decide +kernel
theorem dX0_softMask_22 : decode cX0_softMask 22 = .ok (.iconst 1, 1) := by decide +kernel
theorem dX0_softMask_23 : decode cX0_softMask 23 = .ok (.iload_n 2, 1) := by decide +kernel
theorem dX0_softMask_24 : decode cX0_softMask 24 = .ok (.ishl, 1) := by decide +kernel
theorem dX0_softMask_25 : decode cX0_softMask 25 = .ok (.ior, 1) := by decide +kernel
theorem dX0_softMask_26 : decode cX0_softMask 26 = .ok (.istore_n 1, 1) := by decide +kernel
theorem dX0_softMask_27 : decode cX0_softMask 27 = .ok (.iinc 2 1, 3) := by decide +kernel
theorem dX0_softMask_30 : decode cX0_softMask 30 = .ok (.goto (-26), 3) := by decide +kernel
theorem dX0_softMask_33 : decode cX0_softMask 33 = .ok (.iload_n 1, 1) := by decide +kernel
theorem dX0_softMask_34 : decode cX0_softMask 34 = .ok (.ireturn, 1) := by decide +kernel
set_option maxRecDepth 20000 in
theorem ggX0_isSelection_X0_softMask : GoodIn wsX0_isSelection wsX0_softMask := goodIn_r _ [5, 6, 7, 8, 9, 10] (by decide +kernel) (by decide +kernel)
set_option maxRecDepth 20000 in
theorem gX0_isSelection_X0_softMask : GoodIn wsX0_isSelection (wsV RX0 37 RX0 yX0_softMask wsX0_softMask) := goodIn_app (goodIn_of _ (by decide +kernel)) ggX0_isSelection_X0_softMask
theorem dX0_isSelection_0 : decode cX0_isSelection 0 = .ok (.iload_n 1, 1) := by decide +kernel
theorem dX0_isSelection_1 : decode cX0_isSelection 1 = .ok (.ifCond .lt 18, 3) := by decide +kernel
theorem dX0_isSelection_4 : decode cX0_isSelection 4 = .ok (.iload_n 1, 1) := by decide +kernel
theorem dX0_isSelection_5 : decode cX0_isSelection 5 = .ok (.aload_n 0, 1) := by decide +kernel
theorem dX0_isSelection_6 : decode cX0_isSelection 6 = .ok (.invokevirtual 37, 3) := by decide +kernel
theorem dX0_isSelection_9 : decode cX0_isSelection 9 = .ok (.iconst (-1), 1) := by decide +kernel
theorem dX0_isSelection_10 : decode cX0_isSelection 10 = .ok (.ixor, 1) := by decide +kernel
theorem dX0_isSelection_11 : decode cX0_isSelection 11 = .ok (.iand, 1) := by decide +kernel
theorem dX0_isSelection_12 : decode cX0_isSelection 12 = .ok (.ifCond .ne 7, 3) := by decide +kernel
theorem dX0_isSelection_15 : decode cX0_isSelection 15 = .ok (.iconst 1, 1) := by decide +kernel
theorem dX0_isSelection_16 : decode cX0_isSelection 16 = .ok (.goto 4, 3) := by decide +kernel
theorem dX0_isSelection_19 : decode cX0_isSelection 19 = .ok (.iconst 0, 1) := by decide +kernel
theorem dX0_isSelection_20 : decode cX0_isSelection 20 = .ok (.ireturn, 1) := by decide +kernel
theorem dX0_totalWeight_0 : decode cX0_totalWeight 0 = .ok (.iconst 0, 1) := by decide +kernel
theorem dX0_totalWeight_1 : decode cX0_totalWeight 1 = .ok (.istore_n 2, 1) := by decide +kernel
theorem dX0_totalWeight_2 : decode cX0_totalWeight 2 = .ok (.iconst 0, 1) := by decide +kernel
theorem dX0_totalWeight_3 : decode cX0_totalWeight 3 = .ok (.istore_n 3, 1) := by decide +kernel
theorem dX0_totalWeight_4 : decode cX0_totalWeight 4 = .ok (.iload_n 3, 1) := by decide +kernel
theorem dX0_totalWeight_5 : decode cX0_totalWeight 5 = .ok (.aload_n 0, 1) := by decide +kernel
theorem dX0_totalWeight_6 : decode cX0_totalWeight 6 = .ok (.getfield 19, 3) := by decide +kernel
theorem dX0_totalWeight_9 : decode cX0_totalWeight 9 = .ok (.if_icmp .ge 27, 3) := by decide +kernel
theorem dX0_totalWeight_12 : decode cX0_totalWeight 12 = .ok (.iload_n 1, 1) := by decide +kernel
theorem dX0_totalWeight_13 : decode cX0_totalWeight 13 = .ok (.iload_n 3, 1) := by decide +kernel
theorem dX0_totalWeight_14 : decode cX0_totalWeight 14 = .ok (.ishr, 1) := by decide +kernel
theorem dX0_totalWeight_15 : decode cX0_totalWeight 15 = .ok (.iconst 1, 1) := by decide +kernel
theorem dX0_totalWeight_16 : decode cX0_totalWeight 16 = .ok (.iand, 1) := by decide +kernel
theorem dX0_totalWeight_17 : decode cX0_totalWeight 17 = .ok (.iconst 1, 1) := by decide +kernel
theorem dX0_totalWeight_18 : decode cX0_totalWeight 18 = .ok (.if_icmp .ne 12, 3) := by decide +kernel
theorem dX0_totalWeight_21 : decode cX0_totalWeight 21 = .ok (.iload_n 2, 1) := by decide +kernel
theorem dX0_totalWeight_22 : decode cX0_totalWeight 22 = .ok (.aload_n 0, 1) := by decide +kernel
theorem dX0_totalWeight_23 : decode cX0_totalWeight 23 = .ok (.getfield 15, 3) := by decide +kernel
theorem dX0_totalWeight_26 : decode cX0_totalWeight 26 = .ok (.iload_n 3, 1) := by decide +kernel
theorem dX0_totalWeight_27 : decode cX0_totalWeight 27 = .ok (.iaload, 1) := by decide +kernel
theorem dX0_totalWeight_28 : decode cX0_totalWeight 28 = .ok (.iadd, 1) := by decide +kernel
theorem dX0_totalWeight_29 : decode cX0_totalWeight 29 = .ok (.istore_n 2, 1) := by decide +kernel
theorem dX0_totalWeight_30 : decode cX0_totalWeight 30 = .ok (.iinc 3 1, 3) := by decide +kernel
theorem dX0_totalWeight_33 : decode cX0_totalWeight 33 = .ok (.goto (-29), 3) := by decide +kernel
theorem dX0_totalWeight_36 : decode cX0_totalWeight 36 = .ok (.iload_n 2, 1) := by decide +kernel
theorem dX0_totalWeight_37 : decode cX0_totalWeight 37 = .ok (.ireturn, 1) := by decide +kernel
theorem dX0_modelsOf_0 : decode cX0_modelsOf 0 = .ok (.ldc2_w 41, 3) := by decide +kernel
theorem dX0_modelsOf_3 : decode cX0_modelsOf 3 = .ok (.lstore_n 2, 1) := by decide +kernel
theorem dX0_modelsOf_4 : decode cX0_modelsOf 4 = .ok (.iconst 0, 1) := by decide +kernel
theorem dX0_modelsOf_5 : decode cX0_modelsOf 5 = .ok (.istore 4, 2) := by decide +kernel
theorem dX0_modelsOf_7 : decode cX0_modelsOf 7 = .ok (.iload 4, 2) := by decide +kernel
theorem dX0_modelsOf_9 : decode cX0_modelsOf 9 = .ok (.aload_n 0, 1) := by decide +kernel
theorem dX0_modelsOf_10 : decode cX0_modelsOf 10 = .ok (.getfield 19, 3) := by decide +kernel
theorem dX0_modelsOf_13 : decode cX0_modelsOf 13 = .ok (.if_icmp .ge 39, 3) := by decide +kernel
theorem dX0_modelsOf_16 : decode cX0_modelsOf 16 = .ok (.aload_n 0, 1) := by decide +kernel
theorem dX0_modelsOf_17 : decode cX0_modelsOf 17 = .ok (.getfield 15, 3) := by decide +kernel
theorem dX0_modelsOf_20 : decode cX0_modelsOf 20 = .ok (.iload 4, 2) := by decide +kernel
theorem dX0_modelsOf_22 : decode cX0_modelsOf 22 = .ok (.iaload, 1) := by decide +kernel
theorem dX0_modelsOf_23 : decode cX0_modelsOf 23 = .ok (.ifCond .eq 13, 3) := by decide +kernel
theorem dX0_modelsOf_26 : decode cX0_modelsOf 26 = .ok (.iload_n 1, 1) := by decide +kernel
theorem dX0_modelsOf_27 : decode cX0_modelsOf 27 = .ok (.iload 4, 2) := by decide +kernel
theorem dX0_modelsOf_29 : decode cX0_modelsOf 29 = .ok (.ishr, 1) := by decide +kernel
theorem dX0_modelsOf_30 : decode cX0_modelsOf 30 = .ok (.iconst 1, 1) := by decide +kernel
theorem dX0_modelsOf_31 : decode cX0_modelsOf 31 = .ok (.iand, 1) := by decide +kernel
theorem dX0_modelsOf_32 : decode cX0_modelsOf 32 = .ok (.iconst 1, 1) := by decide +kernel
theorem dX0_modelsOf_33 : decode cX0_modelsOf 33 = .ok (.if_icmp .ne 13, 3) := by decide +kernel
theorem dX0_modelsOf_36 : decode cX0_modelsOf 36 = .ok (.lload_n 2, 1) := by decide +kernel
theorem dX0_modelsOf_37 : decode cX0_modelsOf 37 = .ok (.aload_n 0, 1) := by decide +kernel
theorem dX0_modelsOf_38 : decode cX0_modelsOf 38 = .ok (.getfield 9, 3) := by decide +kernel
theorem dX0_modelsOf_41 : decode cX0_modelsOf 41 = .ok (.iload 4, 2) := by decide +kernel
theorem dX0_modelsOf_43 : decode cX0_modelsOf 43 = .ok (.laload, 1) := by decide +kernel
theorem dX0_modelsOf_44 : decode cX0_modelsOf 44 = .ok (.land, 1) := by decide +kernel
theorem dX0_modelsOf_45 : decode cX0_modelsOf 45 = .ok (.lstore_n 2, 1) := by decide +kernel
theorem dX0_modelsOf_46 : decode cX0_modelsOf 46 = .ok (.iinc 4 1, 3) := by decide +kernel
theorem dX0_modelsOf_49 : decode cX0_modelsOf 49 = .ok (.goto (-42), 3) := by decide +kernel
theorem dX0_modelsOf_52 : decode cX0_modelsOf 52 = .ok (.lload_n 2, 1) := by decide +kernel
theorem dX0_modelsOf_53 : decode cX0_modelsOf 53 = .ok (.lreturn, 1) := by decide +kernel
set_option maxRecDepth 20000 in
theorem ggX0_isSatisfiable_X0_modelsOf : GoodIn wsX0_isSatisfiable wsX0_modelsOf := goodIn_r _ [5, 6, 7, 8, 9, 10, 11, 12] (by decide +kernel) (by decide +kernel)
set_option maxRecDepth 20000 in
theorem gX0_isSatisfiable_X0_modelsOf : GoodIn wsX0_isSatisfiable (wsV RX0 43 RX0 yX0_modelsOf wsX0_modelsOf) := goodIn_app (goodIn_of _ (by decide +kernel)) ggX0_isSatisfiable_X0_modelsOf
theorem dX0_isSatisfiable_0 : decode cX0_isSatisfiable 0 = .ok (.aload_n 0, 1) := by decide +kernel
theorem dX0_isSatisfiable_1 : decode cX0_isSatisfiable 1 = .ok (.iload_n 1, 1) := by decide +kernel
theorem dX0_isSatisfiable_2 : decode cX0_isSatisfiable 2 = .ok (.invokevirtual 43, 3) := by decide +kernel
theorem dX0_isSatisfiable_5 : decode cX0_isSatisfiable 5 = .ok (.lconst 0, 1) := by decide +kernel
theorem dX0_isSatisfiable_6 : decode cX0_isSatisfiable 6 = .ok (.lcmp, 1) := by decide +kernel
theorem dX0_isSatisfiable_7 : decode cX0_isSatisfiable 7 = .ok (.ifCond .eq 7, 3) := by decide +kernel
theorem dX0_isSatisfiable_10 : decode cX0_isSatisfiable 10 = .ok (.iconst 1, 1) := by decide +kernel
theorem dX0_isSatisfiable_11 : decode cX0_isSatisfiable 11 = .ok (.goto 4, 3) := by decide +kernel
theorem dX0_isSatisfiable_14 : decode cX0_isSatisfiable 14 = .ok (.iconst 0, 1) := by decide +kernel
theorem dX0_isSatisfiable_15 : decode cX0_isSatisfiable 15 = .ok (.ireturn, 1) := by decide +kernel
set_option maxRecDepth 20000 in
theorem ggX0_smallestModel_X0_modelsOf : GoodIn wsX0_smallestModel wsX0_modelsOf := goodIn_r _ [5, 6, 7, 8, 9, 10, 11, 12] (by decide +kernel) (by decide +kernel)
set_option maxRecDepth 20000 in
theorem gX0_smallestModel_X0_modelsOf : GoodIn wsX0_smallestModel (wsV RX0 43 RX0 yX0_modelsOf wsX0_modelsOf) := goodIn_app (goodIn_of _ (by decide +kernel)) ggX0_smallestModel_X0_modelsOf
theorem dX0_smallestModel_0 : decode cX0_smallestModel 0 = .ok (.aload_n 0, 1) := by decide +kernel
theorem dX0_smallestModel_1 : decode cX0_smallestModel 1 = .ok (.iload_n 1, 1) := by decide +kernel
theorem dX0_smallestModel_2 : decode cX0_smallestModel 2 = .ok (.invokevirtual 43, 3) := by decide +kernel
theorem dX0_smallestModel_5 : decode cX0_smallestModel 5 = .ok (.lstore_n 2, 1) := by decide +kernel
theorem dX0_smallestModel_6 : decode cX0_smallestModel 6 = .ok (.iconst 0, 1) := by decide +kernel
theorem dX0_smallestModel_7 : decode cX0_smallestModel 7 = .ok (.istore 4, 2) := by decide +kernel
theorem dX0_smallestModel_9 : decode cX0_smallestModel 9 = .ok (.iload 4, 2) := by decide +kernel
theorem dX0_smallestModel_11 : decode cX0_smallestModel 11 = .ok (.bipush 64, 2) := by decide +kernel
theorem dX0_smallestModel_13 : decode cX0_smallestModel 13 = .ok (.if_icmp .ge 23, 3) := by decide +kernel
theorem dX0_smallestModel_16 : decode cX0_smallestModel 16 = .ok (.lload_n 2, 1) := by decide +kernel
theorem dX0_smallestModel_17 : decode cX0_smallestModel 17 = .ok (.iload 4, 2) := by decide +kernel
theorem dX0_smallestModel_19 : decode cX0_smallestModel 19 = .ok (.lushr, 1) := by decide +kernel
theorem dX0_smallestModel_20 : decode cX0_smallestModel 20 = .ok (.lconst 1, 1) := by decide +kernel
theorem dX0_smallestModel_21 : decode cX0_smallestModel 21 = .ok (.land, 1) := by decide +kernel
theorem dX0_smallestModel_22 : decode cX0_smallestModel 22 = .ok (.lconst 1, 1) := by decide +kernel
theorem dX0_smallestModel_23 : decode cX0_smallestModel 23 = .ok (.lcmp, 1) := by decide +kernel
theorem dX0_smallestModel_24 : decode cX0_smallestModel 24 = .ok (.ifCond .ne 6, 3) := by decide +kernel
theorem dX0_smallestModel_27 : decode cX0_smallestModel 27 = .ok (.iload 4, 2) := by decide +kernel
theorem dX0_smallestModel_29 : decode cX0_smallestModel 29 = .ok (.ireturn, 1) := by decide +kernel
theorem dX0_smallestModel_30 : decode cX0_smallestModel 30 = .ok (.iinc 4 1, 3) := by decide +kernel
theorem dX0_smallestModel_33 : decode cX0_smallestModel 33 = .ok (.goto (-24), 3) := by decide +kernel
theorem dX0_smallestModel_36 : decode cX0_smallestModel 36 = .ok (.bipush (-9), 2) := by decide +kernel
theorem dX0_smallestModel_38 : decode cX0_smallestModel 38 = .ok (.ireturn, 1) := by decide +kernel
theorem dX0_violatedBy_0 : decode cX0_violatedBy 0 = .ok (.iconst 0, 1) := by decide +kernel
theorem dX0_violatedBy_1 : decode cX0_violatedBy 1 = .ok (.istore_n 2, 1) := by decide +kernel
theorem dX0_violatedBy_2 : decode cX0_violatedBy 2 = .ok (.iconst 0, 1) := by decide +kernel
theorem dX0_violatedBy_3 : decode cX0_violatedBy 3 = .ok (.istore_n 3, 1) := by decide +kernel
theorem dX0_violatedBy_4 : decode cX0_violatedBy 4 = .ok (.iload_n 3, 1) := by decide +kernel
theorem dX0_violatedBy_5 : decode cX0_violatedBy 5 = .ok (.aload_n 0, 1) := by decide +kernel
theorem dX0_violatedBy_6 : decode cX0_violatedBy 6 = .ok (.getfield 19, 3) := by decide +kernel
theorem dX0_violatedBy_9 : decode cX0_violatedBy 9 = .ok (.if_icmp .ge 30, 3) := by decide +kernel
theorem dX0_violatedBy_12 : decode cX0_violatedBy 12 = .ok (.aload_n 0, 1) := by decide +kernel
theorem dX0_violatedBy_13 : decode cX0_violatedBy 13 = .ok (.getfield 9, 3) := by decide +kernel
theorem dX0_violatedBy_16 : decode cX0_violatedBy 16 = .ok (.iload_n 3, 1) := by decide +kernel
theorem dX0_violatedBy_17 : decode cX0_violatedBy 17 = .ok (.laload, 1) := by decide +kernel
theorem dX0_violatedBy_18 : decode cX0_violatedBy 18 = .ok (.iload_n 1, 1) := by decide +kernel
theorem dX0_violatedBy_19 : decode cX0_violatedBy 19 = .ok (.lushr, 1) := by decide +kernel
theorem dX0_violatedBy_20 : decode cX0_violatedBy 20 = .ok (.lconst 1, 1) := by decide +kernel
theorem dX0_violatedBy_21 : decode cX0_violatedBy 21 = .ok (.land, 1) := by decide +kernel
theorem dX0_violatedBy_22 : decode cX0_violatedBy 22 = .ok (.lconst 0, 1) := by decide +kernel
theorem dX0_violatedBy_23 : decode cX0_violatedBy 23 = .ok (.lcmp, 1) := by decide +kernel
theorem dX0_violatedBy_24 : decode cX0_violatedBy 24 = .ok (.ifCond .ne 9, 3) := by decide +kernel
theorem dX0_violatedBy_27 : decode cX0_violatedBy 27 = .ok (.iload_n 2, 1) := by decide +kernel
theorem dX0_violatedBy_28 : decode cX0_violatedBy 28 = .ok (.iconst 1, 1) := by decide +kernel
theorem dX0_violatedBy_29 : decode cX0_violatedBy 29 = .ok (.iload_n 3, 1) := by decide +kernel
theorem dX0_violatedBy_30 : decode cX0_violatedBy 30 = .ok (.ishl, 1) := by decide +kernel
theorem dX0_violatedBy_31 : decode cX0_violatedBy 31 = .ok (.ior, 1) := by decide +kernel
theorem dX0_violatedBy_32 : decode cX0_violatedBy 32 = .ok (.istore_n 2, 1) := by decide +kernel
theorem dX0_violatedBy_33 : decode cX0_violatedBy 33 = .ok (.iinc 3 1, 3) := by decide +kernel
theorem dX0_violatedBy_36 : decode cX0_violatedBy 36 = .ok (.goto (-32), 3) := by decide +kernel
theorem dX0_violatedBy_39 : decode cX0_violatedBy 39 = .ok (.iload_n 2, 1) := by decide +kernel
theorem dX0_violatedBy_40 : decode cX0_violatedBy 40 = .ok (.ireturn, 1) := by decide +kernel
set_option maxRecDepth 20000 in
theorem ggX0_grow_X0_softMask : GoodIn wsX0_grow wsX0_softMask := goodIn_r _ [6, 1, 7, 18, 19, 20] (by decide +kernel) (by decide +kernel)
set_option maxRecDepth 20000 in
theorem gX0_grow_X0_softMask : GoodIn wsX0_grow (wsV RX0 37 RX0 yX0_softMask wsX0_softMask) := goodIn_app (goodIn_of _ (by decide +kernel)) ggX0_grow_X0_softMask
set_option maxRecDepth 20000 in
theorem ggX0_grow_X0_isSatisfiable : GoodIn wsX0_grow wsX0_isSatisfiable := goodIn_r _ [11, 12, 13, 14, 5, 15, 16, 1, 7, 17, 18, 19, 20] (by decide +kernel) (by decide +kernel)
set_option maxRecDepth 20000 in
theorem gX0_grow_X0_isSatisfiable : GoodIn wsX0_grow (wsV RX0 47 RX0 yX0_isSatisfiable wsX0_isSatisfiable) := goodIn_app (goodIn_of _ (by decide +kernel)) ggX0_grow_X0_isSatisfiable
theorem dX0_grow_0 : decode cX0_grow 0 = .ok (.aload_n 0, 1) := by decide +kernel
theorem dX0_grow_1 : decode cX0_grow 1 = .ok (.invokevirtual 37, 3) := by decide +kernel
theorem dX0_grow_4 : decode cX0_grow 4 = .ok (.istore_n 2, 1) := by decide +kernel
theorem dX0_grow_5 : decode cX0_grow 5 = .ok (.iload_n 1, 1) := by decide +kernel
theorem dX0_grow_6 : decode cX0_grow 6 = .ok (.istore_n 3, 1) := by decide +kernel
theorem dX0_grow_7 : decode cX0_grow 7 = .ok (.iconst 0, 1) := by decide +kernel
theorem dX0_grow_8 : decode cX0_grow 8 = .ok (.istore 4, 2) := by decide +kernel
theorem dX0_grow_10 : decode cX0_grow 10 = .ok (.iload 4, 2) := by decide +kernel
theorem dX0_grow_12 : decode cX0_grow 12 = .ok (.aload_n 0, 1) := by decide +kernel
theorem dX0_grow_13 : decode cX0_grow 13 = .ok (.getfield 19, 3) := by decide +kernel
theorem dX0_grow_16 : decode cX0_grow 16 = .ok (.if_icmp .ge 31, 3) := by decide +kernel
theorem dX0_grow_19 : decode cX0_grow 19 = .ok (.iload_n 3, 1) := by decide +kernel
theorem dX0_grow_20 : decode cX0_grow 20 = .ok (.iload_n 2, 1) := by decide +kernel
theorem dX0_grow_21 : decode cX0_grow 21 = .ok (.iconst 1, 1) := by decide +kernel
theorem dX0_grow_22 : decode cX0_grow 22 = .ok (.iload 4, 2) := by decide +kernel
theorem dX0_grow_24 : decode cX0_grow 24 = .ok (.ishl, 1) := by decide +kernel
theorem dX0_grow_25 : decode cX0_grow 25 = .ok (.iand, 1) := by decide +kernel
theorem dX0_grow_26 : decode cX0_grow 26 = .ok (.ior, 1) := by decide +kernel
theorem dX0_grow_27 : decode cX0_grow 27 = .ok (.istore 5, 2) := by decide +kernel
theorem dX0_grow_29 : decode cX0_grow 29 = .ok (.aload_n 0, 1) := by decide +kernel
theorem dX0_grow_30 : decode cX0_grow 30 = .ok (.iload 5, 2) := by decide +kernel
theorem dX0_grow_32 : decode cX0_grow 32 = .ok (.invokevirtual 47, 3) := by decide +kernel
theorem dX0_grow_35 : decode cX0_grow 35 = .ok (.ifCond .eq 6, 3) := by decide +kernel
theorem dX0_grow_38 : decode cX0_grow 38 = .ok (.iload 5, 2) := by decide +kernel
theorem dX0_grow_40 : decode cX0_grow 40 = .ok (.istore_n 3, 1) := by decide +kernel
theorem dX0_grow_41 : decode cX0_grow 41 = .ok (.iinc 4 1, 3) := by decide +kernel
theorem dX0_grow_44 : decode cX0_grow 44 = .ok (.goto (-34), 3) := by decide +kernel
theorem dX0_grow_47 : decode cX0_grow 47 = .ok (.iload_n 3, 1) := by decide +kernel
theorem dX0_grow_48 : decode cX0_grow 48 = .ok (.ireturn, 1) := by decide +kernel
set_option maxRecDepth 20000 in
theorem ggX0_shrink_X0_isSatisfiable : GoodIn wsX0_shrink wsX0_isSatisfiable := goodIn_r _ [6, 7, 8, 9, 5, 10, 11, 1, 12, 13, 14, 15, 16] (by decide +kernel) (by decide +kernel)
set_option maxRecDepth 20000 in
theorem gX0_shrink_X0_isSatisfiable : GoodIn wsX0_shrink (wsV RX0 47 RX0 yX0_isSatisfiable wsX0_isSatisfiable) := goodIn_app (goodIn_of _ (by decide +kernel)) ggX0_shrink_X0_isSatisfiable
theorem dX0_shrink_0 : decode cX0_shrink 0 = .ok (.iload_n 1, 1) := by decide +kernel
theorem dX0_shrink_1 : decode cX0_shrink 1 = .ok (.istore_n 2, 1) := by decide +kernel
theorem dX0_shrink_2 : decode cX0_shrink 2 = .ok (.iconst 0, 1) := by decide +kernel
theorem dX0_shrink_3 : decode cX0_shrink 3 = .ok (.istore_n 3, 1) := by decide +kernel
theorem dX0_shrink_4 : decode cX0_shrink 4 = .ok (.iload_n 3, 1) := by decide +kernel
theorem dX0_shrink_5 : decode cX0_shrink 5 = .ok (.aload_n 0, 1) := by decide +kernel
theorem dX0_shrink_6 : decode cX0_shrink 6 = .ok (.getfield 19, 3) := by decide +kernel
theorem dX0_shrink_9 : decode cX0_shrink 9 = .ok (.if_icmp .ge 30, 3) := by decide +kernel
theorem dX0_shrink_12 : decode cX0_shrink 12 = .ok (.iload_n 2, 1) := by decide +kernel
theorem dX0_shrink_13 : decode cX0_shrink 13 = .ok (.iconst 1, 1) := by decide +kernel
theorem dX0_shrink_14 : decode cX0_shrink 14 = .ok (.iload_n 3, 1) := by decide +kernel
theorem dX0_shrink_15 : decode cX0_shrink 15 = .ok (.ishl, 1) := by decide +kernel
theorem dX0_shrink_16 : decode cX0_shrink 16 = .ok (.iconst (-1), 1) := by decide +kernel
theorem dX0_shrink_17 : decode cX0_shrink 17 = .ok (.ixor, 1) := by decide +kernel
theorem dX0_shrink_18 : decode cX0_shrink 18 = .ok (.iand, 1) := by decide +kernel
theorem dX0_shrink_19 : decode cX0_shrink 19 = .ok (.istore 4, 2) := by decide +kernel
theorem dX0_shrink_21 : decode cX0_shrink 21 = .ok (.aload_n 0, 1) := by decide +kernel
theorem dX0_shrink_22 : decode cX0_shrink 22 = .ok (.iload 4, 2) := by decide +kernel
theorem dX0_shrink_24 : decode cX0_shrink 24 = .ok (.invokevirtual 47, 3) := by decide +kernel
theorem dX0_shrink_27 : decode cX0_shrink 27 = .ok (.ifCond .ne 6, 3) := by decide +kernel
theorem dX0_shrink_30 : decode cX0_shrink 30 = .ok (.iload 4, 2) := by decide +kernel
theorem dX0_shrink_32 : decode cX0_shrink 32 = .ok (.istore_n 2, 1) := by decide +kernel
theorem dX0_shrink_33 : decode cX0_shrink 33 = .ok (.iinc 3 1, 3) := by decide +kernel
theorem dX0_shrink_36 : decode cX0_shrink 36 = .ok (.goto (-32), 3) := by decide +kernel
theorem dX0_shrink_39 : decode cX0_shrink 39 = .ok (.iload_n 2, 1) := by decide +kernel
theorem dX0_shrink_40 : decode cX0_shrink 40 = .ok (.ireturn, 1) := by decide +kernel
set_option maxRecDepth 20000 in
theorem ggX0_criticalOf_X0_isSatisfiable : GoodIn wsX0_criticalOf wsX0_isSatisfiable := goodIn_r _ [6, 7, 8, 9, 5, 10, 11, 1, 12, 13, 14, 15, 16] (by decide +kernel) (by decide +kernel)
set_option maxRecDepth 20000 in
theorem gX0_criticalOf_X0_isSatisfiable : GoodIn wsX0_criticalOf (wsV RX0 47 RX0 yX0_isSatisfiable wsX0_isSatisfiable) := goodIn_app (goodIn_of _ (by decide +kernel)) ggX0_criticalOf_X0_isSatisfiable
theorem dX0_criticalOf_0 : decode cX0_criticalOf 0 = .ok (.iconst 0, 1) := by decide +kernel
theorem dX0_criticalOf_1 : decode cX0_criticalOf 1 = .ok (.istore_n 2, 1) := by decide +kernel
theorem dX0_criticalOf_2 : decode cX0_criticalOf 2 = .ok (.iconst 0, 1) := by decide +kernel
theorem dX0_criticalOf_3 : decode cX0_criticalOf 3 = .ok (.istore_n 3, 1) := by decide +kernel
theorem dX0_criticalOf_4 : decode cX0_criticalOf 4 = .ok (.iload_n 3, 1) := by decide +kernel
theorem dX0_criticalOf_5 : decode cX0_criticalOf 5 = .ok (.aload_n 0, 1) := by decide +kernel
theorem dX0_criticalOf_6 : decode cX0_criticalOf 6 = .ok (.getfield 19, 3) := by decide +kernel
theorem dX0_criticalOf_9 : decode cX0_criticalOf 9 = .ok (.if_icmp .ge 34, 3) := by decide +kernel
theorem dX0_criticalOf_12 : decode cX0_criticalOf 12 = .ok (.iload_n 1, 1) := by decide +kernel
theorem dX0_criticalOf_13 : decode cX0_criticalOf 13 = .ok (.iconst 1, 1) := by decide +kernel
theorem dX0_criticalOf_14 : decode cX0_criticalOf 14 = .ok (.iload_n 3, 1) := by decide +kernel
theorem dX0_criticalOf_15 : decode cX0_criticalOf 15 = .ok (.ishl, 1) := by decide +kernel
theorem dX0_criticalOf_16 : decode cX0_criticalOf 16 = .ok (.iand, 1) := by decide +kernel
theorem dX0_criticalOf_17 : decode cX0_criticalOf 17 = .ok (.istore 4, 2) := by decide +kernel
theorem dX0_criticalOf_19 : decode cX0_criticalOf 19 = .ok (.aload_n 0, 1) := by decide +kernel
theorem dX0_criticalOf_20 : decode cX0_criticalOf 20 = .ok (.iload_n 1, 1) := by decide +kernel
theorem dX0_criticalOf_21 : decode cX0_criticalOf 21 = .ok (.iload 4, 2) := by decide +kernel
theorem dX0_criticalOf_23 : decode cX0_criticalOf 23 = .ok (.iconst (-1), 1) := by decide +kernel
theorem dX0_criticalOf_24 : decode cX0_criticalOf 24 = .ok (.ixor, 1) := by decide +kernel
theorem dX0_criticalOf_25 : decode cX0_criticalOf 25 = .ok (.iand, 1) := by decide +kernel
theorem dX0_criticalOf_26 : decode cX0_criticalOf 26 = .ok (.invokevirtual 47, 3) := by decide +kernel
theorem dX0_criticalOf_29 : decode cX0_criticalOf 29 = .ok (.ifCond .eq 8, 3) := by decide +kernel
theorem dX0_criticalOf_32 : decode cX0_criticalOf 32 = .ok (.iload_n 2, 1) := by decide +kernel
theorem dX0_criticalOf_33 : decode cX0_criticalOf 33 = .ok (.iload 4, 2) := by decide +kernel
theorem dX0_criticalOf_35 : decode cX0_criticalOf 35 = .ok (.ior, 1) := by decide +kernel
theorem dX0_criticalOf_36 : decode cX0_criticalOf 36 = .ok (.istore_n 2, 1) := by decide +kernel
theorem dX0_criticalOf_37 : decode cX0_criticalOf 37 = .ok (.iinc 3 1, 3) := by decide +kernel
theorem dX0_criticalOf_40 : decode cX0_criticalOf 40 = .ok (.goto (-36), 3) := by decide +kernel
theorem dX0_criticalOf_43 : decode cX0_criticalOf 43 = .ok (.iload_n 2, 1) := by decide +kernel
theorem dX0_criticalOf_44 : decode cX0_criticalOf 44 = .ok (.ireturn, 1) := by decide +kernel
set_option maxRecDepth 20000 in
theorem ggX0_heaviest_X0_softMask : GoodIn wsX0_heaviest wsX0_softMask := goodIn_r _ [5, 6, 7, 17, 18, 19] (by decide +kernel) (by decide +kernel)
set_option maxRecDepth 20000 in
theorem gX0_heaviest_X0_softMask : GoodIn wsX0_heaviest (wsV RX0 37 RX0 yX0_softMask wsX0_softMask) := goodIn_app (goodIn_of _ (by decide +kernel)) ggX0_heaviest_X0_softMask
set_option maxRecDepth 20000 in
theorem ggX0_heaviest_X0_violatedBy : GoodIn wsX0_heaviest wsX0_violatedBy := goodIn_r _ [11, 6, 12, 17, 18, 19] (by decide +kernel) (by decide +kernel)
set_option maxRecDepth 20000 in
theorem gX0_heaviest_X0_violatedBy : GoodIn wsX0_heaviest (wsV RX0 50 RX0 yX0_violatedBy wsX0_violatedBy) := goodIn_app (goodIn_of _ (by decide +kernel)) ggX0_heaviest_X0_violatedBy
set_option maxRecDepth 20000 in
theorem ggX0_heaviest_X0_totalWeight : GoodIn wsX0_heaviest wsX0_totalWeight := goodIn_r _ [16, 6, 7, 17, 18, 19] (by decide +kernel) (by decide +kernel)
set_option maxRecDepth 20000 in
theorem gX0_heaviest_X0_totalWeight : GoodIn wsX0_heaviest (wsV RX0 53 RX0 yX0_totalWeight wsX0_totalWeight) := goodIn_app (goodIn_of _ (by decide +kernel)) ggX0_heaviest_X0_totalWeight
theorem dX0_heaviest_0 : decode cX0_heaviest 0 = .ok (.aload_n 0, 1) := by decide +kernel
theorem dX0_heaviest_1 : decode cX0_heaviest 1 = .ok (.invokevirtual 37, 3) := by decide +kernel
theorem dX0_heaviest_4 : decode cX0_heaviest 4 = .ok (.istore_n 1, 1) := by decide +kernel
theorem dX0_heaviest_5 : decode cX0_heaviest 5 = .ok (.bipush (-9), 2) := by decide +kernel
theorem dX0_heaviest_7 : decode cX0_heaviest 7 = .ok (.istore_n 2, 1) := by decide +kernel
theorem dX0_heaviest_8 : decode cX0_heaviest 8 = .ok (.iconst 0, 1) := by decide +kernel
theorem dX0_heaviest_9 : decode cX0_heaviest 9 = .ok (.istore_n 3, 1) := by decide +kernel
theorem dX0_heaviest_10 : decode cX0_heaviest 10 = .ok (.iconst 0, 1) := by decide +kernel
theorem dX0_heaviest_11 : decode cX0_heaviest 11 = .ok (.istore 4, 2) := by decide +kernel
theorem dX0_heaviest_13 : decode cX0_heaviest 13 = .ok (.iload 4, 2) := by decide +kernel
theorem dX0_heaviest_15 : decode cX0_heaviest 15 = .ok (.bipush 64, 2) := by decide +kernel
theorem dX0_heaviest_17 : decode cX0_heaviest 17 = .ok (.if_icmp .ge 84, 3) := by decide +kernel
theorem dX0_heaviest_20 : decode cX0_heaviest 20 = .ok (.aload_n 0, 1) := by decide +kernel
theorem dX0_heaviest_21 : decode cX0_heaviest 21 = .ok (.iload 4, 2) := by decide +kernel
theorem dX0_heaviest_23 : decode cX0_heaviest 23 = .ok (.invokevirtual 50, 3) := by decide +kernel
theorem dX0_heaviest_26 : decode cX0_heaviest 26 = .ok (.istore 5, 2) := by decide +kernel
theorem dX0_heaviest_28 : decode cX0_heaviest 28 = .ok (.iload 5, 2) := by decide +kernel
theorem dX0_heaviest_30 : decode cX0_heaviest 30 = .ok (.iload_n 1, 1) := by decide +kernel
theorem dX0_heaviest_31 : decode cX0_heaviest 31 = .ok (.iconst (-1), 1) := by decide +kernel
theorem dX0_heaviest_32 : decode cX0_heaviest 32 = .ok (.ixor, 1) := by decide +kernel
theorem dX0_heaviest_33 : decode cX0_heaviest 33 = .ok (.iand, 1) := by decide +kernel
theorem dX0_heaviest_34 : decode cX0_heaviest 34 = .ok (.ifCond .ne 61, 3) := by decide +kernel
theorem dX0_heaviest_37 : decode cX0_heaviest 37 = .ok (.iload_n 1, 1) := by decide +kernel
theorem dX0_heaviest_38 : decode cX0_heaviest 38 = .ok (.iload 5, 2) := by decide +kernel
theorem dX0_heaviest_40 : decode cX0_heaviest 40 = .ok (.iconst (-1), 1) := by decide +kernel
theorem dX0_heaviest_41 : decode cX0_heaviest 41 = .ok (.ixor, 1) := by decide +kernel
theorem dX0_heaviest_42 : decode cX0_heaviest 42 = .ok (.iand, 1) := by decide +kernel
theorem dX0_heaviest_43 : decode cX0_heaviest 43 = .ok (.istore 6, 2) := by decide +kernel
theorem dX0_heaviest_45 : decode cX0_heaviest 45 = .ok (.aload_n 0, 1) := by decide +kernel
theorem dX0_heaviest_46 : decode cX0_heaviest 46 = .ok (.iload 6, 2) := by decide +kernel
theorem dX0_heaviest_48 : decode cX0_heaviest 48 = .ok (.invokevirtual 53, 3) := by decide +kernel
theorem dX0_heaviest_51 : decode cX0_heaviest 51 = .ok (.istore 7, 2) := by decide +kernel
theorem dX0_heaviest_53 : decode cX0_heaviest 53 = .ok (.iload 7, 2) := by decide +kernel
theorem dX0_heaviest_55 : decode cX0_heaviest 55 = .ok (.iload_n 3, 1) := by decide +kernel
theorem dX0_heaviest_56 : decode cX0_heaviest 56 = .ok (.if_icmp .gt 15, 3) := by decide +kernel
theorem dX0_heaviest_59 : decode cX0_heaviest 59 = .ok (.iload 7, 2) := by decide +kernel
theorem dX0_heaviest_61 : decode cX0_heaviest 61 = .ok (.iload_n 3, 1) := by decide +kernel
theorem dX0_heaviest_62 : decode cX0_heaviest 62 = .ok (.if_icmp .ne 13, 3) := by decide +kernel
theorem dX0_heaviest_65 : decode cX0_heaviest 65 = .ok (.iload 6, 2) := by decide +kernel
theorem dX0_heaviest_67 : decode cX0_heaviest 67 = .ok (.iload_n 2, 1) := by decide +kernel
theorem dX0_heaviest_68 : decode cX0_heaviest 68 = .ok (.if_icmp .ge 7, 3) := by decide +kernel
theorem dX0_heaviest_71 : decode cX0_heaviest 71 = .ok (.iconst 1, 1) := by decide +kernel
theorem dX0_heaviest_72 : decode cX0_heaviest 72 = .ok (.goto 4, 3) := by decide +kernel
theorem dX0_heaviest_75 : decode cX0_heaviest 75 = .ok (.iconst 0, 1) := by decide +kernel
theorem dX0_heaviest_76 : decode cX0_heaviest 76 = .ok (.istore 8, 2) := by decide +kernel
theorem dX0_heaviest_78 : decode cX0_heaviest 78 = .ok (.iload_n 2, 1) := by decide +kernel
theorem dX0_heaviest_79 : decode cX0_heaviest 79 = .ok (.bipush (-9), 2) := by decide +kernel
theorem dX0_heaviest_81 : decode cX0_heaviest 81 = .ok (.if_icmp .eq 8, 3) := by decide +kernel
theorem dX0_heaviest_84 : decode cX0_heaviest 84 = .ok (.iload 8, 2) := by decide +kernel
theorem dX0_heaviest_86 : decode cX0_heaviest 86 = .ok (.ifCond .eq 9, 3) := by decide +kernel
theorem dX0_heaviest_89 : decode cX0_heaviest 89 = .ok (.iload 6, 2) := by decide +kernel
theorem dX0_heaviest_91 : decode cX0_heaviest 91 = .ok (.istore_n 2, 1) := by decide +kernel
theorem dX0_heaviest_92 : decode cX0_heaviest 92 = .ok (.iload 7, 2) := by decide +kernel
theorem dX0_heaviest_94 : decode cX0_heaviest 94 = .ok (.istore_n 3, 1) := by decide +kernel
theorem dX0_heaviest_95 : decode cX0_heaviest 95 = .ok (.iinc 4 1, 3) := by decide +kernel
theorem dX0_heaviest_98 : decode cX0_heaviest 98 = .ok (.goto (-85), 3) := by decide +kernel
theorem dX0_heaviest_101 : decode cX0_heaviest 101 = .ok (.iload_n 2, 1) := by decide +kernel
theorem dX0_heaviest_102 : decode cX0_heaviest 102 = .ok (.ireturn, 1) := by decide +kernel
theorem dX1_init_0 : decode cX1_init 0 = .ok (.aload_n 0, 1) := by decide +kernel
theorem dX1_init_1 : decode cX1_init 1 = .ok (.invokespecial 3, 3) := by decide +kernel
theorem dX1_init_4 : decode cX1_init 4 = .ok (.aload_n 0, 1) := by decide +kernel
theorem dX1_init_5 : decode cX1_init 5 = .ok (.iconst 5, 1) := by decide +kernel
theorem dX1_init_6 : decode cX1_init 6 = .ok (.anewarray 9, 3) := by decide +kernel
theorem dX1_init_9 : decode cX1_init 9 = .ok (.putfield 11, 3) := by decide +kernel
theorem dX1_init_12 : decode cX1_init 12 = .ok (.return_, 1) := by decide +kernel
theorem dX1_depth_0 : decode cX1_depth 0 = .ok (.aload_n 0, 1) := by decide +kernel
theorem dX1_depth_1 : decode cX1_depth 1 = .ok (.getfield 17, 3) := by decide +kernel
theorem dX1_depth_4 : decode cX1_depth 4 = .ok (.ireturn, 1) := by decide +kernel
theorem dX1_clear_0 : decode cX1_clear 0 = .ok (.aload_n 0, 1) := by decide +kernel
theorem dX1_clear_1 : decode cX1_clear 1 = .ok (.iconst 0, 1) := by decide +kernel
theorem dX1_clear_2 : decode cX1_clear 2 = .ok (.putfield 17, 3) := by decide +kernel
theorem dX1_clear_5 : decode cX1_clear 5 = .ok (.return_, 1) := by decide +kernel
set_option maxRecDepth 20000 in
theorem ggX1_push_X4_init : GoodIn wsX1_push wsX4_init := goodIn_r _ [8, 9, 10, 11, 12, 13, 14, 15, 16, 17, 18, 19, 20, 21, 22, 23, 24, 25, 26, 27, 28, 29, 30, 31, 32, 33, 62, 63, 64, 57, 58, 59, 60, 61, 65, 66] (by decide +kernel) (by decide +kernel)
set_option maxRecDepth 20000 in
theorem gX1_push_X4_init_n24 : GoodIn wsX1_push (wsX4_init) := ggX1_push_X4_init
set_option maxRecDepth 20000 in
theorem ggX1_push_X4_copyFrom : GoodIn wsX1_push wsX4_copyFrom := goodIn_r _ [37, 15, 19, 20, 22, 38, 39, 40, 41, 23, 42, 43, 44, 14, 45, 27, 46, 29, 47, 48, 49, 50, 18, 51, 33, 52, 53, 57, 58, 59, 60, 61, 62, 63, 64, 65, 66] (by decide +kernel) (by decide +kernel)
set_option maxRecDepth 20000 in
theorem gX1_push_X4_copyFrom : GoodIn wsX1_push (wsV RX1 25 RX4 yX4_copyFrom wsX4_copyFrom) := goodIn_app (goodIn_of _ (by decide +kernel)) ggX1_push_X4_copyFrom
theorem dX1_push_0 : decode cX1_push 0 = .ok (.aload_n 0, 1) := by decide +kernel
theorem dX1_push_1 : decode cX1_push 1 = .ok (.aload_n 0, 1) := by decide +kernel
theorem dX1_push_2 : decode cX1_push 2 = .ok (.getfield 21, 3) := by decide +kernel
theorem dX1_push_5 : decode cX1_push 5 = .ok (.iconst 1, 1) := by decide +kernel
theorem dX1_push_6 : decode cX1_push 6 = .ok (.iadd, 1) := by decide +kernel
theorem dX1_push_7 : decode cX1_push 7 = .ok (.iconst 5, 1) := by decide +kernel
theorem dX1_push_8 : decode cX1_push 8 = .ok (.if_icmp .ge 12, 3) := by decide +kernel
theorem dX1_push_11 : decode cX1_push 11 = .ok (.aload_n 0, 1) := by decide +kernel
theorem dX1_push_12 : decode cX1_push 12 = .ok (.getfield 21, 3) := by decide +kernel
theorem dX1_push_15 : decode cX1_push 15 = .ok (.iconst 1, 1) := by decide +kernel
theorem dX1_push_16 : decode cX1_push 16 = .ok (.iadd, 1) := by decide +kernel
theorem dX1_push_17 : decode cX1_push 17 = .ok (.goto 4, 3) := by decide +kernel
theorem dX1_push_20 : decode cX1_push 20 = .ok (.iconst 0, 1) := by decide +kernel
theorem dX1_push_21 : decode cX1_push 21 = .ok (.putfield 21, 3) := by decide +kernel
theorem dX1_push_24 : decode cX1_push 24 = .ok (.aload_n 0, 1) := by decide +kernel
theorem dX1_push_25 : decode cX1_push 25 = .ok (.getfield 11, 3) := by decide +kernel
theorem dX1_push_28 : decode cX1_push 28 = .ok (.aload_n 0, 1) := by decide +kernel
theorem dX1_push_29 : decode cX1_push 29 = .ok (.getfield 21, 3) := by decide +kernel
theorem dX1_push_32 : decode cX1_push 32 = .ok (.aaload, 1) := by decide +kernel
theorem dX1_push_33 : decode cX1_push 33 = .ok (.astore_n 2, 1) := by decide +kernel
theorem dX1_push_34 : decode cX1_push 34 = .ok (.aload_n 2, 1) := by decide +kernel
theorem dX1_push_35 : decode cX1_push 35 = .ok (.ifnonnull 21, 3) := by decide +kernel
theorem dX1_push_38 : decode cX1_push 38 = .ok (.new 9, 3) := by decide +kernel
theorem dX1_push_41 : decode cX1_push 41 = .ok (.dup, 1) := by decide +kernel
theorem dX1_push_42 : decode cX1_push 42 = .ok (.invokespecial 24, 3) := by decide +kernel
theorem dX1_push_45 : decode cX1_push 45 = .ok (.astore_n 2, 1) := by decide +kernel
theorem dX1_push_46 : decode cX1_push 46 = .ok (.aload_n 0, 1) := by decide +kernel
theorem dX1_push_47 : decode cX1_push 47 = .ok (.getfield 11, 3) := by decide +kernel
theorem dX1_push_50 : decode cX1_push 50 = .ok (.aload_n 0, 1) := by decide +kernel
theorem dX1_push_51 : decode cX1_push 51 = .ok (.getfield 21, 3) := by decide +kernel
theorem dX1_push_54 : decode cX1_push 54 = .ok (.aload_n 2, 1) := by decide +kernel
theorem dX1_push_55 : decode cX1_push 55 = .ok (.aastore, 1) := by decide +kernel
theorem dX1_push_56 : decode cX1_push 56 = .ok (.aload_n 2, 1) := by decide +kernel
theorem dX1_push_57 : decode cX1_push 57 = .ok (.aload_n 1, 1) := by decide +kernel
theorem dX1_push_58 : decode cX1_push 58 = .ok (.invokevirtual 25, 3) := by decide +kernel
theorem dX1_push_61 : decode cX1_push 61 = .ok (.aload_n 0, 1) := by decide +kernel
theorem dX1_push_62 : decode cX1_push 62 = .ok (.getfield 17, 3) := by decide +kernel
theorem dX1_push_65 : decode cX1_push 65 = .ok (.iconst 5, 1) := by decide +kernel
theorem dX1_push_66 : decode cX1_push 66 = .ok (.if_icmp .ge 13, 3) := by decide +kernel
theorem dX1_push_69 : decode cX1_push 69 = .ok (.aload_n 0, 1) := by decide +kernel
theorem dX1_push_70 : decode cX1_push 70 = .ok (.dup, 1) := by decide +kernel
theorem dX1_push_71 : decode cX1_push 71 = .ok (.getfield 17, 3) := by decide +kernel
theorem dX1_push_74 : decode cX1_push 74 = .ok (.iconst 1, 1) := by decide +kernel
theorem dX1_push_75 : decode cX1_push 75 = .ok (.iadd, 1) := by decide +kernel
theorem dX1_push_76 : decode cX1_push 76 = .ok (.putfield 17, 3) := by decide +kernel
theorem dX1_push_79 : decode cX1_push 79 = .ok (.return_, 1) := by decide +kernel
set_option maxRecDepth 20000 in
theorem ggX1_pop_X4_copyFrom : GoodIn wsX1_pop wsX4_copyFrom := goodIn_r _ [8, 9, 10, 11, 12, 13, 14, 15, 16, 17, 18, 19, 20, 21, 22, 23, 24, 25, 26, 27, 28, 29, 30, 31, 32, 33, 34, 38, 39, 40, 41, 42, 43, 44, 45, 46, 47] (by decide +kernel) (by decide +kernel)
set_option maxRecDepth 20000 in
theorem gX1_pop_X4_copyFrom : GoodIn wsX1_pop (wsV RX1 25 RX4 yX4_copyFrom wsX4_copyFrom) := goodIn_app (goodIn_of _ (by decide +kernel)) ggX1_pop_X4_copyFrom
theorem dX1_pop_0 : decode cX1_pop 0 = .ok (.aload_n 0, 1) := by decide +kernel
theorem dX1_pop_1 : decode cX1_pop 1 = .ok (.getfield 11, 3) := by decide +kernel
theorem dX1_pop_4 : decode cX1_pop 4 = .ok (.aload_n 0, 1) := by decide +kernel
theorem dX1_pop_5 : decode cX1_pop 5 = .ok (.getfield 21, 3) := by decide +kernel
theorem dX1_pop_8 : decode cX1_pop 8 = .ok (.aaload, 1) := by decide +kernel
theorem dX1_pop_9 : decode cX1_pop 9 = .ok (.astore_n 2, 1) := by decide +kernel
theorem dX1_pop_10 : decode cX1_pop 10 = .ok (.aload_n 0, 1) := by decide +kernel
theorem dX1_pop_11 : decode cX1_pop 11 = .ok (.getfield 17, 3) := by decide +kernel
theorem dX1_pop_14 : decode cX1_pop 14 = .ok (.ifCond .eq 7, 3) := by decide +kernel
theorem dX1_pop_17 : decode cX1_pop 17 = .ok (.aload_n 2, 1) := by decide +kernel
theorem dX1_pop_18 : decode cX1_pop 18 = .ok (.ifnonnull 5, 3) := by decide +kernel
theorem dX1_pop_21 : decode cX1_pop 21 = .ok (.iconst 0, 1) := by decide +kernel
theorem dX1_pop_22 : decode cX1_pop 22 = .ok (.ireturn, 1) := by decide +kernel
theorem dX1_pop_23 : decode cX1_pop 23 = .ok (.aload_n 1, 1) := by decide +kernel
theorem dX1_pop_24 : decode cX1_pop 24 = .ok (.aload_n 2, 1) := by decide +kernel
theorem dX1_pop_25 : decode cX1_pop 25 = .ok (.invokevirtual 25, 3) := by decide +kernel
theorem dX1_pop_28 : decode cX1_pop 28 = .ok (.aload_n 0, 1) := by decide +kernel
theorem dX1_pop_29 : decode cX1_pop 29 = .ok (.aload_n 0, 1) := by decide +kernel
theorem dX1_pop_30 : decode cX1_pop 30 = .ok (.getfield 21, 3) := by decide +kernel
theorem dX1_pop_33 : decode cX1_pop 33 = .ok (.ifCond .le 12, 3) := by decide +kernel
theorem dX1_pop_36 : decode cX1_pop 36 = .ok (.aload_n 0, 1) := by decide +kernel
theorem dX1_pop_37 : decode cX1_pop 37 = .ok (.getfield 21, 3) := by decide +kernel
theorem dX1_pop_40 : decode cX1_pop 40 = .ok (.iconst 1, 1) := by decide +kernel
theorem dX1_pop_41 : decode cX1_pop 41 = .ok (.isub, 1) := by decide +kernel
theorem dX1_pop_42 : decode cX1_pop 42 = .ok (.goto 4, 3) := by decide +kernel
theorem dX1_pop_45 : decode cX1_pop 45 = .ok (.iconst 4, 1) := by decide +kernel
theorem dX1_pop_46 : decode cX1_pop 46 = .ok (.putfield 21, 3) := by decide +kernel
theorem dX1_pop_49 : decode cX1_pop 49 = .ok (.aload_n 0, 1) := by decide +kernel
theorem dX1_pop_50 : decode cX1_pop 50 = .ok (.dup, 1) := by decide +kernel
theorem dX1_pop_51 : decode cX1_pop 51 = .ok (.getfield 17, 3) := by decide +kernel
theorem dX1_pop_54 : decode cX1_pop 54 = .ok (.iconst 1, 1) := by decide +kernel
theorem dX1_pop_55 : decode cX1_pop 55 = .ok (.isub, 1) := by decide +kernel
theorem dX1_pop_56 : decode cX1_pop 56 = .ok (.putfield 17, 3) := by decide +kernel
theorem dX1_pop_59 : decode cX1_pop 59 = .ok (.iconst 1, 1) := by decide +kernel
theorem dX1_pop_60 : decode cX1_pop 60 = .ok (.ireturn, 1) := by decide +kernel
set_option maxRecDepth 20000 in
theorem ggX2_init_X0_init : GoodIn wsX2_init wsX0_init := goodIn_r _ [9, 10, 2, 3, 11, 12, 13, 14, 15, 16, 17] (by decide +kernel) (by decide +kernel)
set_option maxRecDepth 20000 in
theorem gX2_init_X0_init_n11 : GoodIn wsX2_init (wsX0_init) := ggX2_init_X0_init
theorem dX2_init_0 : decode cX2_init 0 = .ok (.aload_n 0, 1) := by decide +kernel
theorem dX2_init_1 : decode cX2_init 1 = .ok (.invokespecial 3, 3) := by decide +kernel
theorem dX2_init_4 : decode cX2_init 4 = .ok (.aload_n 0, 1) := by decide +kernel
theorem dX2_init_5 : decode cX2_init 5 = .ok (.new 9, 3) := by decide +kernel
theorem dX2_init_8 : decode cX2_init 8 = .ok (.dup, 1) := by decide +kernel
theorem dX2_init_9 : decode cX2_init 9 = .ok (.invokespecial 11, 3) := by decide +kernel
theorem dX2_init_12 : decode cX2_init 12 = .ok (.putfield 12, 3) := by decide +kernel
theorem dX2_init_15 : decode cX2_init 15 = .ok (.return_, 1) := by decide +kernel
theorem dX2_parsed_0 : decode cX2_parsed 0 = .ok (.aload_n 0, 1) := by decide +kernel
theorem dX2_parsed_1 : decode cX2_parsed 1 = .ok (.getfield 12, 3) := by decide +kernel
theorem dX2_parsed_4 : decode cX2_parsed 4 = .ok (.areturn, 1) := by decide +kernel
set_option maxRecDepth 20000 in
theorem ggX2_parse_X0_clear : GoodIn wsX2_parse wsX0_clear := goodIn_r _ [7, 8, 158, 159, 160] (by decide +kernel) (by decide +kernel)
set_option maxRecDepth 20000 in
theorem gX2_parse_X0_clear : GoodIn wsX2_parse (wsV RX2 18 RX0 yX0_clear wsX0_clear) := goodIn_app (goodIn_of _ (by decide +kernel)) ggX2_parse_X0_clear
set_option maxRecDepth 20000 in
theorem ggX2_parse_X5_length : GoodIn wsX2_parse wsX5_length := goodIn_r _ [13, 14, 161, 162] (by decide +kernel) (by decide +kernel)
set_option maxRecDepth 20000 in
theorem gX2_parse_X5_length : GoodIn wsX2_parse (wsV RX2 25 RX5 yX5_length wsX5_length) := goodIn_app (goodIn_of _ (by decide +kernel)) ggX2_parse_X5_length
set_option maxRecDepth 20000 in
theorem ggX2_parse_X5_isLetter : GoodIn wsX2_parse wsX5_isLetter := goodIn_r _ [18, 19, 20, 21, 12, 22, 14, 23, 161, 162] (by decide +kernel) (by decide +kernel)
set_option maxRecDepth 20000 in
theorem gX2_parse_X5_isLetter : GoodIn wsX2_parse (wsV RX2 31 RX5 yX5_isLetter wsX5_isLetter) := goodIn_app (goodIn_of _ (by decide +kernel)) ggX2_parse_X5_isLetter
set_option maxRecDepth 20000 in
theorem ggX2_parse_X5_at : GoodIn wsX2_parse wsX5_at := goodIn_r _ [22, 14, 23, 161, 162] (by decide +kernel) (by decide +kernel)
set_option maxRecDepth 20000 in
theorem gX2_parse_X5_at : GoodIn wsX2_parse (wsV RX2 35 RX5 yX5_at wsX5_at) := goodIn_app (goodIn_of _ (by decide +kernel)) ggX2_parse_X5_at
set_option maxRecDepth 20000 in
theorem ggX2_parse_X2_tokenOf : GoodIn wsX2_parse wsX2_tokenOf := goodIn_r _ [28, 15, 16, 17, 12, 18, 19, 20, 21, 22, 14, 23, 29, 30, 27, 31, 32, 33, 34, 35, 36, 37, 38, 39, 40, 41, 42, 43, 44, 45, 46, 47, 48, 49, 50, 51, 52, 53, 54, 55, 56, 57, 58, 59, 60, 61, 62, 63, 64, 65, 66, 67, 68, 69, 70, 71, 72, 73, 74, 75, 76, 77, 78, 79, 80, 81, 82, 83, 84, 24, 161, 162] (by decide +kernel) (by decide +kernel)
set_option maxRecDepth 20000 in
theorem gX2_parse_X2_tokenOf : GoodIn wsX2_parse (va_wsS RX2 39 yX2_tokenOf wsX2_tokenOf) := goodIn_app (goodIn_of _ (by decide +kernel)) ggX2_parse_X2_tokenOf
set_option maxRecDepth 20000 in
theorem ggX2_parse_X2_accept : GoodIn wsX2_parse wsX2_accept := goodIn_r _ [88, 2, 89, 90, 91, 27, 92, 1, 93, 94, 95, 96, 97, 98, 6, 99, 8, 100, 101, 102, 103, 104, 105, 106, 107, 108, 109, 110, 111, 112, 113, 114, 115, 116, 117, 118, 119, 120, 121, 122, 123, 124, 125, 126, 127, 128, 129, 130, 131, 132, 133, 134, 135, 136, 137, 138, 139, 140, 141, 142, 143, 144, 145, 146, 147, 148, 149, 150, 151, 152, 153, 154, 155, 156, 157, 158, 159, 160] (by decide +kernel) (by decide +kernel)
set_option maxRecDepth 20000 in
theorem gX2_parse_X2_accept : GoodIn wsX2_parse (wsV RX2 43 RX2 yX2_accept wsX2_accept) := goodIn_app (goodIn_of _ (by decide +kernel)) ggX2_parse_X2_accept
theorem dX2_parse_0 : decode cX2_parse 0 = .ok (.aload_n 0, 1) := by decide +kernel
theorem dX2_parse_1 : decode cX2_parse 1 = .ok (.getfield 12, 3) := by decide +kernel
theorem dX2_parse_4 : decode cX2_parse 4 = .ok (.invokevirtual 18, 3) := by decide +kernel
theorem dX2_parse_7 : decode cX2_parse 7 = .ok (.aload_n 0, 1) := by decide +kernel
theorem dX2_parse_8 : decode cX2_parse 8 = .ok (.iconst 0, 1) := by decide +kernel
theorem dX2_parse_9 : decode cX2_parse 9 = .ok (.putfield 21, 3) := by decide +kernel
theorem dX2_parse_12 : decode cX2_parse 12 = .ok (.iconst 0, 1) := by decide +kernel
theorem dX2_parse_13 : decode cX2_parse 13 = .ok (.istore_n 2, 1) := by decide +kernel
theorem dX2_parse_14 : decode cX2_parse 14 = .ok (.iconst 0, 1) := by decide +kernel
theorem dX2_parse_15 : decode cX2_parse 15 = .ok (.istore_n 3, 1) := by decide +kernel
theorem dX2_parse_16 : decode cX2_parse 16 = .ok (.iload_n 3, 1) := by decide +kernel
theorem dX2_parse_17 : decode cX2_parse 17 = .ok (.aload_n 1, 1) := by decide +kernel
theorem dX2_parse_18 : decode cX2_parse 18 = .ok (.invokevirtual 25, 3) := by decide +kernel
theorem dX2_parse_21 : decode cX2_parse 21 = .ok (.if_icmp .ge 68, 3) := by decide +kernel
theorem dX2_parse_24 : decode cX2_parse 24 = .ok (.aload_n 1, 1) := by decide +kernel
theorem dX2_parse_25 : decode cX2_parse 25 = .ok (.iload_n 3, 1) := by decide +kernel
theorem dX2_parse_26 : decode cX2_parse 26 = .ok (.invokevirtual 31, 3) := by decide +kernel
theorem dX2_parse_29 : decode cX2_parse 29 = .ok (.ifCond .eq 17, 3) := by decide +kernel
theorem dX2_parse_32 : decode cX2_parse 32 = .ok (.aload_n 1, 1) := by decide +kernel
theorem dX2_parse_33 : decode cX2_parse 33 = .ok (.iload_n 3, 1) := by decide +kernel
theorem dX2_parse_34 : decode cX2_parse 34 = .ok (.iconst 1, 1) := by decide +kernel
theorem dX2_parse_35 : decode cX2_parse 35 = .ok (.iadd, 1) := by decide +kernel
theorem dX2_parse_36 : decode cX2_parse 36 = .ok (.invokevirtual 31, 3) := by decide +kernel
theorem dX2_parse_39 : decode cX2_parse 39 = .ok (.ifCond .eq 7, 3) := by decide +kernel
theorem dX2_parse_42 : decode cX2_parse 42 = .ok (.iconst 1, 1) := by decide +kernel
theorem dX2_parse_43 : decode cX2_parse 43 = .ok (.goto 4, 3) := by decide +kernel
theorem dX2_parse_46 : decode cX2_parse 46 = .ok (.iconst 0, 1) := by decide +kernel
theorem dX2_parse_47 : decode cX2_parse 47 = .ok (.istore 4, 2) := by decide +kernel
theorem dX2_parse_49 : decode cX2_parse 49 = .ok (.iload 4, 2) := by decide +kernel
theorem dX2_parse_51 : decode cX2_parse 51 = .ok (.ifCond .ne 32, 3) := by decide +kernel
theorem dX2_parse_54 : decode cX2_parse 54 = .ok (.aload_n 1, 1) := by decide +kernel
theorem dX2_parse_55 : decode cX2_parse 55 = .ok (.iload_n 3, 1) := by decide +kernel
theorem dX2_parse_56 : decode cX2_parse 56 = .ok (.invokevirtual 35, 3) := by decide +kernel
theorem dX2_parse_59 : decode cX2_parse 59 = .ok (.bipush 32, 2) := by decide +kernel
theorem dX2_parse_61 : decode cX2_parse 61 = .ok (.if_icmp .eq 18, 3) := by decide +kernel
theorem dX2_parse_64 : decode cX2_parse 64 = .ok (.aload_n 0, 1) := by decide +kernel
theorem dX2_parse_65 : decode cX2_parse 65 = .ok (.aload_n 1, 1) := by decide +kernel
theorem dX2_parse_66 : decode cX2_parse 66 = .ok (.iload_n 2, 1) := by decide +kernel
theorem dX2_parse_67 : decode cX2_parse 67 = .ok (.iload_n 3, 1) := by decide +kernel
theorem dX2_parse_68 : decode cX2_parse 68 = .ok (.invokestatic 39, 3) := by decide +kernel
theorem dX2_parse_71 : decode cX2_parse 71 = .ok (.invokevirtual 43, 3) := by decide +kernel
theorem dX2_parse_74 : decode cX2_parse 74 = .ok (.ifCond .ne 5, 3) := by decide +kernel
theorem dX2_parse_77 : decode cX2_parse 77 = .ok (.iload_n 2, 1) := by decide +kernel
theorem dX2_parse_78 : decode cX2_parse 78 = .ok (.ireturn, 1) := by decide +kernel
theorem dX2_parse_79 : decode cX2_parse 79 = .ok (.iload_n 3, 1) := by decide +kernel
theorem dX2_parse_80 : decode cX2_parse 80 = .ok (.iconst 1, 1) := by decide +kernel
theorem dX2_parse_81 : decode cX2_parse 81 = .ok (.iadd, 1) := by decide +kernel
theorem dX2_parse_82 : decode cX2_parse 82 = .ok (.istore_n 2, 1) := by decide +kernel
theorem dX2_parse_83 : decode cX2_parse 83 = .ok (.iinc 3 1, 3) := by decide +kernel
theorem dX2_parse_86 : decode cX2_parse 86 = .ok (.goto (-70), 3) := by decide +kernel
theorem dX2_parse_89 : decode cX2_parse 89 = .ok (.aload_n 0, 1) := by decide +kernel
theorem dX2_parse_90 : decode cX2_parse 90 = .ok (.getfield 21, 3) := by decide +kernel
theorem dX2_parse_93 : decode cX2_parse 93 = .ok (.ifCond .ne 8, 3) := by decide +kernel
theorem dX2_parse_96 : decode cX2_parse 96 = .ok (.bipush (-9), 2) := by decide +kernel
theorem dX2_parse_98 : decode cX2_parse 98 = .ok (.goto 7, 3) := by decide +kernel
theorem dX2_parse_101 : decode cX2_parse 101 = .ok (.aload_n 1, 1) := by decide +kernel
theorem dX2_parse_102 : decode cX2_parse 102 = .ok (.invokevirtual 25, 3) := by decide +kernel
theorem dX2_parse_105 : decode cX2_parse 105 = .ok (.ireturn, 1) := by decide +kernel
set_option maxRecDepth 20000 in
theorem ggX2_tokenOf_X5_isLetter : GoodIn wsX2_tokenOf wsX5_isLetter := goodIn_r _ [5, 6, 7, 8, 4, 9, 10, 11, 70, 71] (by decide +kernel) (by decide +kernel)
set_option maxRecDepth 20000 in
theorem gX2_tokenOf_X5_isLetter : GoodIn wsX2_tokenOf (wsV RX2 31 RX5 yX5_isLetter wsX5_isLetter) := goodIn_app (goodIn_of _ (by decide +kernel)) ggX2_tokenOf_X5_isLetter
set_option maxRecDepth 20000 in
theorem ggX2_tokenOf_X2_wordOf : GoodIn wsX2_tokenOf wsX2_wordOf := goodIn_r _ [15, 16, 17, 18, 4, 19, 20, 21, 22, 23, 24, 25, 26, 27, 28, 29, 30, 31, 6, 7, 8, 9, 10, 11, 32, 33, 34, 35, 36, 37, 38, 39, 40, 41, 42, 43, 44, 45, 46, 47, 48, 49, 50, 51, 52, 53, 54, 55, 56, 57, 58, 59, 60, 61, 62, 63, 64, 65, 66, 67, 68, 70, 71] (by decide +kernel) (by decide +kernel)
set_option maxRecDepth 20000 in
theorem gX2_tokenOf_X2_wordOf : GoodIn wsX2_tokenOf (va_wsS RX2 46 yX2_wordOf wsX2_wordOf) := goodIn_app (goodIn_of _ (by decide +kernel)) ggX2_tokenOf_X2_wordOf
set_option maxRecDepth 20000 in
theorem ggX2_tokenOf_X5_at : GoodIn wsX2_tokenOf wsX5_at := goodIn_r _ [9, 10, 11, 70, 71] (by decide +kernel) (by decide +kernel)
set_option maxRecDepth 20000 in
theorem gX2_tokenOf_X5_at : GoodIn wsX2_tokenOf (wsV RX2 35 RX5 yX5_at wsX5_at) := goodIn_app (goodIn_of _ (by decide +kernel)) ggX2_tokenOf_X5_at
theorem dX2_tokenOf_0 : decode cX2_tokenOf 0 = .ok (.aload_n 0, 1) := by decide +kernel
theorem dX2_tokenOf_1 : decode cX2_tokenOf 1 = .ok (.iload_n 1, 1) := by decide +kernel
theorem dX2_tokenOf_2 : decode cX2_tokenOf 2 = .ok (.invokevirtual 31, 3) := by decide +kernel
theorem dX2_tokenOf_5 : decode cX2_tokenOf 5 = .ok (.ifCond .eq 10, 3) := by decide +kernel
theorem dX2_tokenOf_8 : decode cX2_tokenOf 8 = .ok (.aload_n 0, 1) := by decide +kernel
theorem dX2_tokenOf_9 : decode cX2_tokenOf 9 = .ok (.iload_n 1, 1) := by decide +kernel
theorem dX2_tokenOf_10 : decode cX2_tokenOf 10 = .ok (.iload_n 2, 1) := by decide +kernel
theorem dX2_tokenOf_11 : decode cX2_tokenOf 11 = .ok (.invokestatic 46, 3) := by decide +kernel
theorem dX2_tokenOf_14 : decode cX2_tokenOf 14 = .ok (.ireturn, 1) := by decide +kernel
theorem dX2_tokenOf_15 : decode cX2_tokenOf 15 = .ok (.aload_n 0, 1) := by decide +kernel
theorem dX2_tokenOf_16 : decode cX2_tokenOf 16 = .ok (.iload_n 1, 1) := by decide +kernel
theorem dX2_tokenOf_17 : decode cX2_tokenOf 17 = .ok (.invokevirtual 35, 3) := by decide +kernel
theorem dX2_tokenOf_20 : decode cX2_tokenOf 20 = .ok (.istore_n 3, 1) := by decide +kernel
theorem dX2_tokenOf_21 : decode cX2_tokenOf 21 = .ok (.iload_n 3, 1) := by decide +kernel
theorem dX2_tokenOf_22 : decode cX2_tokenOf 22 = .ok (.bipush 48, 2) := by decide +kernel
theorem dX2_tokenOf_24 : decode cX2_tokenOf 24 = .ok (.if_icmp .lt 14, 3) := by decide +kernel
theorem dX2_tokenOf_27 : decode cX2_tokenOf 27 = .ok (.iload_n 3, 1) := by decide +kernel
theorem dX2_tokenOf_28 : decode cX2_tokenOf 28 = .ok (.bipush 57, 2) := by decide +kernel
theorem dX2_tokenOf_30 : decode cX2_tokenOf 30 = .ok (.if_icmp .gt 8, 3) := by decide +kernel
theorem dX2_tokenOf_33 : decode cX2_tokenOf 33 = .ok (.iload_n 3, 1) := by decide +kernel
theorem dX2_tokenOf_34 : decode cX2_tokenOf 34 = .ok (.bipush 48, 2) := by decide +kernel
theorem dX2_tokenOf_36 : decode cX2_tokenOf 36 = .ok (.isub, 1) := by decide +kernel
theorem dX2_tokenOf_37 : decode cX2_tokenOf 37 = .ok (.ireturn, 1) := by decide +kernel
theorem dX2_tokenOf_38 : decode cX2_tokenOf 38 = .ok (.iload_n 3, 1) := by decide +kernel
theorem dX2_tokenOf_39 : decode cX2_tokenOf 39 = .ok (.bipush 45, 2) := by decide +kernel
theorem dX2_tokenOf_41 : decode cX2_tokenOf 41 = .ok (.if_icmp .ne 6, 3) := by decide +kernel
theorem dX2_tokenOf_44 : decode cX2_tokenOf 44 = .ok (.bipush 10, 2) := by decide +kernel
theorem dX2_tokenOf_46 : decode cX2_tokenOf 46 = .ok (.ireturn, 1) := by decide +kernel
theorem dX2_tokenOf_47 : decode cX2_tokenOf 47 = .ok (.iload_n 3, 1) := by decide +kernel
theorem dX2_tokenOf_48 : decode cX2_tokenOf 48 = .ok (.bipush 59, 2) := by decide +kernel
theorem dX2_tokenOf_50 : decode cX2_tokenOf 50 = .ok (.if_icmp .ne 8, 3) := by decide +kernel
theorem dX2_tokenOf_53 : decode cX2_tokenOf 53 = .ok (.bipush 11, 2) := by decide +kernel
theorem dX2_tokenOf_55 : decode cX2_tokenOf 55 = .ok (.goto 5, 3) := by decide +kernel
theorem dX2_tokenOf_58 : decode cX2_tokenOf 58 = .ok (.bipush 17, 2) := by decide +kernel
theorem dX2_tokenOf_60 : decode cX2_tokenOf 60 = .ok (.ireturn, 1) := by decide +kernel
set_option maxRecDepth 20000 in
theorem ggX2_wordOf_X5_spells : GoodIn wsX2_wordOf wsX5_spells := goodIn_r _ [5, 6, 7, 8, 9, 10, 11, 12, 13, 14, 15, 16, 17, 18, 19, 20, 4, 21, 22, 23, 24, 25, 26, 27, 28, 29, 30, 31, 32, 33, 34, 35, 36, 37, 38, 39, 40, 41, 42, 43, 44, 45, 46, 47, 48, 49, 50, 51, 52, 53, 54, 55, 56, 57, 58, 59, 60, 61, 62] (by decide +kernel) (by decide +kernel)
set_option maxRecDepth 20000 in
theorem gX2_wordOf_X5_spells : GoodIn wsX2_wordOf (wsV RX2 51 RX5 yX5_spells wsX5_spells) := goodIn_app (goodIn_of _ (by decide +kernel)) ggX2_wordOf_X5_spells
theorem dX2_wordOf_0 : decode cX2_wordOf 0 = .ok (.aload_n 0, 1) := by decide +kernel
theorem dX2_wordOf_1 : decode cX2_wordOf 1 = .ok (.iload_n 1, 1) := by decide +kernel
theorem dX2_wordOf_2 : decode cX2_wordOf 2 = .ok (.iload_n 2, 1) := by decide +kernel
theorem dX2_wordOf_3 : decode cX2_wordOf 3 = .ok (.ldc 49, 2) := by decide +kernel
theorem dX2_wordOf_5 : decode cX2_wordOf 5 = .ok (.invokevirtual 51, 3) := by decide +kernel
theorem dX2_wordOf_8 : decode cX2_wordOf 8 = .ok (.ifCond .eq 6, 3) := by decide +kernel
theorem dX2_wordOf_11 : decode cX2_wordOf 11 = .ok (.bipush 12, 2) := by decide +kernel
theorem dX2_wordOf_13 : decode cX2_wordOf 13 = .ok (.ireturn, 1) := by decide +kernel
theorem dX2_wordOf_14 : decode cX2_wordOf 14 = .ok (.aload_n 0, 1) := by decide +kernel
theorem dX2_wordOf_15 : decode cX2_wordOf 15 = .ok (.iload_n 1, 1) := by decide +kernel
theorem dX2_wordOf_16 : decode cX2_wordOf 16 = .ok (.iload_n 2, 1) := by decide +kernel
theorem dX2_wordOf_17 : decode cX2_wordOf 17 = .ok (.ldc 55, 2) := by decide +kernel
theorem dX2_wordOf_19 : decode cX2_wordOf 19 = .ok (.invokevirtual 51, 3) := by decide +kernel
theorem dX2_wordOf_22 : decode cX2_wordOf 22 = .ok (.ifCond .eq 6, 3) := by decide +kernel
theorem dX2_wordOf_25 : decode cX2_wordOf 25 = .ok (.bipush 13, 2) := by decide +kernel
theorem dX2_wordOf_27 : decode cX2_wordOf 27 = .ok (.ireturn, 1) := by decide +kernel
theorem dX2_wordOf_28 : decode cX2_wordOf 28 = .ok (.aload_n 0, 1) := by decide +kernel
theorem dX2_wordOf_29 : decode cX2_wordOf 29 = .ok (.iload_n 1, 1) := by decide +kernel
theorem dX2_wordOf_30 : decode cX2_wordOf 30 = .ok (.iload_n 2, 1) := by decide +kernel
theorem dX2_wordOf_31 : decode cX2_wordOf 31 = .ok (.ldc 57, 2) := by decide +kernel
theorem dX2_wordOf_33 : decode cX2_wordOf 33 = .ok (.invokevirtual 51, 3) := by decide +kernel
theorem dX2_wordOf_36 : decode cX2_wordOf 36 = .ok (.ifCond .eq 6, 3) := by decide +kernel
theorem dX2_wordOf_39 : decode cX2_wordOf 39 = .ok (.bipush 14, 2) := by decide +kernel
theorem dX2_wordOf_41 : decode cX2_wordOf 41 = .ok (.ireturn, 1) := by decide +kernel
theorem dX2_wordOf_42 : decode cX2_wordOf 42 = .ok (.aload_n 0, 1) := by decide +kernel
theorem dX2_wordOf_43 : decode cX2_wordOf 43 = .ok (.iload_n 1, 1) := by decide +kernel
theorem dX2_wordOf_44 : decode cX2_wordOf 44 = .ok (.iload_n 2, 1) := by decide +kernel
theorem dX2_wordOf_45 : decode cX2_wordOf 45 = .ok (.ldc 59, 2) := by decide +kernel
theorem dX2_wordOf_47 : decode cX2_wordOf 47 = .ok (.invokevirtual 51, 3) := by decide +kernel
theorem dX2_wordOf_50 : decode cX2_wordOf 50 = .ok (.ifCond .eq 6, 3) := by decide +kernel
theorem dX2_wordOf_53 : decode cX2_wordOf 53 = .ok (.bipush 15, 2) := by decide +kernel
theorem dX2_wordOf_55 : decode cX2_wordOf 55 = .ok (.ireturn, 1) := by decide +kernel
theorem dX2_wordOf_56 : decode cX2_wordOf 56 = .ok (.aload_n 0, 1) := by decide +kernel
theorem dX2_wordOf_57 : decode cX2_wordOf 57 = .ok (.iload_n 1, 1) := by decide +kernel
theorem dX2_wordOf_58 : decode cX2_wordOf 58 = .ok (.iload_n 2, 1) := by decide +kernel
theorem dX2_wordOf_59 : decode cX2_wordOf 59 = .ok (.ldc 61, 2) := by decide +kernel
theorem dX2_wordOf_61 : decode cX2_wordOf 61 = .ok (.invokevirtual 51, 3) := by decide +kernel
theorem dX2_wordOf_64 : decode cX2_wordOf 64 = .ok (.ifCond .eq 8, 3) := by decide +kernel
theorem dX2_wordOf_67 : decode cX2_wordOf 67 = .ok (.bipush 16, 2) := by decide +kernel
theorem dX2_wordOf_69 : decode cX2_wordOf 69 = .ok (.goto 5, 3) := by decide +kernel
theorem dX2_wordOf_72 : decode cX2_wordOf 72 = .ok (.bipush 17, 2) := by decide +kernel
theorem dX2_wordOf_74 : decode cX2_wordOf 74 = .ok (.ireturn, 1) := by decide +kernel
set_option maxRecDepth 20000 in
theorem ggX2_accept_X2_acceptConstraint : GoodIn wsX2_accept wsX2_acceptConstraint := goodIn_r _ [6, 7, 8, 9, 10, 1, 11, 12, 13, 14, 15, 16, 17, 18, 19, 5, 20, 21, 68, 69, 70, 71, 72, 73, 74, 75, 76, 77] (by decide +kernel) (by decide +kernel)
set_option maxRecDepth 20000 in
theorem gX2_accept_X2_acceptConstraint : GoodIn wsX2_accept (wsV RX2 63 RX2 yX2_acceptConstraint wsX2_acceptConstraint) := goodIn_app (goodIn_of _ (by decide +kernel)) ggX2_accept_X2_acceptConstraint
set_option maxRecDepth 20000 in
theorem ggX2_accept_X2_acceptKind : GoodIn wsX2_accept wsX2_acceptKind := goodIn_r _ [20, 21, 1, 68, 69, 70, 71, 72, 73, 74] (by decide +kernel) (by decide +kernel)
set_option maxRecDepth 20000 in
theorem gX2_accept_X2_acceptKind : GoodIn wsX2_accept (wsV RX2 66 RX2 yX2_acceptKind wsX2_acceptKind) := goodIn_app (goodIn_of _ (by decide +kernel)) ggX2_accept_X2_acceptKind
set_option maxRecDepth 20000 in
theorem ggX2_accept_X2_acceptBound : GoodIn wsX2_accept wsX2_acceptBound := goodIn_r _ [25, 26, 1, 68, 69, 70, 71, 72, 73, 74] (by decide +kernel) (by decide +kernel)
set_option maxRecDepth 20000 in
theorem gX2_accept_X2_acceptBound : GoodIn wsX2_accept (wsV RX2 69 RX2 yX2_acceptBound wsX2_acceptBound) := goodIn_app (goodIn_of _ (by decide +kernel)) ggX2_accept_X2_acceptBound
set_option maxRecDepth 20000 in
theorem ggX2_accept_X2_acceptLiteral : GoodIn wsX2_accept wsX2_acceptLiteral := goodIn_r _ [30, 1, 31, 32, 33, 5, 34, 8, 9, 68, 69, 70, 71, 72, 73, 74] (by decide +kernel) (by decide +kernel)
set_option maxRecDepth 20000 in
theorem gX2_accept_X2_acceptLiteral : GoodIn wsX2_accept (wsV RX2 72 RX2 yX2_acceptLiteral wsX2_acceptLiteral) := goodIn_app (goodIn_of _ (by decide +kernel)) ggX2_accept_X2_acceptLiteral
set_option maxRecDepth 20000 in
theorem ggX2_accept_X2_acceptVariable : GoodIn wsX2_accept wsX2_acceptVariable := goodIn_r _ [34, 8, 9, 1, 68, 69, 70, 71, 72, 73, 74] (by decide +kernel) (by decide +kernel)
set_option maxRecDepth 20000 in
theorem gX2_accept_X2_acceptVariable : GoodIn wsX2_accept (wsV RX2 75 RX2 yX2_acceptVariable wsX2_acceptVariable) := goodIn_app (goodIn_of _ (by decide +kernel)) ggX2_accept_X2_acceptVariable
set_option maxRecDepth 20000 in
theorem ggX2_accept_X2_acceptBehindLiteral : GoodIn wsX2_accept wsX2_acceptBehindLiteral := goodIn_r _ [38, 10, 1, 39, 40, 41, 5, 42, 7, 43, 44, 45, 46, 8, 9, 47, 48, 49, 50, 51, 52, 53, 54, 55, 56, 57, 21, 26, 58, 59, 60, 14, 61, 16, 62, 63, 27, 28, 29, 30, 31, 32, 33, 34, 68, 69, 70, 71, 72, 73, 74, 75, 76, 77] (by decide +kernel) (by decide +kernel)
set_option maxRecDepth 20000 in
theorem gX2_accept_X2_acceptBehindLiteral : GoodIn wsX2_accept (wsV RX2 79 RX2 yX2_acceptBehindLiteral wsX2_acceptBehindLiteral) := goodIn_app (goodIn_of _ (by decide +kernel)) ggX2_accept_X2_acceptBehindLiteral
set_option maxRecDepth 20000 in
theorem ggX2_accept_X2_acceptWeight : GoodIn wsX2_accept wsX2_acceptWeight := goodIn_r _ [67, 10, 1, 68, 69, 70, 71, 72, 73, 74] (by decide +kernel) (by decide +kernel)
set_option maxRecDepth 20000 in
theorem gX2_accept_X2_acceptWeight : GoodIn wsX2_accept (wsV RX2 82 RX2 yX2_acceptWeight wsX2_acceptWeight) := goodIn_app (goodIn_of _ (by decide +kernel)) ggX2_accept_X2_acceptWeight
set_option maxRecDepth 20000 in
theorem ggX2_accept_X2_acceptEnd : GoodIn wsX2_accept wsX2_acceptEnd := goodIn_r _ [42, 7, 10, 1, 43, 44, 45, 5, 46, 8, 9, 47, 48, 49, 50, 51, 52, 53, 54, 55, 56, 57, 21, 26, 58, 59, 60, 14, 61, 16, 62, 63, 68, 69, 70, 71, 72, 73, 74, 75, 76, 77] (by decide +kernel) (by decide +kernel)
set_option maxRecDepth 20000 in
theorem gX2_accept_X2_acceptEnd : GoodIn wsX2_accept (wsV RX2 85 RX2 yX2_acceptEnd wsX2_acceptEnd) := goodIn_app (goodIn_of _ (by decide +kernel)) ggX2_accept_X2_acceptEnd
theorem dX2_accept_0 : decode cX2_accept 0 = .ok (.aload_n 0, 1) := by decide +kernel
theorem dX2_accept_1 : decode cX2_accept 1 = .ok (.getfield 21, 3) := by decide +kernel
theorem dX2_accept_4 : decode cX2_accept 4 = .ok (.tableswitch 87 0 6 #[44, 50, 56, 62, 68, 75, 81], 44) := by decide +kernel
theorem dX2_accept_48 : decode cX2_accept 48 = .ok (.aload_n 0, 1) := by decide +kernel
theorem dX2_accept_49 : decode cX2_accept 49 = .ok (.iload_n 1, 1) := by decide +kernel
theorem dX2_accept_50 : decode cX2_accept 50 = .ok (.invokevirtual 63, 3) := by decide +kernel
theorem dX2_accept_53 : decode cX2_accept 53 = .ok (.ireturn, 1) := by decide +kernel
theorem dX2_accept_54 : decode cX2_accept 54 = .ok (.aload_n 0, 1) := by decide +kernel
theorem dX2_accept_55 : decode cX2_accept 55 = .ok (.iload_n 1, 1) := by decide +kernel
theorem dX2_accept_56 : decode cX2_accept 56 = .ok (.invokevirtual 66, 3) := by decide +kernel
theorem dX2_accept_59 : decode cX2_accept 59 = .ok (.ireturn, 1) := by decide +kernel
theorem dX2_accept_60 : decode cX2_accept 60 = .ok (.aload_n 0, 1) := by decide +kernel
theorem dX2_accept_61 : decode cX2_accept 61 = .ok (.iload_n 1, 1) := by decide +kernel
theorem dX2_accept_62 : decode cX2_accept 62 = .ok (.invokevirtual 69, 3) := by decide +kernel
theorem dX2_accept_65 : decode cX2_accept 65 = .ok (.ireturn, 1) := by decide +kernel
theorem dX2_accept_66 : decode cX2_accept 66 = .ok (.aload_n 0, 1) := by decide +kernel
theorem dX2_accept_67 : decode cX2_accept 67 = .ok (.iload_n 1, 1) := by decide +kernel
theorem dX2_accept_68 : decode cX2_accept 68 = .ok (.invokevirtual 72, 3) := by decide +kernel
theorem dX2_accept_71 : decode cX2_accept 71 = .ok (.ireturn, 1) := by decide +kernel
theorem dX2_accept_72 : decode cX2_accept 72 = .ok (.aload_n 0, 1) := by decide +kernel
theorem dX2_accept_73 : decode cX2_accept 73 = .ok (.iload_n 1, 1) := by decide +kernel
theorem dX2_accept_74 : decode cX2_accept 74 = .ok (.iconst 1, 1) := by decide +kernel
theorem dX2_accept_75 : decode cX2_accept 75 = .ok (.invokevirtual 75, 3) := by decide +kernel
theorem dX2_accept_78 : decode cX2_accept 78 = .ok (.ireturn, 1) := by decide +kernel
theorem dX2_accept_79 : decode cX2_accept 79 = .ok (.aload_n 0, 1) := by decide +kernel
theorem dX2_accept_80 : decode cX2_accept 80 = .ok (.iload_n 1, 1) := by decide +kernel
theorem dX2_accept_81 : decode cX2_accept 81 = .ok (.invokevirtual 79, 3) := by decide +kernel
theorem dX2_accept_84 : decode cX2_accept 84 = .ok (.ireturn, 1) := by decide +kernel
theorem dX2_accept_85 : decode cX2_accept 85 = .ok (.aload_n 0, 1) := by decide +kernel
theorem dX2_accept_86 : decode cX2_accept 86 = .ok (.iload_n 1, 1) := by decide +kernel
theorem dX2_accept_87 : decode cX2_accept 87 = .ok (.invokevirtual 82, 3) := by decide +kernel
theorem dX2_accept_90 : decode cX2_accept 90 = .ok (.ireturn, 1) := by decide +kernel
theorem dX2_accept_91 : decode cX2_accept 91 = .ok (.aload_n 0, 1) := by decide +kernel
theorem dX2_accept_92 : decode cX2_accept 92 = .ok (.iload_n 1, 1) := by decide +kernel
theorem dX2_accept_93 : decode cX2_accept 93 = .ok (.invokevirtual 85, 3) := by decide +kernel
theorem dX2_accept_96 : decode cX2_accept 96 = .ok (.ireturn, 1) := by decide +kernel
set_option maxRecDepth 20000 in
theorem ggX2_acceptConstraint_X0_isFull : GoodIn wsX2_acceptConstraint wsX0_isFull := goodIn_r _ [10, 11, 25, 26, 27] (by decide +kernel) (by decide +kernel)
set_option maxRecDepth 20000 in
theorem gX2_acceptConstraint_X0_isFull : GoodIn wsX2_acceptConstraint (wsV RX2 88 RX0 yX0_isFull wsX0_isFull) := goodIn_app (goodIn_of _ (by decide +kernel)) ggX2_acceptConstraint_X0_isFull
set_option maxRecDepth 20000 in
theorem ggX2_acceptConstraint_X2_acceptKind : GoodIn wsX2_acceptConstraint wsX2_acceptKind := goodIn_r _ [16, 17, 5, 18, 19, 20, 21, 22, 23, 24] (by decide +kernel) (by decide +kernel)
set_option maxRecDepth 20000 in
theorem gX2_acceptConstraint_X2_acceptKind : GoodIn wsX2_acceptConstraint (wsV RX2 66 RX2 yX2_acceptKind wsX2_acceptKind) := goodIn_app (goodIn_of _ (by decide +kernel)) ggX2_acceptConstraint_X2_acceptKind
theorem dX2_acceptConstraint_0 : decode cX2_acceptConstraint 0 = .ok (.aload_n 0, 1) := by decide +kernel
theorem dX2_acceptConstraint_1 : decode cX2_acceptConstraint 1 = .ok (.getfield 12, 3) := by decide +kernel
theorem dX2_acceptConstraint_4 : decode cX2_acceptConstraint 4 = .ok (.invokevirtual 88, 3) := by decide +kernel
theorem dX2_acceptConstraint_7 : decode cX2_acceptConstraint 7 = .ok (.ifCond .eq 5, 3) := by decide +kernel
theorem dX2_acceptConstraint_10 : decode cX2_acceptConstraint 10 = .ok (.iconst 0, 1) := by decide +kernel
theorem dX2_acceptConstraint_11 : decode cX2_acceptConstraint 11 = .ok (.ireturn, 1) := by decide +kernel
theorem dX2_acceptConstraint_12 : decode cX2_acceptConstraint 12 = .ok (.aload_n 0, 1) := by decide +kernel
theorem dX2_acceptConstraint_13 : decode cX2_acceptConstraint 13 = .ok (.iconst 0, 1) := by decide +kernel
theorem dX2_acceptConstraint_14 : decode cX2_acceptConstraint 14 = .ok (.putfield 92, 3) := by decide +kernel
theorem dX2_acceptConstraint_17 : decode cX2_acceptConstraint 17 = .ok (.aload_n 0, 1) := by decide +kernel
theorem dX2_acceptConstraint_18 : decode cX2_acceptConstraint 18 = .ok (.iconst 0, 1) := by decide +kernel
theorem dX2_acceptConstraint_19 : decode cX2_acceptConstraint 19 = .ok (.putfield 95, 3) := by decide +kernel
theorem dX2_acceptConstraint_22 : decode cX2_acceptConstraint 22 = .ok (.aload_n 0, 1) := by decide +kernel
theorem dX2_acceptConstraint_23 : decode cX2_acceptConstraint 23 = .ok (.iconst 1, 1) := by decide +kernel
theorem dX2_acceptConstraint_24 : decode cX2_acceptConstraint 24 = .ok (.putfield 98, 3) := by decide +kernel
theorem dX2_acceptConstraint_27 : decode cX2_acceptConstraint 27 = .ok (.iload_n 1, 1) := by decide +kernel
theorem dX2_acceptConstraint_28 : decode cX2_acceptConstraint 28 = .ok (.bipush 15, 2) := by decide +kernel
theorem dX2_acceptConstraint_30 : decode cX2_acceptConstraint 30 = .ok (.if_icmp .ne 15, 3) := by decide +kernel
theorem dX2_acceptConstraint_33 : decode cX2_acceptConstraint 33 = .ok (.aload_n 0, 1) := by decide +kernel
theorem dX2_acceptConstraint_34 : decode cX2_acceptConstraint 34 = .ok (.iconst 0, 1) := by decide +kernel
theorem dX2_acceptConstraint_35 : decode cX2_acceptConstraint 35 = .ok (.putfield 98, 3) := by decide +kernel
theorem dX2_acceptConstraint_38 : decode cX2_acceptConstraint 38 = .ok (.aload_n 0, 1) := by decide +kernel
theorem dX2_acceptConstraint_39 : decode cX2_acceptConstraint 39 = .ok (.iconst 1, 1) := by decide +kernel
theorem dX2_acceptConstraint_40 : decode cX2_acceptConstraint 40 = .ok (.putfield 21, 3) := by decide +kernel
theorem dX2_acceptConstraint_43 : decode cX2_acceptConstraint 43 = .ok (.iconst 1, 1) := by decide +kernel
theorem dX2_acceptConstraint_44 : decode cX2_acceptConstraint 44 = .ok (.ireturn, 1) := by decide +kernel
theorem dX2_acceptConstraint_45 : decode cX2_acceptConstraint 45 = .ok (.aload_n 0, 1) := by decide +kernel
theorem dX2_acceptConstraint_46 : decode cX2_acceptConstraint 46 = .ok (.iload_n 1, 1) := by decide +kernel
theorem dX2_acceptConstraint_47 : decode cX2_acceptConstraint 47 = .ok (.invokevirtual 66, 3) := by decide +kernel
theorem dX2_acceptConstraint_50 : decode cX2_acceptConstraint 50 = .ok (.ireturn, 1) := by decide +kernel
theorem dX2_acceptKind_0 : decode cX2_acceptKind 0 = .ok (.iload_n 1, 1) := by decide +kernel
theorem dX2_acceptKind_1 : decode cX2_acceptKind 1 = .ok (.bipush 12, 2) := by decide +kernel
theorem dX2_acceptKind_3 : decode cX2_acceptKind 3 = .ok (.if_icmp .eq 17, 3) := by decide +kernel
theorem dX2_acceptKind_6 : decode cX2_acceptKind 6 = .ok (.iload_n 1, 1) := by decide +kernel
theorem dX2_acceptKind_7 : decode cX2_acceptKind 7 = .ok (.bipush 13, 2) := by decide +kernel
theorem dX2_acceptKind_9 : decode cX2_acceptKind 9 = .ok (.if_icmp .eq 11, 3) := by decide +kernel
theorem dX2_acceptKind_12 : decode cX2_acceptKind 12 = .ok (.iload_n 1, 1) := by decide +kernel
theorem dX2_acceptKind_13 : decode cX2_acceptKind 13 = .ok (.bipush 14, 2) := by decide +kernel
theorem dX2_acceptKind_15 : decode cX2_acceptKind 15 = .ok (.if_icmp .eq 5, 3) := by decide +kernel
theorem dX2_acceptKind_18 : decode cX2_acceptKind 18 = .ok (.iconst 0, 1) := by decide +kernel
theorem dX2_acceptKind_19 : decode cX2_acceptKind 19 = .ok (.ireturn, 1) := by decide +kernel
theorem dX2_acceptKind_20 : decode cX2_acceptKind 20 = .ok (.aload_n 0, 1) := by decide +kernel
theorem dX2_acceptKind_21 : decode cX2_acceptKind 21 = .ok (.iload_n 1, 1) := by decide +kernel
theorem dX2_acceptKind_22 : decode cX2_acceptKind 22 = .ok (.putfield 101, 3) := by decide +kernel
theorem dX2_acceptKind_25 : decode cX2_acceptKind 25 = .ok (.aload_n 0, 1) := by decide +kernel
theorem dX2_acceptKind_26 : decode cX2_acceptKind 26 = .ok (.iload_n 1, 1) := by decide +kernel
theorem dX2_acceptKind_27 : decode cX2_acceptKind 27 = .ok (.bipush 14, 2) := by decide +kernel
theorem dX2_acceptKind_29 : decode cX2_acceptKind 29 = .ok (.if_icmp .ne 7, 3) := by decide +kernel
theorem dX2_acceptKind_32 : decode cX2_acceptKind 32 = .ok (.iconst 2, 1) := by decide +kernel
theorem dX2_acceptKind_33 : decode cX2_acceptKind 33 = .ok (.goto 4, 3) := by decide +kernel
theorem dX2_acceptKind_36 : decode cX2_acceptKind 36 = .ok (.iconst 3, 1) := by decide +kernel
theorem dX2_acceptKind_37 : decode cX2_acceptKind 37 = .ok (.putfield 21, 3) := by decide +kernel
theorem dX2_acceptKind_40 : decode cX2_acceptKind 40 = .ok (.iconst 1, 1) := by decide +kernel
theorem dX2_acceptKind_41 : decode cX2_acceptKind 41 = .ok (.ireturn, 1) := by decide +kernel
theorem dX2_acceptBound_0 : decode cX2_acceptBound 0 = .ok (.iload_n 1, 1) := by decide +kernel
theorem dX2_acceptBound_1 : decode cX2_acceptBound 1 = .ok (.bipush 6, 2) := by decide +kernel
theorem dX2_acceptBound_3 : decode cX2_acceptBound 3 = .ok (.if_icmp .le 5, 3) := by decide +kernel
theorem dX2_acceptBound_6 : decode cX2_acceptBound 6 = .ok (.iconst 0, 1) := by decide +kernel
theorem dX2_acceptBound_7 : decode cX2_acceptBound 7 = .ok (.ireturn, 1) := by decide +kernel
theorem dX2_acceptBound_8 : decode cX2_acceptBound 8 = .ok (.aload_n 0, 1) := by decide +kernel
theorem dX2_acceptBound_9 : decode cX2_acceptBound 9 = .ok (.iload_n 1, 1) := by decide +kernel
theorem dX2_acceptBound_10 : decode cX2_acceptBound 10 = .ok (.putfield 104, 3) := by decide +kernel
theorem dX2_acceptBound_13 : decode cX2_acceptBound 13 = .ok (.aload_n 0, 1) := by decide +kernel
theorem dX2_acceptBound_14 : decode cX2_acceptBound 14 = .ok (.iconst 3, 1) := by decide +kernel
theorem dX2_acceptBound_15 : decode cX2_acceptBound 15 = .ok (.putfield 21, 3) := by decide +kernel
theorem dX2_acceptBound_18 : decode cX2_acceptBound 18 = .ok (.iconst 1, 1) := by decide +kernel
theorem dX2_acceptBound_19 : decode cX2_acceptBound 19 = .ok (.ireturn, 1) := by decide +kernel
set_option maxRecDepth 20000 in
theorem ggX2_acceptLiteral_X2_acceptVariable : GoodIn wsX2_acceptLiteral wsX2_acceptVariable := goodIn_r _ [6, 7, 8, 1, 9, 10, 11, 12, 13, 14, 15] (by decide +kernel) (by decide +kernel)
set_option maxRecDepth 20000 in
theorem gX2_acceptLiteral_X2_acceptVariable : GoodIn wsX2_acceptLiteral (wsV RX2 75 RX2 yX2_acceptVariable wsX2_acceptVariable) := goodIn_app (goodIn_of _ (by decide +kernel)) ggX2_acceptLiteral_X2_acceptVariable
theorem dX2_acceptLiteral_0 : decode cX2_acceptLiteral 0 = .ok (.iload_n 1, 1) := by decide +kernel
theorem dX2_acceptLiteral_1 : decode cX2_acceptLiteral 1 = .ok (.bipush 10, 2) := by decide +kernel
theorem dX2_acceptLiteral_3 : decode cX2_acceptLiteral 3 = .ok (.if_icmp .ne 10, 3) := by decide +kernel
theorem dX2_acceptLiteral_6 : decode cX2_acceptLiteral 6 = .ok (.aload_n 0, 1) := by decide +kernel
theorem dX2_acceptLiteral_7 : decode cX2_acceptLiteral 7 = .ok (.iconst 4, 1) := by decide +kernel
theorem dX2_acceptLiteral_8 : decode cX2_acceptLiteral 8 = .ok (.putfield 21, 3) := by decide +kernel
theorem dX2_acceptLiteral_11 : decode cX2_acceptLiteral 11 = .ok (.iconst 1, 1) := by decide +kernel
theorem dX2_acceptLiteral_12 : decode cX2_acceptLiteral 12 = .ok (.ireturn, 1) := by decide +kernel
theorem dX2_acceptLiteral_13 : decode cX2_acceptLiteral 13 = .ok (.aload_n 0, 1) := by decide +kernel
theorem dX2_acceptLiteral_14 : decode cX2_acceptLiteral 14 = .ok (.iload_n 1, 1) := by decide +kernel
theorem dX2_acceptLiteral_15 : decode cX2_acceptLiteral 15 = .ok (.iconst 0, 1) := by decide +kernel
theorem dX2_acceptLiteral_16 : decode cX2_acceptLiteral 16 = .ok (.invokevirtual 75, 3) := by decide +kernel
theorem dX2_acceptLiteral_19 : decode cX2_acceptLiteral 19 = .ok (.ireturn, 1) := by decide +kernel
theorem dX2_acceptVariable_0 : decode cX2_acceptVariable 0 = .ok (.iload_n 1, 1) := by decide +kernel
theorem dX2_acceptVariable_1 : decode cX2_acceptVariable 1 = .ok (.iconst 1, 1) := by decide +kernel
theorem dX2_acceptVariable_2 : decode cX2_acceptVariable 2 = .ok (.if_icmp .lt 9, 3) := by decide +kernel
theorem dX2_acceptVariable_5 : decode cX2_acceptVariable 5 = .ok (.iload_n 1, 1) := by decide +kernel
theorem dX2_acceptVariable_6 : decode cX2_acceptVariable 6 = .ok (.bipush 6, 2) := by decide +kernel
theorem dX2_acceptVariable_8 : decode cX2_acceptVariable 8 = .ok (.if_icmp .le 5, 3) := by decide +kernel
theorem dX2_acceptVariable_11 : decode cX2_acceptVariable 11 = .ok (.iconst 0, 1) := by decide +kernel
theorem dX2_acceptVariable_12 : decode cX2_acceptVariable 12 = .ok (.ireturn, 1) := by decide +kernel
theorem dX2_acceptVariable_13 : decode cX2_acceptVariable 13 = .ok (.iconst 1, 1) := by decide +kernel
theorem dX2_acceptVariable_14 : decode cX2_acceptVariable 14 = .ok (.iload_n 1, 1) := by decide +kernel
theorem dX2_acceptVariable_15 : decode cX2_acceptVariable 15 = .ok (.iconst 1, 1) := by decide +kernel
theorem dX2_acceptVariable_16 : decode cX2_acceptVariable 16 = .ok (.isub, 1) := by decide +kernel
theorem dX2_acceptVariable_17 : decode cX2_acceptVariable 17 = .ok (.ishl, 1) := by decide +kernel
theorem dX2_acceptVariable_18 : decode cX2_acceptVariable 18 = .ok (.istore_n 3, 1) := by decide +kernel
theorem dX2_acceptVariable_19 : decode cX2_acceptVariable 19 = .ok (.aload_n 0, 1) := by decide +kernel
theorem dX2_acceptVariable_20 : decode cX2_acceptVariable 20 = .ok (.getfield 92, 3) := by decide +kernel
theorem dX2_acceptVariable_23 : decode cX2_acceptVariable 23 = .ok (.aload_n 0, 1) := by decide +kernel
theorem dX2_acceptVariable_24 : decode cX2_acceptVariable 24 = .ok (.getfield 95, 3) := by decide +kernel
theorem dX2_acceptVariable_27 : decode cX2_acceptVariable 27 = .ok (.ior, 1) := by decide +kernel
theorem dX2_acceptVariable_28 : decode cX2_acceptVariable 28 = .ok (.iload_n 3, 1) := by decide +kernel
theorem dX2_acceptVariable_29 : decode cX2_acceptVariable 29 = .ok (.iand, 1) := by decide +kernel
theorem dX2_acceptVariable_30 : decode cX2_acceptVariable 30 = .ok (.ifCond .eq 5, 3) := by decide +kernel
theorem dX2_acceptVariable_33 : decode cX2_acceptVariable 33 = .ok (.iconst 0, 1) := by decide +kernel
theorem dX2_acceptVariable_34 : decode cX2_acceptVariable 34 = .ok (.ireturn, 1) := by decide +kernel
theorem dX2_acceptVariable_35 : decode cX2_acceptVariable 35 = .ok (.iload_n 2, 1) := by decide +kernel
theorem dX2_acceptVariable_36 : decode cX2_acceptVariable 36 = .ok (.ifCond .eq 16, 3) := by decide +kernel
theorem dX2_acceptVariable_39 : decode cX2_acceptVariable 39 = .ok (.aload_n 0, 1) := by decide +kernel
theorem dX2_acceptVariable_40 : decode cX2_acceptVariable 40 = .ok (.dup, 1) := by decide +kernel
theorem dX2_acceptVariable_41 : decode cX2_acceptVariable 41 = .ok (.getfield 95, 3) := by decide +kernel
theorem dX2_acceptVariable_44 : decode cX2_acceptVariable 44 = .ok (.iload_n 3, 1) := by decide +kernel
theorem dX2_acceptVariable_45 : decode cX2_acceptVariable 45 = .ok (.ior, 1) := by decide +kernel
theorem dX2_acceptVariable_46 : decode cX2_acceptVariable 46 = .ok (.putfield 95, 3) := by decide +kernel
theorem dX2_acceptVariable_49 : decode cX2_acceptVariable 49 = .ok (.goto 13, 3) := by decide +kernel
theorem dX2_acceptVariable_52 : decode cX2_acceptVariable 52 = .ok (.aload_n 0, 1) := by decide +kernel
theorem dX2_acceptVariable_53 : decode cX2_acceptVariable 53 = .ok (.dup, 1) := by decide +kernel
theorem dX2_acceptVariable_54 : decode cX2_acceptVariable 54 = .ok (.getfield 92, 3) := by decide +kernel
theorem dX2_acceptVariable_57 : decode cX2_acceptVariable 57 = .ok (.iload_n 3, 1) := by decide +kernel
theorem dX2_acceptVariable_58 : decode cX2_acceptVariable 58 = .ok (.ior, 1) := by decide +kernel
theorem dX2_acceptVariable_59 : decode cX2_acceptVariable 59 = .ok (.putfield 92, 3) := by decide +kernel
theorem dX2_acceptVariable_62 : decode cX2_acceptVariable 62 = .ok (.aload_n 0, 1) := by decide +kernel
theorem dX2_acceptVariable_63 : decode cX2_acceptVariable 63 = .ok (.iconst 5, 1) := by decide +kernel
theorem dX2_acceptVariable_64 : decode cX2_acceptVariable 64 = .ok (.putfield 21, 3) := by decide +kernel
theorem dX2_acceptVariable_67 : decode cX2_acceptVariable 67 = .ok (.iconst 1, 1) := by decide +kernel
theorem dX2_acceptVariable_68 : decode cX2_acceptVariable 68 = .ok (.ireturn, 1) := by decide +kernel
set_option maxRecDepth 20000 in
theorem ggX2_acceptBehindLiteral_X2_acceptEnd : GoodIn wsX2_acceptBehindLiteral wsX2_acceptEnd := goodIn_r _ [7, 8, 1, 2, 9, 10, 11, 6, 12, 13, 14, 15, 16, 17, 18, 19, 20, 21, 22, 23, 24, 25, 26, 27, 28, 29, 30, 31, 32, 33, 34, 35, 44, 45, 46, 47, 48, 49, 50, 51, 52, 53] (by decide +kernel) (by decide +kernel)
set_option maxRecDepth 20000 in
theorem gX2_acceptBehindLiteral_X2_acceptEnd : GoodIn wsX2_acceptBehindLiteral (wsV RX2 85 RX2 yX2_acceptEnd wsX2_acceptEnd) := goodIn_app (goodIn_of _ (by decide +kernel)) ggX2_acceptBehindLiteral_X2_acceptEnd
set_option maxRecDepth 20000 in
theorem ggX2_acceptBehindLiteral_X2_acceptLiteral : GoodIn wsX2_acceptBehindLiteral wsX2_acceptLiteral := goodIn_r _ [39, 2, 40, 41, 42, 6, 43, 13, 14, 44, 45, 46, 47, 48, 49, 50] (by decide +kernel) (by decide +kernel)
set_option maxRecDepth 20000 in
theorem gX2_acceptBehindLiteral_X2_acceptLiteral : GoodIn wsX2_acceptBehindLiteral (wsV RX2 72 RX2 yX2_acceptLiteral wsX2_acceptLiteral) := goodIn_app (goodIn_of _ (by decide +kernel)) ggX2_acceptBehindLiteral_X2_acceptLiteral
theorem dX2_acceptBehindLiteral_0 : decode cX2_acceptBehindLiteral 0 = .ok (.iload_n 1, 1) := by decide +kernel
theorem dX2_acceptBehindLiteral_1 : decode cX2_acceptBehindLiteral 1 = .ok (.bipush 11, 2) := by decide +kernel
theorem dX2_acceptBehindLiteral_3 : decode cX2_acceptBehindLiteral 3 = .ok (.if_icmp .ne 9, 3) := by decide +kernel
theorem dX2_acceptBehindLiteral_6 : decode cX2_acceptBehindLiteral 6 = .ok (.aload_n 0, 1) := by decide +kernel
theorem dX2_acceptBehindLiteral_7 : decode cX2_acceptBehindLiteral 7 = .ok (.iload_n 1, 1) := by decide +kernel
theorem dX2_acceptBehindLiteral_8 : decode cX2_acceptBehindLiteral 8 = .ok (.invokevirtual 85, 3) := by decide +kernel
theorem dX2_acceptBehindLiteral_11 : decode cX2_acceptBehindLiteral 11 = .ok (.ireturn, 1) := by decide +kernel
theorem dX2_acceptBehindLiteral_12 : decode cX2_acceptBehindLiteral 12 = .ok (.iload_n 1, 1) := by decide +kernel
theorem dX2_acceptBehindLiteral_13 : decode cX2_acceptBehindLiteral 13 = .ok (.bipush 16, 2) := by decide +kernel
theorem dX2_acceptBehindLiteral_15 : decode cX2_acceptBehindLiteral 15 = .ok (.if_icmp .ne 18, 3) := by decide +kernel
theorem dX2_acceptBehindLiteral_18 : decode cX2_acceptBehindLiteral 18 = .ok (.aload_n 0, 1) := by decide +kernel
theorem dX2_acceptBehindLiteral_19 : decode cX2_acceptBehindLiteral 19 = .ok (.getfield 98, 3) := by decide +kernel
theorem dX2_acceptBehindLiteral_22 : decode cX2_acceptBehindLiteral 22 = .ok (.ifCond .eq 11, 3) := by decide +kernel
theorem dX2_acceptBehindLiteral_25 : decode cX2_acceptBehindLiteral 25 = .ok (.aload_n 0, 1) := by decide +kernel
theorem dX2_acceptBehindLiteral_26 : decode cX2_acceptBehindLiteral 26 = .ok (.bipush 6, 2) := by decide +kernel
theorem dX2_acceptBehindLiteral_28 : decode cX2_acceptBehindLiteral 28 = .ok (.putfield 21, 3) := by decide +kernel
theorem dX2_acceptBehindLiteral_31 : decode cX2_acceptBehindLiteral 31 = .ok (.iconst 1, 1) := by decide +kernel
theorem dX2_acceptBehindLiteral_32 : decode cX2_acceptBehindLiteral 32 = .ok (.ireturn, 1) := by decide +kernel
theorem dX2_acceptBehindLiteral_33 : decode cX2_acceptBehindLiteral 33 = .ok (.aload_n 0, 1) := by decide +kernel
theorem dX2_acceptBehindLiteral_34 : decode cX2_acceptBehindLiteral 34 = .ok (.iload_n 1, 1) := by decide +kernel
theorem dX2_acceptBehindLiteral_35 : decode cX2_acceptBehindLiteral 35 = .ok (.invokevirtual 72, 3) := by decide +kernel
theorem dX2_acceptBehindLiteral_38 : decode cX2_acceptBehindLiteral 38 = .ok (.ireturn, 1) := by decide +kernel
theorem dX2_acceptWeight_0 : decode cX2_acceptWeight 0 = .ok (.iload_n 1, 1) := by decide +kernel
theorem dX2_acceptWeight_1 : decode cX2_acceptWeight 1 = .ok (.iconst 1, 1) := by decide +kernel
theorem dX2_acceptWeight_2 : decode cX2_acceptWeight 2 = .ok (.if_icmp .lt 9, 3) := by decide +kernel
theorem dX2_acceptWeight_5 : decode cX2_acceptWeight 5 = .ok (.iload_n 1, 1) := by decide +kernel
theorem dX2_acceptWeight_6 : decode cX2_acceptWeight 6 = .ok (.bipush 9, 2) := by decide +kernel
theorem dX2_acceptWeight_8 : decode cX2_acceptWeight 8 = .ok (.if_icmp .le 5, 3) := by decide +kernel
theorem dX2_acceptWeight_11 : decode cX2_acceptWeight 11 = .ok (.iconst 0, 1) := by decide +kernel
theorem dX2_acceptWeight_12 : decode cX2_acceptWeight 12 = .ok (.ireturn, 1) := by decide +kernel
theorem dX2_acceptWeight_13 : decode cX2_acceptWeight 13 = .ok (.aload_n 0, 1) := by decide +kernel
theorem dX2_acceptWeight_14 : decode cX2_acceptWeight 14 = .ok (.iload_n 1, 1) := by decide +kernel
theorem dX2_acceptWeight_15 : decode cX2_acceptWeight 15 = .ok (.putfield 98, 3) := by decide +kernel
theorem dX2_acceptWeight_18 : decode cX2_acceptWeight 18 = .ok (.aload_n 0, 1) := by decide +kernel
theorem dX2_acceptWeight_19 : decode cX2_acceptWeight 19 = .ok (.bipush 7, 2) := by decide +kernel
theorem dX2_acceptWeight_21 : decode cX2_acceptWeight 21 = .ok (.putfield 21, 3) := by decide +kernel
theorem dX2_acceptWeight_24 : decode cX2_acceptWeight 24 = .ok (.iconst 1, 1) := by decide +kernel
theorem dX2_acceptWeight_25 : decode cX2_acceptWeight 25 = .ok (.ireturn, 1) := by decide +kernel
set_option maxRecDepth 20000 in
theorem ggX2_acceptEnd_X2_modelsOfBody : GoodIn wsX2_acceptEnd wsX2_modelsOfBody := goodIn_r _ [8, 9, 10, 11, 12, 13, 14, 15, 16, 17, 18, 19, 20, 7, 21, 22, 23, 32, 33, 34, 35, 36, 37, 38] (by decide +kernel) (by decide +kernel)
set_option maxRecDepth 20000 in
theorem gX2_acceptEnd_X2_modelsOfBody : GoodIn wsX2_acceptEnd (wsV RX2 107 RX2 yX2_modelsOfBody wsX2_modelsOfBody) := goodIn_app (goodIn_of _ (by decide +kernel)) ggX2_acceptEnd_X2_modelsOfBody
set_option maxRecDepth 20000 in
theorem ggX2_acceptEnd_X0_add : GoodIn wsX2_acceptEnd wsX0_add := goodIn_r _ [28, 29, 30, 31, 39, 40, 41] (by decide +kernel) (by decide +kernel)
set_option maxRecDepth 20000 in
theorem gX2_acceptEnd_X0_add : GoodIn wsX2_acceptEnd (wsV RX2 111 RX0 yX0_add wsX0_add) := goodIn_app (goodIn_of _ (by decide +kernel)) ggX2_acceptEnd_X0_add
theorem dX2_acceptEnd_0 : decode cX2_acceptEnd 0 = .ok (.iload_n 1, 1) := by decide +kernel
theorem dX2_acceptEnd_1 : decode cX2_acceptEnd 1 = .ok (.bipush 11, 2) := by decide +kernel
theorem dX2_acceptEnd_3 : decode cX2_acceptEnd 3 = .ok (.if_icmp .eq 5, 3) := by decide +kernel
theorem dX2_acceptEnd_6 : decode cX2_acceptEnd 6 = .ok (.iconst 0, 1) := by decide +kernel
theorem dX2_acceptEnd_7 : decode cX2_acceptEnd 7 = .ok (.ireturn, 1) := by decide +kernel
theorem dX2_acceptEnd_8 : decode cX2_acceptEnd 8 = .ok (.aload_n 0, 1) := by decide +kernel
theorem dX2_acceptEnd_9 : decode cX2_acceptEnd 9 = .ok (.getfield 12, 3) := by decide +kernel
theorem dX2_acceptEnd_12 : decode cX2_acceptEnd 12 = .ok (.aload_n 0, 1) := by decide +kernel
theorem dX2_acceptEnd_13 : decode cX2_acceptEnd 13 = .ok (.invokevirtual 107, 3) := by decide +kernel
theorem dX2_acceptEnd_16 : decode cX2_acceptEnd 16 = .ok (.aload_n 0, 1) := by decide +kernel
theorem dX2_acceptEnd_17 : decode cX2_acceptEnd 17 = .ok (.getfield 98, 3) := by decide +kernel
theorem dX2_acceptEnd_20 : decode cX2_acceptEnd 20 = .ok (.invokevirtual 111, 3) := by decide +kernel
theorem dX2_acceptEnd_23 : decode cX2_acceptEnd 23 = .ok (.aload_n 0, 1) := by decide +kernel
theorem dX2_acceptEnd_24 : decode cX2_acceptEnd 24 = .ok (.iconst 0, 1) := by decide +kernel
theorem dX2_acceptEnd_25 : decode cX2_acceptEnd 25 = .ok (.putfield 21, 3) := by decide +kernel
theorem dX2_acceptEnd_28 : decode cX2_acceptEnd 28 = .ok (.iconst 1, 1) := by decide +kernel
theorem dX2_acceptEnd_29 : decode cX2_acceptEnd 29 = .ok (.ireturn, 1) := by decide +kernel
set_option maxRecDepth 20000 in
theorem ggX2_modelsOfBody_J6_bitCount_0f7a4 : GoodIn wsX2_modelsOfBody wsJ6_bitCount_0f7a4 := goodIn_r _ [6, 7, 8, 9] (by decide +kernel) (by decide +kernel)
set_option maxRecDepth 20000 in
theorem gX2_modelsOfBody_J6_bitCount_0f7a4 : GoodIn wsX2_modelsOfBody (va_wsS RX2 115 yJ6_bitCount_0f7a4 wsJ6_bitCount_0f7a4) := goodIn_app (goodIn_of _ (by decide +kernel)) ggX2_modelsOfBody_J6_bitCount_0f7a4
set_option maxRecDepth 20000 in
theorem ggX2_modelsOfBody_X2_bodyHolds : GoodIn wsX2_modelsOfBody wsX2_bodyHolds := goodIn_r _ [14, 15, 16, 17, 18, 19, 20, 21, 22, 23] (by decide +kernel) (by decide +kernel)
set_option maxRecDepth 20000 in
theorem gX2_modelsOfBody_X2_bodyHolds : GoodIn wsX2_modelsOfBody (wsV RX2 120 RX2 yX2_bodyHolds wsX2_bodyHolds) := goodIn_app (goodIn_of _ (by decide +kernel)) ggX2_modelsOfBody_X2_bodyHolds
theorem dX2_modelsOfBody_0 : decode cX2_modelsOfBody 0 = .ok (.lconst 0, 1) := by decide +kernel
theorem dX2_modelsOfBody_1 : decode cX2_modelsOfBody 1 = .ok (.lstore_n 1, 1) := by decide +kernel
theorem dX2_modelsOfBody_2 : decode cX2_modelsOfBody 2 = .ok (.iconst 0, 1) := by decide +kernel
theorem dX2_modelsOfBody_3 : decode cX2_modelsOfBody 3 = .ok (.istore_n 3, 1) := by decide +kernel
theorem dX2_modelsOfBody_4 : decode cX2_modelsOfBody 4 = .ok (.iload_n 3, 1) := by decide +kernel
theorem dX2_modelsOfBody_5 : decode cX2_modelsOfBody 5 = .ok (.bipush 64, 2) := by decide +kernel
theorem dX2_modelsOfBody_7 : decode cX2_modelsOfBody 7 = .ok (.if_icmp .ge 47, 3) := by decide +kernel
theorem dX2_modelsOfBody_10 : decode cX2_modelsOfBody 10 = .ok (.iload_n 3, 1) := by decide +kernel
theorem dX2_modelsOfBody_11 : decode cX2_modelsOfBody 11 = .ok (.aload_n 0, 1) := by decide +kernel
theorem dX2_modelsOfBody_12 : decode cX2_modelsOfBody 12 = .ok (.getfield 92, 3) := by decide +kernel
theorem dX2_modelsOfBody_15 : decode cX2_modelsOfBody 15 = .ok (.iand, 1) := by decide +kernel
theorem dX2_modelsOfBody_16 : decode cX2_modelsOfBody 16 = .ok (.invokestatic 115, 3) := by decide +kernel
theorem dX2_modelsOfBody_19 : decode cX2_modelsOfBody 19 = .ok (.iload_n 3, 1) := by decide +kernel
theorem dX2_modelsOfBody_20 : decode cX2_modelsOfBody 20 = .ok (.iconst (-1), 1) := by decide +kernel
theorem dX2_modelsOfBody_21 : decode cX2_modelsOfBody 21 = .ok (.ixor, 1) := by decide +kernel
theorem dX2_modelsOfBody_22 : decode cX2_modelsOfBody 22 = .ok (.aload_n 0, 1) := by decide +kernel
theorem dX2_modelsOfBody_23 : decode cX2_modelsOfBody 23 = .ok (.getfield 95, 3) := by decide +kernel
theorem dX2_modelsOfBody_26 : decode cX2_modelsOfBody 26 = .ok (.iand, 1) := by decide +kernel
theorem dX2_modelsOfBody_27 : decode cX2_modelsOfBody 27 = .ok (.invokestatic 115, 3) := by decide +kernel
theorem dX2_modelsOfBody_30 : decode cX2_modelsOfBody 30 = .ok (.iadd, 1) := by decide +kernel
theorem dX2_modelsOfBody_31 : decode cX2_modelsOfBody 31 = .ok (.istore 4, 2) := by decide +kernel
theorem dX2_modelsOfBody_33 : decode cX2_modelsOfBody 33 = .ok (.aload_n 0, 1) := by decide +kernel
theorem dX2_modelsOfBody_34 : decode cX2_modelsOfBody 34 = .ok (.iload 4, 2) := by decide +kernel
theorem dX2_modelsOfBody_36 : decode cX2_modelsOfBody 36 = .ok (.invokevirtual 120, 3) := by decide +kernel
theorem dX2_modelsOfBody_39 : decode cX2_modelsOfBody 39 = .ok (.ifCond .eq 9, 3) := by decide +kernel
theorem dX2_modelsOfBody_42 : decode cX2_modelsOfBody 42 = .ok (.lload_n 1, 1) := by decide +kernel
theorem dX2_modelsOfBody_43 : decode cX2_modelsOfBody 43 = .ok (.lconst 1, 1) := by decide +kernel
theorem dX2_modelsOfBody_44 : decode cX2_modelsOfBody 44 = .ok (.iload_n 3, 1) := by decide +kernel
theorem dX2_modelsOfBody_45 : decode cX2_modelsOfBody 45 = .ok (.lshl, 1) := by decide +kernel
theorem dX2_modelsOfBody_46 : decode cX2_modelsOfBody 46 = .ok (.lor, 1) := by decide +kernel
theorem dX2_modelsOfBody_47 : decode cX2_modelsOfBody 47 = .ok (.lstore_n 1, 1) := by decide +kernel
theorem dX2_modelsOfBody_48 : decode cX2_modelsOfBody 48 = .ok (.iinc 3 1, 3) := by decide +kernel
theorem dX2_modelsOfBody_51 : decode cX2_modelsOfBody 51 = .ok (.goto (-47), 3) := by decide +kernel
theorem dX2_modelsOfBody_54 : decode cX2_modelsOfBody 54 = .ok (.lload_n 1, 1) := by decide +kernel
theorem dX2_modelsOfBody_55 : decode cX2_modelsOfBody 55 = .ok (.lreturn, 1) := by decide +kernel
theorem dX2_bodyHolds_0 : decode cX2_bodyHolds 0 = .ok (.aload_n 0, 1) := by decide +kernel
theorem dX2_bodyHolds_1 : decode cX2_bodyHolds 1 = .ok (.getfield 101, 3) := by decide +kernel
theorem dX2_bodyHolds_4 : decode cX2_bodyHolds 4 = .ok (.bipush 12, 2) := by decide +kernel
theorem dX2_bodyHolds_6 : decode cX2_bodyHolds 6 = .ok (.if_icmp .ne 13, 3) := by decide +kernel
theorem dX2_bodyHolds_9 : decode cX2_bodyHolds 9 = .ok (.iload_n 1, 1) := by decide +kernel
theorem dX2_bodyHolds_10 : decode cX2_bodyHolds 10 = .ok (.ifCond .le 7, 3) := by decide +kernel
theorem dX2_bodyHolds_13 : decode cX2_bodyHolds 13 = .ok (.iconst 1, 1) := by decide +kernel
theorem dX2_bodyHolds_14 : decode cX2_bodyHolds 14 = .ok (.goto 4, 3) := by decide +kernel
theorem dX2_bodyHolds_17 : decode cX2_bodyHolds 17 = .ok (.iconst 0, 1) := by decide +kernel
theorem dX2_bodyHolds_18 : decode cX2_bodyHolds 18 = .ok (.ireturn, 1) := by decide +kernel
theorem dX2_bodyHolds_19 : decode cX2_bodyHolds 19 = .ok (.aload_n 0, 1) := by decide +kernel
theorem dX2_bodyHolds_20 : decode cX2_bodyHolds 20 = .ok (.getfield 101, 3) := by decide +kernel
theorem dX2_bodyHolds_23 : decode cX2_bodyHolds 23 = .ok (.bipush 13, 2) := by decide +kernel
theorem dX2_bodyHolds_25 : decode cX2_bodyHolds 25 = .ok (.if_icmp .ne 16, 3) := by decide +kernel
theorem dX2_bodyHolds_28 : decode cX2_bodyHolds 28 = .ok (.iload_n 1, 1) := by decide +kernel
theorem dX2_bodyHolds_29 : decode cX2_bodyHolds 29 = .ok (.iconst 1, 1) := by decide +kernel
theorem dX2_bodyHolds_30 : decode cX2_bodyHolds 30 = .ok (.iand, 1) := by decide +kernel
theorem dX2_bodyHolds_31 : decode cX2_bodyHolds 31 = .ok (.iconst 1, 1) := by decide +kernel
theorem dX2_bodyHolds_32 : decode cX2_bodyHolds 32 = .ok (.if_icmp .ne 7, 3) := by decide +kernel
theorem dX2_bodyHolds_35 : decode cX2_bodyHolds 35 = .ok (.iconst 1, 1) := by decide +kernel
theorem dX2_bodyHolds_36 : decode cX2_bodyHolds 36 = .ok (.goto 4, 3) := by decide +kernel
theorem dX2_bodyHolds_39 : decode cX2_bodyHolds 39 = .ok (.iconst 0, 1) := by decide +kernel
theorem dX2_bodyHolds_40 : decode cX2_bodyHolds 40 = .ok (.ireturn, 1) := by decide +kernel
theorem dX2_bodyHolds_41 : decode cX2_bodyHolds 41 = .ok (.iload_n 1, 1) := by decide +kernel
theorem dX2_bodyHolds_42 : decode cX2_bodyHolds 42 = .ok (.aload_n 0, 1) := by decide +kernel
theorem dX2_bodyHolds_43 : decode cX2_bodyHolds 43 = .ok (.getfield 104, 3) := by decide +kernel
theorem dX2_bodyHolds_46 : decode cX2_bodyHolds 46 = .ok (.if_icmp .gt 7, 3) := by decide +kernel
theorem dX2_bodyHolds_49 : decode cX2_bodyHolds 49 = .ok (.iconst 1, 1) := by decide +kernel
theorem dX2_bodyHolds_50 : decode cX2_bodyHolds 50 = .ok (.goto 4, 3) := by decide +kernel
theorem dX2_bodyHolds_53 : decode cX2_bodyHolds 53 = .ok (.iconst 0, 1) := by decide +kernel
theorem dX2_bodyHolds_54 : decode cX2_bodyHolds 54 = .ok (.ireturn, 1) := by decide +kernel
theorem dX3_init_0 : decode cX3_init 0 = .ok (.aload_n 0, 1) := by decide +kernel
theorem dX3_init_1 : decode cX3_init 1 = .ok (.invokespecial 3, 3) := by decide +kernel
theorem dX3_init_4 : decode cX3_init 4 = .ok (.aload_n 0, 1) := by decide +kernel
theorem dX3_init_5 : decode cX3_init 5 = .ok (.sipush 252, 3) := by decide +kernel
theorem dX3_init_8 : decode cX3_init 8 = .ok (.newarray .int, 2) := by decide +kernel
theorem dX3_init_10 : decode cX3_init 10 = .ok (.putfield 9, 3) := by decide +kernel
theorem dX3_init_13 : decode cX3_init 13 = .ok (.return_, 1) := by decide +kernel
theorem dX3_size_0 : decode cX3_size 0 = .ok (.aload_n 0, 1) := by decide +kernel
theorem dX3_size_1 : decode cX3_size 1 = .ok (.getfield 15, 3) := by decide +kernel
theorem dX3_size_4 : decode cX3_size 4 = .ok (.ireturn, 1) := by decide +kernel
theorem dX3_get_0 : decode cX3_get 0 = .ok (.iload_n 1, 1) := by decide +kernel
theorem dX3_get_1 : decode cX3_get 1 = .ok (.ifCond .lt 11, 3) := by decide +kernel
theorem dX3_get_4 : decode cX3_get 4 = .ok (.iload_n 1, 1) := by decide +kernel
theorem dX3_get_5 : decode cX3_get 5 = .ok (.aload_n 0, 1) := by decide +kernel
theorem dX3_get_6 : decode cX3_get 6 = .ok (.getfield 15, 3) := by decide +kernel
theorem dX3_get_9 : decode cX3_get 9 = .ok (.if_icmp .lt 6, 3) := by decide +kernel
theorem dX3_get_12 : decode cX3_get 12 = .ok (.bipush (-9), 2) := by decide +kernel
theorem dX3_get_14 : decode cX3_get 14 = .ok (.ireturn, 1) := by decide +kernel
theorem dX3_get_15 : decode cX3_get 15 = .ok (.aload_n 0, 1) := by decide +kernel
theorem dX3_get_16 : decode cX3_get 16 = .ok (.getfield 9, 3) := by decide +kernel
theorem dX3_get_19 : decode cX3_get 19 = .ok (.iload_n 1, 1) := by decide +kernel
theorem dX3_get_20 : decode cX3_get 20 = .ok (.iaload, 1) := by decide +kernel
theorem dX3_get_21 : decode cX3_get 21 = .ok (.ireturn, 1) := by decide +kernel
theorem dX3_add_0 : decode cX3_add 0 = .ok (.aload_n 0, 1) := by decide +kernel
theorem dX3_add_1 : decode cX3_add 1 = .ok (.getfield 15, 3) := by decide +kernel
theorem dX3_add_4 : decode cX3_add 4 = .ok (.sipush 252, 3) := by decide +kernel
theorem dX3_add_7 : decode cX3_add 7 = .ok (.if_icmp .ge 23, 3) := by decide +kernel
theorem dX3_add_10 : decode cX3_add 10 = .ok (.aload_n 0, 1) := by decide +kernel
theorem dX3_add_11 : decode cX3_add 11 = .ok (.getfield 9, 3) := by decide +kernel
theorem dX3_add_14 : decode cX3_add 14 = .ok (.aload_n 0, 1) := by decide +kernel
theorem dX3_add_15 : decode cX3_add 15 = .ok (.getfield 15, 3) := by decide +kernel
theorem dX3_add_18 : decode cX3_add 18 = .ok (.iload_n 1, 1) := by decide +kernel
theorem dX3_add_19 : decode cX3_add 19 = .ok (.iastore, 1) := by decide +kernel
theorem dX3_add_20 : decode cX3_add 20 = .ok (.aload_n 0, 1) := by decide +kernel
theorem dX3_add_21 : decode cX3_add 21 = .ok (.dup, 1) := by decide +kernel
theorem dX3_add_22 : decode cX3_add 22 = .ok (.getfield 15, 3) := by decide +kernel
theorem dX3_add_25 : decode cX3_add 25 = .ok (.iconst 1, 1) := by decide +kernel
theorem dX3_add_26 : decode cX3_add 26 = .ok (.iadd, 1) := by decide +kernel
theorem dX3_add_27 : decode cX3_add 27 = .ok (.putfield 15, 3) := by decide +kernel
theorem dX3_add_30 : decode cX3_add 30 = .ok (.return_, 1) := by decide +kernel
theorem dX3_clear_0 : decode cX3_clear 0 = .ok (.aload_n 0, 1) := by decide +kernel
theorem dX3_clear_1 : decode cX3_clear 1 = .ok (.iconst 0, 1) := by decide +kernel
theorem dX3_clear_2 : decode cX3_clear 2 = .ok (.putfield 15, 3) := by decide +kernel
theorem dX3_clear_5 : decode cX3_clear 5 = .ok (.return_, 1) := by decide +kernel
theorem dX3_copyFrom_0 : decode cX3_copyFrom 0 = .ok (.aload_n 1, 1) := by decide +kernel
theorem dX3_copyFrom_1 : decode cX3_copyFrom 1 = .ok (.getfield 9, 3) := by decide +kernel
theorem dX3_copyFrom_4 : decode cX3_copyFrom 4 = .ok (.iconst 0, 1) := by decide +kernel
theorem dX3_copyFrom_5 : decode cX3_copyFrom 5 = .ok (.aload_n 0, 1) := by decide +kernel
theorem dX3_copyFrom_6 : decode cX3_copyFrom 6 = .ok (.getfield 9, 3) := by decide +kernel
theorem dX3_copyFrom_9 : decode cX3_copyFrom 9 = .ok (.iconst 0, 1) := by decide +kernel
theorem dX3_copyFrom_10 : decode cX3_copyFrom 10 = .ok (.sipush 252, 3) := by decide +kernel
theorem dX3_copyFrom_13 : decode cX3_copyFrom 13 = .ok (.invokestatic 19, 3) := by decide +kernel
theorem dX3_copyFrom_16 : decode cX3_copyFrom 16 = .ok (.aload_n 0, 1) := by decide +kernel
theorem dX3_copyFrom_17 : decode cX3_copyFrom 17 = .ok (.aload_n 1, 1) := by decide +kernel
theorem dX3_copyFrom_18 : decode cX3_copyFrom 18 = .ok (.getfield 15, 3) := by decide +kernel
theorem dX3_copyFrom_21 : decode cX3_copyFrom 21 = .ok (.putfield 15, 3) := by decide +kernel
theorem dX3_copyFrom_24 : decode cX3_copyFrom 24 = .ok (.return_, 1) := by decide +kernel
set_option maxRecDepth 20000 in
theorem ggX4_init_X0_init : GoodIn wsX4_init wsX0_init := goodIn_r _ [17, 18, 2, 3, 13, 19, 20, 21, 26, 27, 28] (by decide +kernel) (by decide +kernel)
set_option maxRecDepth 20000 in
theorem gX4_init_X0_init_n11 : GoodIn wsX4_init (wsX0_init) := ggX4_init_X0_init
set_option maxRecDepth 20000 in
theorem ggX4_init_X3_init : GoodIn wsX4_init wsX3_init := goodIn_r _ [23, 24, 2, 3, 20, 25, 34, 35] (by decide +kernel) (by decide +kernel)
set_option maxRecDepth 20000 in
theorem gX4_init_X3_init_n20 : GoodIn wsX4_init (wsX3_init) := ggX4_init_X3_init
theorem dX4_init_0 : decode cX4_init 0 = .ok (.aload_n 0, 1) := by decide +kernel
theorem dX4_init_1 : decode cX4_init 1 = .ok (.invokespecial 3, 3) := by decide +kernel
theorem dX4_init_4 : decode cX4_init 4 = .ok (.aload_n 0, 1) := by decide +kernel
theorem dX4_init_5 : decode cX4_init 5 = .ok (.new 9, 3) := by decide +kernel
theorem dX4_init_8 : decode cX4_init 8 = .ok (.dup, 1) := by decide +kernel
theorem dX4_init_9 : decode cX4_init 9 = .ok (.invokespecial 11, 3) := by decide +kernel
theorem dX4_init_12 : decode cX4_init 12 = .ok (.putfield 12, 3) := by decide +kernel
theorem dX4_init_15 : decode cX4_init 15 = .ok (.aload_n 0, 1) := by decide +kernel
theorem dX4_init_16 : decode cX4_init 16 = .ok (.new 18, 3) := by decide +kernel
theorem dX4_init_19 : decode cX4_init 19 = .ok (.dup, 1) := by decide +kernel
theorem dX4_init_20 : decode cX4_init 20 = .ok (.invokespecial 20, 3) := by decide +kernel
theorem dX4_init_23 : decode cX4_init 23 = .ok (.putfield 21, 3) := by decide +kernel
theorem dX4_init_26 : decode cX4_init 26 = .ok (.aload_n 0, 1) := by decide +kernel
theorem dX4_init_27 : decode cX4_init 27 = .ok (.new 18, 3) := by decide +kernel
theorem dX4_init_30 : decode cX4_init 30 = .ok (.dup, 1) := by decide +kernel
theorem dX4_init_31 : decode cX4_init 31 = .ok (.invokespecial 20, 3) := by decide +kernel
theorem dX4_init_34 : decode cX4_init 34 = .ok (.putfield 25, 3) := by decide +kernel
theorem dX4_init_37 : decode cX4_init 37 = .ok (.aload_n 0, 1) := by decide +kernel
theorem dX4_init_38 : decode cX4_init 38 = .ok (.bipush 16, 2) := by decide +kernel
theorem dX4_init_40 : decode cX4_init 40 = .ok (.newarray .long, 2) := by decide +kernel
theorem dX4_init_42 : decode cX4_init 42 = .ok (.putfield 28, 3) := by decide +kernel
theorem dX4_init_45 : decode cX4_init 45 = .ok (.aload_n 0, 1) := by decide +kernel
theorem dX4_init_46 : decode cX4_init 46 = .ok (.iconst 0, 1) := by decide +kernel
theorem dX4_init_47 : decode cX4_init 47 = .ok (.putfield 32, 3) := by decide +kernel
theorem dX4_init_50 : decode cX4_init 50 = .ok (.return_, 1) := by decide +kernel
theorem dX4_system_0 : decode cX4_system 0 = .ok (.aload_n 0, 1) := by decide +kernel
theorem dX4_system_1 : decode cX4_system 1 = .ok (.getfield 12, 3) := by decide +kernel
theorem dX4_system_4 : decode cX4_system 4 = .ok (.areturn, 1) := by decide +kernel
theorem dX4_muses_0 : decode cX4_muses 0 = .ok (.aload_n 0, 1) := by decide +kernel
theorem dX4_muses_1 : decode cX4_muses 1 = .ok (.getfield 21, 3) := by decide +kernel
theorem dX4_muses_4 : decode cX4_muses 4 = .ok (.areturn, 1) := by decide +kernel
theorem dX4_msses_0 : decode cX4_msses 0 = .ok (.aload_n 0, 1) := by decide +kernel
theorem dX4_msses_1 : decode cX4_msses 1 = .ok (.getfield 25, 3) := by decide +kernel
theorem dX4_msses_4 : decode cX4_msses 4 = .ok (.areturn, 1) := by decide +kernel
theorem dX4_strategy_0 : decode cX4_strategy 0 = .ok (.aload_n 0, 1) := by decide +kernel
theorem dX4_strategy_1 : decode cX4_strategy 1 = .ok (.getfield 32, 3) := by decide +kernel
theorem dX4_strategy_4 : decode cX4_strategy 4 = .ok (.ireturn, 1) := by decide +kernel
set_option maxRecDepth 20000 in
theorem ggX4_copyFrom_X0_copyFrom : GoodIn wsX4_copyFrom wsX0_copyFrom := goodIn_r _ [14, 15, 16, 6, 7, 8, 17, 18, 32, 33, 34] (by decide +kernel) (by decide +kernel)
set_option maxRecDepth 20000 in
theorem gX4_copyFrom_X0_copyFrom : GoodIn wsX4_copyFrom (wsV RX4 36 RX0 yX0_copyFrom wsX0_copyFrom) := goodIn_app (goodIn_of _ (by decide +kernel)) ggX4_copyFrom_X0_copyFrom
set_option maxRecDepth 20000 in
theorem ggX4_copyFrom_X3_copyFrom : GoodIn wsX4_copyFrom wsX3_copyFrom := goodIn_r _ [23, 24, 25, 6, 7, 8, 26, 35, 36] (by decide +kernel) (by decide +kernel)
set_option maxRecDepth 20000 in
theorem gX4_copyFrom_X3_copyFrom : GoodIn wsX4_copyFrom (wsV RX4 40 RX3 yX3_copyFrom wsX3_copyFrom) := goodIn_app (goodIn_of _ (by decide +kernel)) ggX4_copyFrom_X3_copyFrom
theorem dX4_copyFrom_0 : decode cX4_copyFrom 0 = .ok (.aload_n 0, 1) := by decide +kernel
theorem dX4_copyFrom_1 : decode cX4_copyFrom 1 = .ok (.getfield 12, 3) := by decide +kernel
theorem dX4_copyFrom_4 : decode cX4_copyFrom 4 = .ok (.aload_n 1, 1) := by decide +kernel
theorem dX4_copyFrom_5 : decode cX4_copyFrom 5 = .ok (.getfield 12, 3) := by decide +kernel
theorem dX4_copyFrom_8 : decode cX4_copyFrom 8 = .ok (.invokevirtual 36, 3) := by decide +kernel
theorem dX4_copyFrom_11 : decode cX4_copyFrom 11 = .ok (.aload_n 0, 1) := by decide +kernel
theorem dX4_copyFrom_12 : decode cX4_copyFrom 12 = .ok (.getfield 21, 3) := by decide +kernel
theorem dX4_copyFrom_15 : decode cX4_copyFrom 15 = .ok (.aload_n 1, 1) := by decide +kernel
theorem dX4_copyFrom_16 : decode cX4_copyFrom 16 = .ok (.getfield 21, 3) := by decide +kernel
theorem dX4_copyFrom_19 : decode cX4_copyFrom 19 = .ok (.invokevirtual 40, 3) := by decide +kernel
theorem dX4_copyFrom_22 : decode cX4_copyFrom 22 = .ok (.aload_n 0, 1) := by decide +kernel
theorem dX4_copyFrom_23 : decode cX4_copyFrom 23 = .ok (.getfield 25, 3) := by decide +kernel
theorem dX4_copyFrom_26 : decode cX4_copyFrom 26 = .ok (.aload_n 1, 1) := by decide +kernel
theorem dX4_copyFrom_27 : decode cX4_copyFrom 27 = .ok (.getfield 25, 3) := by decide +kernel
theorem dX4_copyFrom_30 : decode cX4_copyFrom 30 = .ok (.invokevirtual 40, 3) := by decide +kernel
theorem dX4_copyFrom_33 : decode cX4_copyFrom 33 = .ok (.aload_n 1, 1) := by decide +kernel
theorem dX4_copyFrom_34 : decode cX4_copyFrom 34 = .ok (.getfield 28, 3) := by decide +kernel
theorem dX4_copyFrom_37 : decode cX4_copyFrom 37 = .ok (.iconst 0, 1) := by decide +kernel
theorem dX4_copyFrom_38 : decode cX4_copyFrom 38 = .ok (.aload_n 0, 1) := by decide +kernel
