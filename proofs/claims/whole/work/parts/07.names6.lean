theorem dX7_finish_48 : decode cX7_finish 48 = .ok (.aload_n 0, 1) := by decide +kernel
theorem dX7_finish_49 : decode cX7_finish 49 = .ok (.invokevirtual 166, 3) := by decide +kernel
theorem dX7_finish_52 : decode cX7_finish 52 = .ok (.istore_n 1, 1) := by decide +kernel
theorem dX7_finish_53 : decode cX7_finish 53 = .ok (.goto (-20), 3) := by decide +kernel
theorem dX7_finish_56 : decode cX7_finish 56 = .ok (.iload_n 2, 1) := by decide +kernel
theorem dX7_finish_57 : decode cX7_finish 57 = .ok (.ireturn, 1) := by decide +kernel
theorem dX7_undo_0 : decode cX7_undo 0 = .ok (.aload_n 0, 1) := by decide +kernel
theorem dX7_undo_1 : decode cX7_undo 1 = .ok (.iconst 0, 1) := by decide +kernel
theorem dX7_undo_2 : decode cX7_undo 2 = .ok (.putfield 35, 3) := by decide +kernel
theorem dX7_undo_5 : decode cX7_undo 5 = .ok (.aload_n 0, 1) := by decide +kernel
theorem dX7_undo_6 : decode cX7_undo 6 = .ok (.getfield 115, 3) := by decide +kernel
theorem dX7_undo_9 : decode cX7_undo 9 = .ok (.ifCond .ne 6, 3) := by decide +kernel
theorem dX7_undo_12 : decode cX7_undo 12 = .ok (.bipush (-2), 2) := by decide +kernel
theorem dX7_undo_14 : decode cX7_undo 14 = .ok (.ireturn, 1) := by decide +kernel
theorem dX7_undo_15 : decode cX7_undo 15 = .ok (.aload_n 0, 1) := by decide +kernel
theorem dX7_undo_16 : decode cX7_undo 16 = .ok (.dup, 1) := by decide +kernel
theorem dX7_undo_17 : decode cX7_undo 17 = .ok (.getfield 115, 3) := by decide +kernel
theorem dX7_undo_20 : decode cX7_undo 20 = .ok (.iconst 1, 1) := by decide +kernel
theorem dX7_undo_21 : decode cX7_undo 21 = .ok (.isub, 1) := by decide +kernel
theorem dX7_undo_22 : decode cX7_undo 22 = .ok (.putfield 115, 3) := by decide +kernel
theorem dX7_undo_25 : decode cX7_undo 25 = .ok (.iconst 0, 1) := by decide +kernel
theorem dX7_undo_26 : decode cX7_undo 26 = .ok (.istore_n 1, 1) := by decide +kernel
theorem dX7_undo_27 : decode cX7_undo 27 = .ok (.iload_n 1, 1) := by decide +kernel
theorem dX7_undo_28 : decode cX7_undo 28 = .ok (.sipush 568, 3) := by decide +kernel
theorem dX7_undo_31 : decode cX7_undo 31 = .ok (.if_icmp .ge 30, 3) := by decide +kernel
theorem dX7_undo_34 : decode cX7_undo 34 = .ok (.aload_n 0, 1) := by decide +kernel
theorem dX7_undo_35 : decode cX7_undo 35 = .ok (.getfield 7, 3) := by decide +kernel
theorem dX7_undo_38 : decode cX7_undo 38 = .ok (.iload_n 1, 1) := by decide +kernel
theorem dX7_undo_39 : decode cX7_undo 39 = .ok (.aload_n 0, 1) := by decide +kernel
theorem dX7_undo_40 : decode cX7_undo 40 = .ok (.getfield 16, 3) := by decide +kernel
theorem dX7_undo_43 : decode cX7_undo 43 = .ok (.sipush 568, 3) := by decide +kernel
theorem dX7_undo_46 : decode cX7_undo 46 = .ok (.aload_n 0, 1) := by decide +kernel
theorem dX7_undo_47 : decode cX7_undo 47 = .ok (.getfield 115, 3) := by decide +kernel
theorem dX7_undo_50 : decode cX7_undo 50 = .ok (.imul, 1) := by decide +kernel
theorem dX7_undo_51 : decode cX7_undo 51 = .ok (.iload_n 1, 1) := by decide +kernel
theorem dX7_undo_52 : decode cX7_undo 52 = .ok (.iadd, 1) := by decide +kernel
theorem dX7_undo_53 : decode cX7_undo 53 = .ok (.iaload, 1) := by decide +kernel
theorem dX7_undo_54 : decode cX7_undo 54 = .ok (.iastore, 1) := by decide +kernel
theorem dX7_undo_55 : decode cX7_undo 55 = .ok (.iinc 1 1, 3) := by decide +kernel
theorem dX7_undo_58 : decode cX7_undo 58 = .ok (.goto (-31), 3) := by decide +kernel
theorem dX7_undo_61 : decode cX7_undo 61 = .ok (.aload_n 0, 1) := by decide +kernel
theorem dX7_undo_62 : decode cX7_undo 62 = .ok (.getfield 115, 3) := by decide +kernel
theorem dX7_undo_65 : decode cX7_undo 65 = .ok (.ireturn, 1) := by decide +kernel
set_option maxRecDepth 20000 in
theorem ggX7_seed_X7_markAll : GoodIn wsX7_seed wsX7_markAll := goodIn_r _ [6, 7, 8, 9, 10, 11, 5, 12, 13, 14, 15, 16, 17, 18, 19, 20, 21, 22, 23, 24, 32, 33, 34, 35, 36, 37, 38, 39, 40, 41, 42, 43, 44, 45, 46, 47, 48] (by decide +kernel) (by decide +kernel)
set_option maxRecDepth 20000 in
theorem gX7_seed_X7_markAll : GoodIn wsX7_seed (wsV RX7 163 RX7 yX7_markAll wsX7_markAll) := goodIn_app (goodIn_of _ (by decide +kernel)) ggX7_seed_X7_markAll
set_option maxRecDepth 20000 in
theorem ggX7_seed_X7_findSeed : GoodIn wsX7_seed wsX7_findSeed := goodIn_r _ [28, 7, 8, 29, 30, 5, 31, 32, 33, 34, 35, 36, 37, 38, 39, 40, 41, 42, 43, 44, 45, 46, 47, 48] (by decide +kernel) (by decide +kernel)
set_option maxRecDepth 20000 in
theorem gX7_seed_X7_findSeed : GoodIn wsX7_seed (wsV RX7 166 RX7 yX7_findSeed wsX7_findSeed) := goodIn_app (goodIn_of _ (by decide +kernel)) ggX7_seed_X7_findSeed
theorem dX7_seed_0 : decode cX7_seed 0 = .ok (.aload_n 0, 1) := by decide +kernel
theorem dX7_seed_1 : decode cX7_seed 1 = .ok (.iconst 0, 1) := by decide +kernel
theorem dX7_seed_2 : decode cX7_seed 2 = .ok (.putfield 35, 3) := by decide +kernel
theorem dX7_seed_5 : decode cX7_seed 5 = .ok (.aload_n 0, 1) := by decide +kernel
theorem dX7_seed_6 : decode cX7_seed 6 = .ok (.invokevirtual 163, 3) := by decide +kernel
theorem dX7_seed_9 : decode cX7_seed 9 = .ok (.aload_n 0, 1) := by decide +kernel
theorem dX7_seed_10 : decode cX7_seed 10 = .ok (.invokevirtual 166, 3) := by decide +kernel
theorem dX7_seed_13 : decode cX7_seed 13 = .ok (.ireturn, 1) := by decide +kernel
set_option maxRecDepth 20000 in
theorem ggX7_unexploredCount_X7_markAll : GoodIn wsX7_unexploredCount wsX7_markAll := goodIn_r _ [7, 2, 8, 9, 10, 11, 6, 12, 13, 14, 15, 16, 17, 18, 19, 20, 21, 22, 23, 24, 25, 26, 27, 28, 29, 30, 31, 32, 33, 34, 35, 36, 37, 38, 39, 40, 41] (by decide +kernel) (by decide +kernel)
set_option maxRecDepth 20000 in
theorem gX7_unexploredCount_X7_markAll : GoodIn wsX7_unexploredCount (wsV RX7 163 RX7 yX7_markAll wsX7_markAll) := goodIn_app (goodIn_of _ (by decide +kernel)) ggX7_unexploredCount_X7_markAll
theorem dX7_unexploredCount_0 : decode cX7_unexploredCount 0 = .ok (.aload_n 0, 1) := by decide +kernel
theorem dX7_unexploredCount_1 : decode cX7_unexploredCount 1 = .ok (.iconst 0, 1) := by decide +kernel
theorem dX7_unexploredCount_2 : decode cX7_unexploredCount 2 = .ok (.putfield 35, 3) := by decide +kernel
theorem dX7_unexploredCount_5 : decode cX7_unexploredCount 5 = .ok (.aload_n 0, 1) := by decide +kernel
theorem dX7_unexploredCount_6 : decode cX7_unexploredCount 6 = .ok (.invokevirtual 163, 3) := by decide +kernel
theorem dX7_unexploredCount_9 : decode cX7_unexploredCount 9 = .ok (.iconst 0, 1) := by decide +kernel
theorem dX7_unexploredCount_10 : decode cX7_unexploredCount 10 = .ok (.istore_n 1, 1) := by decide +kernel
theorem dX7_unexploredCount_11 : decode cX7_unexploredCount 11 = .ok (.iconst 0, 1) := by decide +kernel
theorem dX7_unexploredCount_12 : decode cX7_unexploredCount 12 = .ok (.istore_n 2, 1) := by decide +kernel
theorem dX7_unexploredCount_13 : decode cX7_unexploredCount 13 = .ok (.iload_n 2, 1) := by decide +kernel
theorem dX7_unexploredCount_14 : decode cX7_unexploredCount 14 = .ok (.sipush 1024, 3) := by decide +kernel
theorem dX7_unexploredCount_17 : decode cX7_unexploredCount 17 = .ok (.if_icmp .ge 26, 3) := by decide +kernel
theorem dX7_unexploredCount_20 : decode cX7_unexploredCount 20 = .ok (.iload_n 1, 1) := by decide +kernel
theorem dX7_unexploredCount_21 : decode cX7_unexploredCount 21 = .ok (.aload_n 0, 1) := by decide +kernel
theorem dX7_unexploredCount_22 : decode cX7_unexploredCount 22 = .ok (.getfield 32, 3) := by decide +kernel
theorem dX7_unexploredCount_25 : decode cX7_unexploredCount 25 = .ok (.iload_n 2, 1) := by decide +kernel
theorem dX7_unexploredCount_26 : decode cX7_unexploredCount 26 = .ok (.baload, 1) := by decide +kernel
theorem dX7_unexploredCount_27 : decode cX7_unexploredCount 27 = .ok (.ifCond .eq 7, 3) := by decide +kernel
theorem dX7_unexploredCount_30 : decode cX7_unexploredCount 30 = .ok (.iconst 0, 1) := by decide +kernel
theorem dX7_unexploredCount_31 : decode cX7_unexploredCount 31 = .ok (.goto 4, 3) := by decide +kernel
theorem dX7_unexploredCount_34 : decode cX7_unexploredCount 34 = .ok (.iconst 1, 1) := by decide +kernel
theorem dX7_unexploredCount_35 : decode cX7_unexploredCount 35 = .ok (.iadd, 1) := by decide +kernel
theorem dX7_unexploredCount_36 : decode cX7_unexploredCount 36 = .ok (.istore_n 1, 1) := by decide +kernel
theorem dX7_unexploredCount_37 : decode cX7_unexploredCount 37 = .ok (.iinc 2 1, 3) := by decide +kernel
theorem dX7_unexploredCount_40 : decode cX7_unexploredCount 40 = .ok (.goto (-27), 3) := by decide +kernel
theorem dX7_unexploredCount_43 : decode cX7_unexploredCount 43 = .ok (.iload_n 1, 1) := by decide +kernel
theorem dX7_unexploredCount_44 : decode cX7_unexploredCount 44 = .ok (.ireturn, 1) := by decide +kernel
theorem dX7_musCount_0 : decode cX7_musCount 0 = .ok (.aload_n 0, 1) := by decide +kernel
theorem dX7_musCount_1 : decode cX7_musCount 1 = .ok (.iconst 0, 1) := by decide +kernel
theorem dX7_musCount_2 : decode cX7_musCount 2 = .ok (.putfield 35, 3) := by decide +kernel
theorem dX7_musCount_5 : decode cX7_musCount 5 = .ok (.aload_n 0, 1) := by decide +kernel
theorem dX7_musCount_6 : decode cX7_musCount 6 = .ok (.getfield 7, 3) := by decide +kernel
theorem dX7_musCount_9 : decode cX7_musCount 9 = .ok (.iconst 2, 1) := by decide +kernel
theorem dX7_musCount_10 : decode cX7_musCount 10 = .ok (.iaload, 1) := by decide +kernel
theorem dX7_musCount_11 : decode cX7_musCount 11 = .ok (.ireturn, 1) := by decide +kernel
theorem dX7_mus_0 : decode cX7_mus 0 = .ok (.aload_n 0, 1) := by decide +kernel
theorem dX7_mus_1 : decode cX7_mus 1 = .ok (.iconst 0, 1) := by decide +kernel
theorem dX7_mus_2 : decode cX7_mus 2 = .ok (.putfield 35, 3) := by decide +kernel
theorem dX7_mus_5 : decode cX7_mus 5 = .ok (.iload_n 1, 1) := by decide +kernel
theorem dX7_mus_6 : decode cX7_mus 6 = .ok (.ifCond .ge 7, 3) := by decide +kernel
theorem dX7_mus_9 : decode cX7_mus 9 = .ok (.iconst (-1), 1) := by decide +kernel
theorem dX7_mus_10 : decode cX7_mus 10 = .ok (.goto 27, 3) := by decide +kernel
theorem dX7_mus_13 : decode cX7_mus 13 = .ok (.iload_n 1, 1) := by decide +kernel
theorem dX7_mus_14 : decode cX7_mus 14 = .ok (.aload_n 0, 1) := by decide +kernel
theorem dX7_mus_15 : decode cX7_mus 15 = .ok (.getfield 7, 3) := by decide +kernel
theorem dX7_mus_18 : decode cX7_mus 18 = .ok (.iconst 2, 1) := by decide +kernel
theorem dX7_mus_19 : decode cX7_mus 19 = .ok (.iaload, 1) := by decide +kernel
theorem dX7_mus_20 : decode cX7_mus 20 = .ok (.if_icmp .ge 15, 3) := by decide +kernel
theorem dX7_mus_23 : decode cX7_mus 23 = .ok (.aload_n 0, 1) := by decide +kernel
theorem dX7_mus_24 : decode cX7_mus 24 = .ok (.getfield 7, 3) := by decide +kernel
theorem dX7_mus_27 : decode cX7_mus 27 = .ok (.bipush 64, 2) := by decide +kernel
theorem dX7_mus_29 : decode cX7_mus 29 = .ok (.iload_n 1, 1) := by decide +kernel
theorem dX7_mus_30 : decode cX7_mus 30 = .ok (.iadd, 1) := by decide +kernel
theorem dX7_mus_31 : decode cX7_mus 31 = .ok (.iaload, 1) := by decide +kernel
theorem dX7_mus_32 : decode cX7_mus 32 = .ok (.goto 5, 3) := by decide +kernel
theorem dX7_mus_35 : decode cX7_mus 35 = .ok (.bipush (-9), 2) := by decide +kernel
theorem dX7_mus_37 : decode cX7_mus 37 = .ok (.ireturn, 1) := by decide +kernel
theorem dX7_mssCount_0 : decode cX7_mssCount 0 = .ok (.aload_n 0, 1) := by decide +kernel
theorem dX7_mssCount_1 : decode cX7_mssCount 1 = .ok (.iconst 0, 1) := by decide +kernel
theorem dX7_mssCount_2 : decode cX7_mssCount 2 = .ok (.putfield 35, 3) := by decide +kernel
theorem dX7_mssCount_5 : decode cX7_mssCount 5 = .ok (.aload_n 0, 1) := by decide +kernel
theorem dX7_mssCount_6 : decode cX7_mssCount 6 = .ok (.getfield 7, 3) := by decide +kernel
theorem dX7_mssCount_9 : decode cX7_mssCount 9 = .ok (.iconst 3, 1) := by decide +kernel
theorem dX7_mssCount_10 : decode cX7_mssCount 10 = .ok (.iaload, 1) := by decide +kernel
theorem dX7_mssCount_11 : decode cX7_mssCount 11 = .ok (.ireturn, 1) := by decide +kernel
theorem dX7_mss_0 : decode cX7_mss 0 = .ok (.aload_n 0, 1) := by decide +kernel
theorem dX7_mss_1 : decode cX7_mss 1 = .ok (.iconst 0, 1) := by decide +kernel
theorem dX7_mss_2 : decode cX7_mss 2 = .ok (.putfield 35, 3) := by decide +kernel
theorem dX7_mss_5 : decode cX7_mss 5 = .ok (.iload_n 1, 1) := by decide +kernel
theorem dX7_mss_6 : decode cX7_mss 6 = .ok (.ifCond .ge 7, 3) := by decide +kernel
theorem dX7_mss_9 : decode cX7_mss 9 = .ok (.iconst (-1), 1) := by decide +kernel
theorem dX7_mss_10 : decode cX7_mss 10 = .ok (.goto 28, 3) := by decide +kernel
theorem dX7_mss_13 : decode cX7_mss 13 = .ok (.iload_n 1, 1) := by decide +kernel
theorem dX7_mss_14 : decode cX7_mss 14 = .ok (.aload_n 0, 1) := by decide +kernel
theorem dX7_mss_15 : decode cX7_mss 15 = .ok (.getfield 7, 3) := by decide +kernel
theorem dX7_mss_18 : decode cX7_mss 18 = .ok (.iconst 3, 1) := by decide +kernel
theorem dX7_mss_19 : decode cX7_mss 19 = .ok (.iaload, 1) := by decide +kernel
theorem dX7_mss_20 : decode cX7_mss 20 = .ok (.if_icmp .ge 16, 3) := by decide +kernel
theorem dX7_mss_23 : decode cX7_mss 23 = .ok (.aload_n 0, 1) := by decide +kernel
theorem dX7_mss_24 : decode cX7_mss 24 = .ok (.getfield 7, 3) := by decide +kernel
theorem dX7_mss_27 : decode cX7_mss 27 = .ok (.sipush 316, 3) := by decide +kernel
theorem dX7_mss_30 : decode cX7_mss 30 = .ok (.iload_n 1, 1) := by decide +kernel
theorem dX7_mss_31 : decode cX7_mss 31 = .ok (.iadd, 1) := by decide +kernel
theorem dX7_mss_32 : decode cX7_mss 32 = .ok (.iaload, 1) := by decide +kernel
theorem dX7_mss_33 : decode cX7_mss 33 = .ok (.goto 5, 3) := by decide +kernel
theorem dX7_mss_36 : decode cX7_mss 36 = .ok (.bipush (-9), 2) := by decide +kernel
theorem dX7_mss_38 : decode cX7_mss 38 = .ok (.ireturn, 1) := by decide +kernel
set_option maxRecDepth 20000 in
theorem ggX7_weight_X7_isConstraint : GoodIn wsX7_weight wsX7_isConstraint := goodIn_r _ [6, 7, 8, 9, 5, 10, 15, 16, 17, 18, 19, 20, 21, 22, 23, 24, 25, 26, 27, 28, 29, 30, 31] (by decide +kernel) (by decide +kernel)
set_option maxRecDepth 20000 in
theorem gX7_weight_X7_isConstraint : GoodIn wsX7_weight (wsV RX7 118 RX7 yX7_isConstraint wsX7_isConstraint) := goodIn_app (goodIn_of _ (by decide +kernel)) ggX7_weight_X7_isConstraint
set_option maxRecDepth 20000 in
theorem ggX7_weight_X7_of : GoodIn wsX7_weight wsX7_of := goodIn_r _ [14, 7, 15, 16, 17, 18, 19, 20, 21, 22, 23, 24, 25, 26, 27, 28, 29, 30, 31] (by decide +kernel) (by decide +kernel)
set_option maxRecDepth 20000 in
theorem gX7_weight_X7_of : GoodIn wsX7_weight (wsV RX7 121 RX7 yX7_of wsX7_of) := goodIn_app (goodIn_of _ (by decide +kernel)) ggX7_weight_X7_of
theorem dX7_weight_0 : decode cX7_weight 0 = .ok (.aload_n 0, 1) := by decide +kernel
theorem dX7_weight_1 : decode cX7_weight 1 = .ok (.iconst 0, 1) := by decide +kernel
theorem dX7_weight_2 : decode cX7_weight 2 = .ok (.putfield 35, 3) := by decide +kernel
theorem dX7_weight_5 : decode cX7_weight 5 = .ok (.aload_n 0, 1) := by decide +kernel
theorem dX7_weight_6 : decode cX7_weight 6 = .ok (.iload_n 1, 1) := by decide +kernel
theorem dX7_weight_7 : decode cX7_weight 7 = .ok (.invokevirtual 118, 3) := by decide +kernel
theorem dX7_weight_10 : decode cX7_weight 10 = .ok (.ifCond .eq 12, 3) := by decide +kernel
theorem dX7_weight_13 : decode cX7_weight 13 = .ok (.aload_n 0, 1) := by decide +kernel
theorem dX7_weight_14 : decode cX7_weight 14 = .ok (.iload_n 1, 1) := by decide +kernel
theorem dX7_weight_15 : decode cX7_weight 15 = .ok (.iconst 5, 1) := by decide +kernel
theorem dX7_weight_16 : decode cX7_weight 16 = .ok (.invokevirtual 121, 3) := by decide +kernel
theorem dX7_weight_19 : decode cX7_weight 19 = .ok (.goto 4, 3) := by decide +kernel
theorem dX7_weight_22 : decode cX7_weight 22 = .ok (.iconst (-1), 1) := by decide +kernel
theorem dX7_weight_23 : decode cX7_weight 23 = .ok (.ireturn, 1) := by decide +kernel
set_option maxRecDepth 20000 in
theorem ggX7_violated_X7_in : GoodIn wsX7_violated wsX7_in := goodIn_r _ [5] (by decide +kernel) (by decide +kernel)
set_option maxRecDepth 20000 in
theorem gX7_violated_X7_in : GoodIn wsX7_violated (va_wsS RX7 59 yX7_in wsX7_in) := goodIn_app (goodIn_of _ (by decide +kernel)) ggX7_violated_X7_in
set_option maxRecDepth 20000 in
theorem ggX7_violated_X7_violatedBy : GoodIn wsX7_violated wsX7_violatedBy := goodIn_r _ [9, 10, 11, 12, 13, 4, 14, 15, 16, 17, 18, 19, 20, 21, 22, 23, 24, 25, 26, 27, 28, 29, 30, 31, 32, 33, 34, 35, 36, 37, 38] (by decide +kernel) (by decide +kernel)
set_option maxRecDepth 20000 in
theorem gX7_violated_X7_violatedBy : GoodIn wsX7_violated (wsV RX7 133 RX7 yX7_violatedBy wsX7_violatedBy) := goodIn_app (goodIn_of _ (by decide +kernel)) ggX7_violated_X7_violatedBy
theorem dX7_violated_0 : decode cX7_violated 0 = .ok (.aload_n 0, 1) := by decide +kernel
theorem dX7_violated_1 : decode cX7_violated 1 = .ok (.iconst 0, 1) := by decide +kernel
theorem dX7_violated_2 : decode cX7_violated 2 = .ok (.putfield 35, 3) := by decide +kernel
theorem dX7_violated_5 : decode cX7_violated 5 = .ok (.iload_n 1, 1) := by decide +kernel
theorem dX7_violated_6 : decode cX7_violated 6 = .ok (.iconst 0, 1) := by decide +kernel
theorem dX7_violated_7 : decode cX7_violated 7 = .ok (.bipush 63, 2) := by decide +kernel
theorem dX7_violated_9 : decode cX7_violated 9 = .ok (.invokestatic 59, 3) := by decide +kernel
theorem dX7_violated_12 : decode cX7_violated 12 = .ok (.ifCond .eq 11, 3) := by decide +kernel
theorem dX7_violated_15 : decode cX7_violated 15 = .ok (.aload_n 0, 1) := by decide +kernel
theorem dX7_violated_16 : decode cX7_violated 16 = .ok (.iload_n 1, 1) := by decide +kernel
theorem dX7_violated_17 : decode cX7_violated 17 = .ok (.invokevirtual 133, 3) := by decide +kernel
theorem dX7_violated_20 : decode cX7_violated 20 = .ok (.goto 4, 3) := by decide +kernel
theorem dX7_violated_23 : decode cX7_violated 23 = .ok (.iconst (-1), 1) := by decide +kernel
theorem dX7_violated_24 : decode cX7_violated 24 = .ok (.ireturn, 1) := by decide +kernel
set_option maxRecDepth 20000 in
theorem ggX7_modelCount_X7_isSelection : GoodIn wsX7_modelCount wsX7_isSelection := goodIn_r _ [8, 9, 10, 11, 7, 12, 13, 14, 15, 16, 17, 37, 38, 39, 40, 41, 42, 43, 44, 45, 46, 47, 48, 49, 50, 51, 52, 53] (by decide +kernel) (by decide +kernel)
set_option maxRecDepth 20000 in
theorem gX7_modelCount_X7_isSelection : GoodIn wsX7_modelCount (wsV RX7 172 RX7 yX7_isSelection wsX7_isSelection) := goodIn_app (goodIn_of _ (by decide +kernel)) ggX7_modelCount_X7_isSelection
set_option maxRecDepth 20000 in
theorem ggX7_modelCount_X7_prepare : GoodIn wsX7_modelCount wsX7_prepare := goodIn_r _ [21, 2, 3, 22, 23, 24, 7, 25, 13, 26, 27, 28, 29, 30, 31, 32, 14, 15, 16, 17, 33, 34, 35, 36, 9, 10, 11, 12, 37, 38, 39, 40, 41, 42, 43, 44, 45, 46, 47, 48, 49, 50, 51, 52, 53] (by decide +kernel) (by decide +kernel)
set_option maxRecDepth 20000 in
theorem gX7_modelCount_X7_prepare : GoodIn wsX7_modelCount (wsV RX7 160 RX7 yX7_prepare wsX7_prepare) := goodIn_app (goodIn_of _ (by decide +kernel)) ggX7_modelCount_X7_prepare
theorem dX7_modelCount_0 : decode cX7_modelCount 0 = .ok (.aload_n 0, 1) := by decide +kernel
theorem dX7_modelCount_1 : decode cX7_modelCount 1 = .ok (.iconst 0, 1) := by decide +kernel
theorem dX7_modelCount_2 : decode cX7_modelCount 2 = .ok (.putfield 35, 3) := by decide +kernel
theorem dX7_modelCount_5 : decode cX7_modelCount 5 = .ok (.aload_n 0, 1) := by decide +kernel
theorem dX7_modelCount_6 : decode cX7_modelCount 6 = .ok (.iload_n 1, 1) := by decide +kernel
theorem dX7_modelCount_7 : decode cX7_modelCount 7 = .ok (.invokevirtual 172, 3) := by decide +kernel
theorem dX7_modelCount_10 : decode cX7_modelCount 10 = .ok (.ifCond .ne 5, 3) := by decide +kernel
theorem dX7_modelCount_13 : decode cX7_modelCount 13 = .ok (.iconst (-1), 1) := by decide +kernel
theorem dX7_modelCount_14 : decode cX7_modelCount 14 = .ok (.ireturn, 1) := by decide +kernel
theorem dX7_modelCount_15 : decode cX7_modelCount 15 = .ok (.aload_n 0, 1) := by decide +kernel
theorem dX7_modelCount_16 : decode cX7_modelCount 16 = .ok (.invokevirtual 160, 3) := by decide +kernel
theorem dX7_modelCount_19 : decode cX7_modelCount 19 = .ok (.iconst 0, 1) := by decide +kernel
theorem dX7_modelCount_20 : decode cX7_modelCount 20 = .ok (.istore_n 2, 1) := by decide +kernel
theorem dX7_modelCount_21 : decode cX7_modelCount 21 = .ok (.iconst 0, 1) := by decide +kernel
theorem dX7_modelCount_22 : decode cX7_modelCount 22 = .ok (.istore_n 3, 1) := by decide +kernel
theorem dX7_modelCount_23 : decode cX7_modelCount 23 = .ok (.iload_n 3, 1) := by decide +kernel
theorem dX7_modelCount_24 : decode cX7_modelCount 24 = .ok (.bipush 64, 2) := by decide +kernel
theorem dX7_modelCount_26 : decode cX7_modelCount 26 = .ok (.if_icmp .ge 33, 3) := by decide +kernel
theorem dX7_modelCount_29 : decode cX7_modelCount 29 = .ok (.iload_n 2, 1) := by decide +kernel
theorem dX7_modelCount_30 : decode cX7_modelCount 30 = .ok (.aload_n 0, 1) := by decide +kernel
theorem dX7_modelCount_31 : decode cX7_modelCount 31 = .ok (.getfield 29, 3) := by decide +kernel
theorem dX7_modelCount_34 : decode cX7_modelCount 34 = .ok (.iload_n 3, 1) := by decide +kernel
theorem dX7_modelCount_35 : decode cX7_modelCount 35 = .ok (.iaload, 1) := by decide +kernel
theorem dX7_modelCount_36 : decode cX7_modelCount 36 = .ok (.iload_n 1, 1) := by decide +kernel
theorem dX7_modelCount_37 : decode cX7_modelCount 37 = .ok (.aload_n 0, 1) := by decide +kernel
theorem dX7_modelCount_38 : decode cX7_modelCount 38 = .ok (.getfield 139, 3) := by decide +kernel
theorem dX7_modelCount_41 : decode cX7_modelCount 41 = .ok (.ior, 1) := by decide +kernel
theorem dX7_modelCount_42 : decode cX7_modelCount 42 = .ok (.iand, 1) := by decide +kernel
theorem dX7_modelCount_43 : decode cX7_modelCount 43 = .ok (.ifCond .ne 7, 3) := by decide +kernel
theorem dX7_modelCount_46 : decode cX7_modelCount 46 = .ok (.iconst 1, 1) := by decide +kernel
theorem dX7_modelCount_47 : decode cX7_modelCount 47 = .ok (.goto 4, 3) := by decide +kernel
theorem dX7_modelCount_50 : decode cX7_modelCount 50 = .ok (.iconst 0, 1) := by decide +kernel
theorem dX7_modelCount_51 : decode cX7_modelCount 51 = .ok (.iadd, 1) := by decide +kernel
theorem dX7_modelCount_52 : decode cX7_modelCount 52 = .ok (.istore_n 2, 1) := by decide +kernel
theorem dX7_modelCount_53 : decode cX7_modelCount 53 = .ok (.iinc 3 1, 3) := by decide +kernel
theorem dX7_modelCount_56 : decode cX7_modelCount 56 = .ok (.goto (-33), 3) := by decide +kernel
theorem dX7_modelCount_59 : decode cX7_modelCount 59 = .ok (.iload_n 2, 1) := by decide +kernel
theorem dX7_modelCount_60 : decode cX7_modelCount 60 = .ok (.ireturn, 1) := by decide +kernel
set_option maxRecDepth 20000 in
theorem ggX7_firstModel_X7_isSelection : GoodIn wsX7_firstModel wsX7_isSelection := goodIn_r _ [6, 7, 8, 9, 5, 10, 11, 12, 13, 14, 15, 41, 42, 43, 44, 45, 46, 47, 48, 49, 50, 51, 52, 53, 54, 55, 56, 57] (by decide +kernel) (by decide +kernel)
set_option maxRecDepth 20000 in
theorem gX7_firstModel_X7_isSelection : GoodIn wsX7_firstModel (wsV RX7 172 RX7 yX7_isSelection wsX7_isSelection) := goodIn_app (goodIn_of _ (by decide +kernel)) ggX7_firstModel_X7_isSelection
set_option maxRecDepth 20000 in
theorem ggX7_firstModel_X7_prepare : GoodIn wsX7_firstModel wsX7_prepare := goodIn_r _ [19, 20, 21, 22, 23, 24, 5, 25, 11, 26, 27, 28, 29, 30, 31, 32, 12, 13, 14, 15, 33, 34, 35, 36, 7, 8, 9, 10, 41, 42, 43, 44, 45, 46, 47, 48, 49, 50, 51, 52, 53, 54, 55, 56, 57] (by decide +kernel) (by decide +kernel)
set_option maxRecDepth 20000 in
theorem gX7_firstModel_X7_prepare : GoodIn wsX7_firstModel (wsV RX7 160 RX7 yX7_prepare wsX7_prepare) := goodIn_app (goodIn_of _ (by decide +kernel)) ggX7_firstModel_X7_prepare
set_option maxRecDepth 20000 in
theorem ggX7_firstModel_X7_modelOf : GoodIn wsX7_firstModel wsX7_modelOf := goodIn_r _ [40, 20, 21, 41, 42, 43, 44, 45, 46, 47, 48, 49, 50, 51, 52, 53, 54, 55, 56, 57] (by decide +kernel) (by decide +kernel)
set_option maxRecDepth 20000 in
theorem gX7_firstModel_X7_modelOf : GoodIn wsX7_firstModel (wsV RX7 142 RX7 yX7_modelOf wsX7_modelOf) := goodIn_app (goodIn_of _ (by decide +kernel)) ggX7_firstModel_X7_modelOf
theorem dX7_firstModel_0 : decode cX7_firstModel 0 = .ok (.aload_n 0, 1) := by decide +kernel
theorem dX7_firstModel_1 : decode cX7_firstModel 1 = .ok (.iconst 0, 1) := by decide +kernel
theorem dX7_firstModel_2 : decode cX7_firstModel 2 = .ok (.putfield 35, 3) := by decide +kernel
theorem dX7_firstModel_5 : decode cX7_firstModel 5 = .ok (.aload_n 0, 1) := by decide +kernel
theorem dX7_firstModel_6 : decode cX7_firstModel 6 = .ok (.iload_n 1, 1) := by decide +kernel
theorem dX7_firstModel_7 : decode cX7_firstModel 7 = .ok (.invokevirtual 172, 3) := by decide +kernel
theorem dX7_firstModel_10 : decode cX7_firstModel 10 = .ok (.ifCond .ne 5, 3) := by decide +kernel
theorem dX7_firstModel_13 : decode cX7_firstModel 13 = .ok (.iconst (-1), 1) := by decide +kernel
theorem dX7_firstModel_14 : decode cX7_firstModel 14 = .ok (.ireturn, 1) := by decide +kernel
theorem dX7_firstModel_15 : decode cX7_firstModel 15 = .ok (.aload_n 0, 1) := by decide +kernel
theorem dX7_firstModel_16 : decode cX7_firstModel 16 = .ok (.invokevirtual 160, 3) := by decide +kernel
theorem dX7_firstModel_19 : decode cX7_firstModel 19 = .ok (.aload_n 0, 1) := by decide +kernel
theorem dX7_firstModel_20 : decode cX7_firstModel 20 = .ok (.iload_n 1, 1) := by decide +kernel
theorem dX7_firstModel_21 : decode cX7_firstModel 21 = .ok (.invokevirtual 142, 3) := by decide +kernel
theorem dX7_firstModel_24 : decode cX7_firstModel 24 = .ok (.ireturn, 1) := by decide +kernel
set_option maxRecDepth 20000 in
theorem ggX7_grown_X7_isSelection : GoodIn wsX7_grown wsX7_isSelection := goodIn_r _ [6, 7, 8, 9, 5, 10, 11, 12, 13, 14, 15, 49, 50, 51, 52, 53, 54, 55, 56, 57, 58, 59, 60, 61, 62, 63, 64, 65] (by decide +kernel) (by decide +kernel)
set_option maxRecDepth 20000 in
theorem gX7_grown_X7_isSelection : GoodIn wsX7_grown (wsV RX7 172 RX7 yX7_isSelection wsX7_isSelection) := goodIn_app (goodIn_of _ (by decide +kernel)) ggX7_grown_X7_isSelection
set_option maxRecDepth 20000 in
theorem ggX7_grown_X7_prepare : GoodIn wsX7_grown wsX7_prepare := goodIn_r _ [19, 20, 21, 22, 23, 24, 5, 25, 11, 26, 27, 28, 29, 30, 31, 32, 12, 13, 14, 15, 33, 34, 35, 36, 7, 8, 9, 10, 49, 50, 51, 52, 53, 54, 55, 56, 57, 58, 59, 60, 61, 62, 63, 64, 65] (by decide +kernel) (by decide +kernel)
set_option maxRecDepth 20000 in
theorem gX7_grown_X7_prepare : GoodIn wsX7_grown (wsV RX7 160 RX7 yX7_prepare wsX7_prepare) := goodIn_app (goodIn_of _ (by decide +kernel)) ggX7_grown_X7_prepare
set_option maxRecDepth 20000 in
theorem ggX7_grown_X7_isSatisfiable : GoodIn wsX7_grown wsX7_isSatisfiable := goodIn_r _ [40, 41, 42, 43, 5, 44, 20, 21, 49, 50, 51, 52, 53, 54, 55, 56, 57, 58, 59, 60, 61, 62, 63, 64, 65] (by decide +kernel) (by decide +kernel)
set_option maxRecDepth 20000 in
theorem gX7_grown_X7_isSatisfiable : GoodIn wsX7_grown (wsV RX7 145 RX7 yX7_isSatisfiable wsX7_isSatisfiable) := goodIn_app (goodIn_of _ (by decide +kernel)) ggX7_grown_X7_isSatisfiable
set_option maxRecDepth 20000 in
theorem ggX7_grown_X7_grow : GoodIn wsX7_grown wsX7_grow := goodIn_r _ [48, 11, 12, 13, 14, 5, 15, 30, 31, 32, 37, 38, 39, 40, 41, 42, 43, 44, 20, 21, 49, 50, 51, 52, 53, 54, 55, 56, 57, 58, 59, 60, 61, 62, 63, 64, 65] (by decide +kernel) (by decide +kernel)
set_option maxRecDepth 20000 in
theorem gX7_grown_X7_grow : GoodIn wsX7_grown (wsV RX7 154 RX7 yX7_grow wsX7_grow) := goodIn_app (goodIn_of _ (by decide +kernel)) ggX7_grown_X7_grow
theorem dX7_grown_0 : decode cX7_grown 0 = .ok (.aload_n 0, 1) := by decide +kernel
theorem dX7_grown_1 : decode cX7_grown 1 = .ok (.iconst 0, 1) := by decide +kernel
theorem dX7_grown_2 : decode cX7_grown 2 = .ok (.putfield 35, 3) := by decide +kernel
theorem dX7_grown_5 : decode cX7_grown 5 = .ok (.aload_n 0, 1) := by decide +kernel
theorem dX7_grown_6 : decode cX7_grown 6 = .ok (.iload_n 1, 1) := by decide +kernel
theorem dX7_grown_7 : decode cX7_grown 7 = .ok (.invokevirtual 172, 3) := by decide +kernel
theorem dX7_grown_10 : decode cX7_grown 10 = .ok (.ifCond .ne 5, 3) := by decide +kernel
theorem dX7_grown_13 : decode cX7_grown 13 = .ok (.iconst (-1), 1) := by decide +kernel
theorem dX7_grown_14 : decode cX7_grown 14 = .ok (.ireturn, 1) := by decide +kernel
theorem dX7_grown_15 : decode cX7_grown 15 = .ok (.aload_n 0, 1) := by decide +kernel
theorem dX7_grown_16 : decode cX7_grown 16 = .ok (.invokevirtual 160, 3) := by decide +kernel
theorem dX7_grown_19 : decode cX7_grown 19 = .ok (.aload_n 0, 1) := by decide +kernel
theorem dX7_grown_20 : decode cX7_grown 20 = .ok (.iload_n 1, 1) := by decide +kernel
theorem dX7_grown_21 : decode cX7_grown 21 = .ok (.invokevirtual 145, 3) := by decide +kernel
theorem dX7_grown_24 : decode cX7_grown 24 = .ok (.ifCond .eq 11, 3) := by decide +kernel
theorem dX7_grown_27 : decode cX7_grown 27 = .ok (.aload_n 0, 1) := by decide +kernel
theorem dX7_grown_28 : decode cX7_grown 28 = .ok (.iload_n 1, 1) := by decide +kernel
theorem dX7_grown_29 : decode cX7_grown 29 = .ok (.invokevirtual 154, 3) := by decide +kernel
theorem dX7_grown_32 : decode cX7_grown 32 = .ok (.goto 5, 3) := by decide +kernel
theorem dX7_grown_35 : decode cX7_grown 35 = .ok (.bipush (-2), 2) := by decide +kernel
theorem dX7_grown_37 : decode cX7_grown 37 = .ok (.ireturn, 1) := by decide +kernel
set_option maxRecDepth 20000 in
theorem ggX7_shrunk_X7_isSelection : GoodIn wsX7_shrunk wsX7_isSelection := goodIn_r _ [6, 7, 8, 9, 5, 10, 11, 12, 13, 14, 15, 49, 50, 51, 52, 53, 54, 55, 56, 57, 58, 59, 60, 61, 62, 63, 64, 65] (by decide +kernel) (by decide +kernel)
set_option maxRecDepth 20000 in
theorem gX7_shrunk_X7_isSelection : GoodIn wsX7_shrunk (wsV RX7 172 RX7 yX7_isSelection wsX7_isSelection) := goodIn_app (goodIn_of _ (by decide +kernel)) ggX7_shrunk_X7_isSelection
set_option maxRecDepth 20000 in
theorem ggX7_shrunk_X7_prepare : GoodIn wsX7_shrunk wsX7_prepare := goodIn_r _ [19, 20, 21, 22, 23, 24, 5, 25, 11, 26, 27, 28, 29, 30, 31, 32, 12, 13, 14, 15, 33, 34, 35, 36, 7, 8, 9, 10, 49, 50, 51, 52, 53, 54, 55, 56, 57, 58, 59, 60, 61, 62, 63, 64, 65] (by decide +kernel) (by decide +kernel)
set_option maxRecDepth 20000 in
theorem gX7_shrunk_X7_prepare : GoodIn wsX7_shrunk (wsV RX7 160 RX7 yX7_prepare wsX7_prepare) := goodIn_app (goodIn_of _ (by decide +kernel)) ggX7_shrunk_X7_prepare
set_option maxRecDepth 20000 in
theorem ggX7_shrunk_X7_isSatisfiable : GoodIn wsX7_shrunk wsX7_isSatisfiable := goodIn_r _ [40, 41, 42, 43, 5, 44, 20, 21, 49, 50, 51, 52, 53, 54, 55, 56, 57, 58, 59, 60, 61, 62, 63, 64, 65] (by decide +kernel) (by decide +kernel)
set_option maxRecDepth 20000 in
theorem gX7_shrunk_X7_isSatisfiable : GoodIn wsX7_shrunk (wsV RX7 145 RX7 yX7_isSatisfiable wsX7_isSatisfiable) := goodIn_app (goodIn_of _ (by decide +kernel)) ggX7_shrunk_X7_isSatisfiable
set_option maxRecDepth 20000 in
theorem ggX7_shrunk_X7_shrink : GoodIn wsX7_shrunk wsX7_shrink := goodIn_r _ [48, 11, 30, 31, 5, 32, 37, 38, 39, 40, 41, 42, 43, 44, 20, 21, 49, 50, 51, 52, 53, 54, 55, 56, 57, 58, 59, 60, 61, 62, 63, 64, 65] (by decide +kernel) (by decide +kernel)
set_option maxRecDepth 20000 in
theorem gX7_shrunk_X7_shrink : GoodIn wsX7_shrunk (wsV RX7 157 RX7 yX7_shrink wsX7_shrink) := goodIn_app (goodIn_of _ (by decide +kernel)) ggX7_shrunk_X7_shrink
theorem dX7_shrunk_0 : decode cX7_shrunk 0 = .ok (.aload_n 0, 1) := by decide +kernel
theorem dX7_shrunk_1 : decode cX7_shrunk 1 = .ok (.iconst 0, 1) := by decide +kernel
theorem dX7_shrunk_2 : decode cX7_shrunk 2 = .ok (.putfield 35, 3) := by decide +kernel
theorem dX7_shrunk_5 : decode cX7_shrunk 5 = .ok (.aload_n 0, 1) := by decide +kernel
theorem dX7_shrunk_6 : decode cX7_shrunk 6 = .ok (.iload_n 1, 1) := by decide +kernel
theorem dX7_shrunk_7 : decode cX7_shrunk 7 = .ok (.invokevirtual 172, 3) := by decide +kernel
theorem dX7_shrunk_10 : decode cX7_shrunk 10 = .ok (.ifCond .ne 5, 3) := by decide +kernel
theorem dX7_shrunk_13 : decode cX7_shrunk 13 = .ok (.iconst (-1), 1) := by decide +kernel
theorem dX7_shrunk_14 : decode cX7_shrunk 14 = .ok (.ireturn, 1) := by decide +kernel
theorem dX7_shrunk_15 : decode cX7_shrunk 15 = .ok (.aload_n 0, 1) := by decide +kernel
theorem dX7_shrunk_16 : decode cX7_shrunk 16 = .ok (.invokevirtual 160, 3) := by decide +kernel
theorem dX7_shrunk_19 : decode cX7_shrunk 19 = .ok (.aload_n 0, 1) := by decide +kernel
theorem dX7_shrunk_20 : decode cX7_shrunk 20 = .ok (.iload_n 1, 1) := by decide +kernel
theorem dX7_shrunk_21 : decode cX7_shrunk 21 = .ok (.invokevirtual 145, 3) := by decide +kernel
theorem dX7_shrunk_24 : decode cX7_shrunk 24 = .ok (.ifCond .eq 8, 3) := by decide +kernel
theorem dX7_shrunk_27 : decode cX7_shrunk 27 = .ok (.bipush (-2), 2) := by decide +kernel
theorem dX7_shrunk_29 : decode cX7_shrunk 29 = .ok (.goto 8, 3) := by decide +kernel
theorem dX7_shrunk_32 : decode cX7_shrunk 32 = .ok (.aload_n 0, 1) := by decide +kernel
theorem dX7_shrunk_33 : decode cX7_shrunk 33 = .ok (.iload_n 1, 1) := by decide +kernel
theorem dX7_shrunk_34 : decode cX7_shrunk 34 = .ok (.invokevirtual 157, 3) := by decide +kernel
theorem dX7_shrunk_37 : decode cX7_shrunk 37 = .ok (.ireturn, 1) := by decide +kernel
set_option maxRecDepth 20000 in
theorem ggX7_critical_X7_isSelection : GoodIn wsX7_critical wsX7_isSelection := goodIn_r _ [7, 8, 9, 10, 6, 11, 2, 12, 13, 14, 15, 45, 46, 47, 48, 49, 50, 51, 52, 53, 54, 55, 56, 57, 58, 59, 60, 61] (by decide +kernel) (by decide +kernel)
set_option maxRecDepth 20000 in
theorem gX7_critical_X7_isSelection : GoodIn wsX7_critical (wsV RX7 172 RX7 yX7_isSelection wsX7_isSelection) := goodIn_app (goodIn_of _ (by decide +kernel)) ggX7_critical_X7_isSelection
set_option maxRecDepth 20000 in
theorem ggX7_critical_X7_prepare : GoodIn wsX7_critical wsX7_prepare := goodIn_r _ [19, 20, 21, 22, 23, 24, 6, 25, 2, 26, 27, 28, 29, 30, 31, 32, 12, 13, 14, 15, 33, 34, 35, 36, 8, 9, 10, 11, 45, 46, 47, 48, 49, 50, 51, 52, 53, 54, 55, 56, 57, 58, 59, 60, 61] (by decide +kernel) (by decide +kernel)
set_option maxRecDepth 20000 in
theorem gX7_critical_X7_prepare : GoodIn wsX7_critical (wsV RX7 160 RX7 yX7_prepare wsX7_prepare) := goodIn_app (goodIn_of _ (by decide +kernel)) ggX7_critical_X7_prepare
set_option maxRecDepth 20000 in
theorem ggX7_critical_X7_isSatisfiable : GoodIn wsX7_critical wsX7_isSatisfiable := goodIn_r _ [40, 41, 42, 43, 6, 44, 20, 21, 45, 46, 47, 48, 49, 50, 51, 52, 53, 54, 55, 56, 57, 58, 59, 60, 61] (by decide +kernel) (by decide +kernel)
set_option maxRecDepth 20000 in
theorem gX7_critical_X7_isSatisfiable : GoodIn wsX7_critical (wsV RX7 145 RX7 yX7_isSatisfiable wsX7_isSatisfiable) := goodIn_app (goodIn_of _ (by decide +kernel)) ggX7_critical_X7_isSatisfiable
set_option maxRecDepth 20000 in
theorem ggX7_critical_X7_has : GoodIn wsX7_critical wsX7_has := goodIn_r _ [32] (by decide +kernel) (by decide +kernel)
set_option maxRecDepth 20000 in
theorem gX7_critical_X7_has : GoodIn wsX7_critical (va_wsS RX7 96 yX7_has wsX7_has) := goodIn_app (goodIn_of _ (by decide +kernel)) ggX7_critical_X7_has
theorem dX7_critical_0 : decode cX7_critical 0 = .ok (.aload_n 0, 1) := by decide +kernel
theorem dX7_critical_1 : decode cX7_critical 1 = .ok (.iconst 0, 1) := by decide +kernel
theorem dX7_critical_2 : decode cX7_critical 2 = .ok (.putfield 35, 3) := by decide +kernel
theorem dX7_critical_5 : decode cX7_critical 5 = .ok (.aload_n 0, 1) := by decide +kernel
theorem dX7_critical_6 : decode cX7_critical 6 = .ok (.iload_n 1, 1) := by decide +kernel
theorem dX7_critical_7 : decode cX7_critical 7 = .ok (.invokevirtual 172, 3) := by decide +kernel
theorem dX7_critical_10 : decode cX7_critical 10 = .ok (.ifCond .ne 5, 3) := by decide +kernel
theorem dX7_critical_13 : decode cX7_critical 13 = .ok (.iconst (-1), 1) := by decide +kernel
theorem dX7_critical_14 : decode cX7_critical 14 = .ok (.ireturn, 1) := by decide +kernel
theorem dX7_critical_15 : decode cX7_critical 15 = .ok (.aload_n 0, 1) := by decide +kernel
theorem dX7_critical_16 : decode cX7_critical 16 = .ok (.invokevirtual 160, 3) := by decide +kernel
theorem dX7_critical_19 : decode cX7_critical 19 = .ok (.aload_n 0, 1) := by decide +kernel
theorem dX7_critical_20 : decode cX7_critical 20 = .ok (.iload_n 1, 1) := by decide +kernel
theorem dX7_critical_21 : decode cX7_critical 21 = .ok (.invokevirtual 145, 3) := by decide +kernel
theorem dX7_critical_24 : decode cX7_critical 24 = .ok (.ifCond .eq 6, 3) := by decide +kernel
theorem dX7_critical_27 : decode cX7_critical 27 = .ok (.bipush (-2), 2) := by decide +kernel
theorem dX7_critical_29 : decode cX7_critical 29 = .ok (.ireturn, 1) := by decide +kernel
theorem dX7_critical_30 : decode cX7_critical 30 = .ok (.iconst 0, 1) := by decide +kernel
theorem dX7_critical_31 : decode cX7_critical 31 = .ok (.istore_n 2, 1) := by decide +kernel
theorem dX7_critical_32 : decode cX7_critical 32 = .ok (.iconst 0, 1) := by decide +kernel
theorem dX7_critical_33 : decode cX7_critical 33 = .ok (.istore_n 3, 1) := by decide +kernel
theorem dX7_critical_34 : decode cX7_critical 34 = .ok (.iload_n 3, 1) := by decide +kernel
theorem dX7_critical_35 : decode cX7_critical 35 = .ok (.aload_n 0, 1) := by decide +kernel
theorem dX7_critical_36 : decode cX7_critical 36 = .ok (.getfield 7, 3) := by decide +kernel
theorem dX7_critical_39 : decode cX7_critical 39 = .ok (.iconst 0, 1) := by decide +kernel
theorem dX7_critical_40 : decode cX7_critical 40 = .ok (.iaload, 1) := by decide +kernel
theorem dX7_critical_41 : decode cX7_critical 41 = .ok (.if_icmp .ge 41, 3) := by decide +kernel
theorem dX7_critical_44 : decode cX7_critical 44 = .ok (.iload_n 2, 1) := by decide +kernel
theorem dX7_critical_45 : decode cX7_critical 45 = .ok (.iload_n 1, 1) := by decide +kernel
theorem dX7_critical_46 : decode cX7_critical 46 = .ok (.iload_n 3, 1) := by decide +kernel
theorem dX7_critical_47 : decode cX7_critical 47 = .ok (.invokestatic 96, 3) := by decide +kernel
theorem dX7_critical_50 : decode cX7_critical 50 = .ok (.ifCond .eq 23, 3) := by decide +kernel
theorem dX7_critical_53 : decode cX7_critical 53 = .ok (.aload_n 0, 1) := by decide +kernel
theorem dX7_critical_54 : decode cX7_critical 54 = .ok (.iload_n 1, 1) := by decide +kernel
theorem dX7_critical_55 : decode cX7_critical 55 = .ok (.iconst 1, 1) := by decide +kernel
theorem dX7_critical_56 : decode cX7_critical 56 = .ok (.iload_n 3, 1) := by decide +kernel
theorem dX7_critical_57 : decode cX7_critical 57 = .ok (.ishl, 1) := by decide +kernel
theorem dX7_critical_58 : decode cX7_critical 58 = .ok (.iconst (-1), 1) := by decide +kernel
theorem dX7_critical_59 : decode cX7_critical 59 = .ok (.ixor, 1) := by decide +kernel
theorem dX7_critical_60 : decode cX7_critical 60 = .ok (.iand, 1) := by decide +kernel
theorem dX7_critical_61 : decode cX7_critical 61 = .ok (.invokevirtual 145, 3) := by decide +kernel
theorem dX7_critical_64 : decode cX7_critical 64 = .ok (.ifCond .eq 9, 3) := by decide +kernel
theorem dX7_critical_67 : decode cX7_critical 67 = .ok (.iconst 1, 1) := by decide +kernel
theorem dX7_critical_68 : decode cX7_critical 68 = .ok (.iload_n 3, 1) := by decide +kernel
theorem dX7_critical_69 : decode cX7_critical 69 = .ok (.ishl, 1) := by decide +kernel
theorem dX7_critical_70 : decode cX7_critical 70 = .ok (.goto 4, 3) := by decide +kernel
theorem dX7_critical_73 : decode cX7_critical 73 = .ok (.iconst 0, 1) := by decide +kernel
theorem dX7_critical_74 : decode cX7_critical 74 = .ok (.ior, 1) := by decide +kernel
theorem dX7_critical_75 : decode cX7_critical 75 = .ok (.istore_n 2, 1) := by decide +kernel
theorem dX7_critical_76 : decode cX7_critical 76 = .ok (.iinc 3 1, 3) := by decide +kernel
theorem dX7_critical_79 : decode cX7_critical 79 = .ok (.goto (-45), 3) := by decide +kernel
theorem dX7_critical_82 : decode cX7_critical 82 = .ok (.iload_n 2, 1) := by decide +kernel
theorem dX7_critical_83 : decode cX7_critical 83 = .ok (.ireturn, 1) := by decide +kernel
set_option maxRecDepth 20000 in
theorem ggX7_weightOf_X7_has : GoodIn wsX7_weightOf wsX7_has := goodIn_r _ [5] (by decide +kernel) (by decide +kernel)
set_option maxRecDepth 20000 in
theorem gX7_weightOf_X7_has : GoodIn wsX7_weightOf (va_wsS RX7 96 yX7_has wsX7_has) := goodIn_app (goodIn_of _ (by decide +kernel)) ggX7_weightOf_X7_has
set_option maxRecDepth 20000 in
theorem ggX7_weightOf_X7_of : GoodIn wsX7_weightOf wsX7_of := goodIn_r _ [9, 1, 10, 11, 12, 13, 14, 15, 16, 17, 18, 19, 20, 21, 22, 23, 24, 25, 26] (by decide +kernel) (by decide +kernel)
set_option maxRecDepth 20000 in
theorem gX7_weightOf_X7_of : GoodIn wsX7_weightOf (wsV RX7 121 RX7 yX7_of wsX7_of) := goodIn_app (goodIn_of _ (by decide +kernel)) ggX7_weightOf_X7_of
theorem dX7_weightOf_0 : decode cX7_weightOf 0 = .ok (.iconst 0, 1) := by decide +kernel
theorem dX7_weightOf_1 : decode cX7_weightOf 1 = .ok (.istore_n 2, 1) := by decide +kernel
theorem dX7_weightOf_2 : decode cX7_weightOf 2 = .ok (.iconst 0, 1) := by decide +kernel
theorem dX7_weightOf_3 : decode cX7_weightOf 3 = .ok (.istore_n 3, 1) := by decide +kernel
theorem dX7_weightOf_4 : decode cX7_weightOf 4 = .ok (.iload_n 3, 1) := by decide +kernel
theorem dX7_weightOf_5 : decode cX7_weightOf 5 = .ok (.aload_n 0, 1) := by decide +kernel
theorem dX7_weightOf_6 : decode cX7_weightOf 6 = .ok (.getfield 7, 3) := by decide +kernel
theorem dX7_weightOf_9 : decode cX7_weightOf 9 = .ok (.iconst 0, 1) := by decide +kernel
theorem dX7_weightOf_10 : decode cX7_weightOf 10 = .ok (.iaload, 1) := by decide +kernel
theorem dX7_weightOf_11 : decode cX7_weightOf 11 = .ok (.if_icmp .ge 30, 3) := by decide +kernel
theorem dX7_weightOf_14 : decode cX7_weightOf 14 = .ok (.iload_n 2, 1) := by decide +kernel
theorem dX7_weightOf_15 : decode cX7_weightOf 15 = .ok (.iload_n 1, 1) := by decide +kernel
theorem dX7_weightOf_16 : decode cX7_weightOf 16 = .ok (.iload_n 3, 1) := by decide +kernel
theorem dX7_weightOf_17 : decode cX7_weightOf 17 = .ok (.invokestatic 96, 3) := by decide +kernel
theorem dX7_weightOf_20 : decode cX7_weightOf 20 = .ok (.ifCond .eq 12, 3) := by decide +kernel
theorem dX7_weightOf_23 : decode cX7_weightOf 23 = .ok (.aload_n 0, 1) := by decide +kernel
theorem dX7_weightOf_24 : decode cX7_weightOf 24 = .ok (.iload_n 3, 1) := by decide +kernel
theorem dX7_weightOf_25 : decode cX7_weightOf 25 = .ok (.iconst 5, 1) := by decide +kernel
theorem dX7_weightOf_26 : decode cX7_weightOf 26 = .ok (.invokevirtual 121, 3) := by decide +kernel
theorem dX7_weightOf_29 : decode cX7_weightOf 29 = .ok (.goto 4, 3) := by decide +kernel
theorem dX7_weightOf_32 : decode cX7_weightOf 32 = .ok (.iconst 0, 1) := by decide +kernel
theorem dX7_weightOf_33 : decode cX7_weightOf 33 = .ok (.iadd, 1) := by decide +kernel
theorem dX7_weightOf_34 : decode cX7_weightOf 34 = .ok (.istore_n 2, 1) := by decide +kernel
theorem dX7_weightOf_35 : decode cX7_weightOf 35 = .ok (.iinc 3 1, 3) := by decide +kernel
theorem dX7_weightOf_38 : decode cX7_weightOf 38 = .ok (.goto (-34), 3) := by decide +kernel
theorem dX7_weightOf_41 : decode cX7_weightOf 41 = .ok (.iload_n 2, 1) := by decide +kernel
theorem dX7_weightOf_42 : decode cX7_weightOf 42 = .ok (.ireturn, 1) := by decide +kernel
theorem dX7_hitsAll_0 : decode cX7_hitsAll 0 = .ok (.iconst 1, 1) := by decide +kernel
theorem dX7_hitsAll_1 : decode cX7_hitsAll 1 = .ok (.istore_n 2, 1) := by decide +kernel
theorem dX7_hitsAll_2 : decode cX7_hitsAll 2 = .ok (.iconst 0, 1) := by decide +kernel
theorem dX7_hitsAll_3 : decode cX7_hitsAll 3 = .ok (.istore_n 3, 1) := by decide +kernel
theorem dX7_hitsAll_4 : decode cX7_hitsAll 4 = .ok (.iload_n 3, 1) := by decide +kernel
theorem dX7_hitsAll_5 : decode cX7_hitsAll 5 = .ok (.aload_n 0, 1) := by decide +kernel
theorem dX7_hitsAll_6 : decode cX7_hitsAll 6 = .ok (.getfield 7, 3) := by decide +kernel
theorem dX7_hitsAll_9 : decode cX7_hitsAll 9 = .ok (.iconst 2, 1) := by decide +kernel
theorem dX7_hitsAll_10 : decode cX7_hitsAll 10 = .ok (.iaload, 1) := by decide +kernel
theorem dX7_hitsAll_11 : decode cX7_hitsAll 11 = .ok (.if_icmp .ge 33, 3) := by decide +kernel
theorem dX7_hitsAll_14 : decode cX7_hitsAll 14 = .ok (.iload_n 2, 1) := by decide +kernel
theorem dX7_hitsAll_15 : decode cX7_hitsAll 15 = .ok (.ifCond .eq 29, 3) := by decide +kernel
theorem dX7_hitsAll_18 : decode cX7_hitsAll 18 = .ok (.iload_n 1, 1) := by decide +kernel
theorem dX7_hitsAll_19 : decode cX7_hitsAll 19 = .ok (.aload_n 0, 1) := by decide +kernel
theorem dX7_hitsAll_20 : decode cX7_hitsAll 20 = .ok (.getfield 7, 3) := by decide +kernel
theorem dX7_hitsAll_23 : decode cX7_hitsAll 23 = .ok (.bipush 64, 2) := by decide +kernel
theorem dX7_hitsAll_25 : decode cX7_hitsAll 25 = .ok (.iload_n 3, 1) := by decide +kernel
theorem dX7_hitsAll_26 : decode cX7_hitsAll 26 = .ok (.iadd, 1) := by decide +kernel
theorem dX7_hitsAll_27 : decode cX7_hitsAll 27 = .ok (.iaload, 1) := by decide +kernel
theorem dX7_hitsAll_28 : decode cX7_hitsAll 28 = .ok (.iand, 1) := by decide +kernel
theorem dX7_hitsAll_29 : decode cX7_hitsAll 29 = .ok (.ifCond .eq 7, 3) := by decide +kernel
theorem dX7_hitsAll_32 : decode cX7_hitsAll 32 = .ok (.iconst 1, 1) := by decide +kernel
theorem dX7_hitsAll_33 : decode cX7_hitsAll 33 = .ok (.goto 4, 3) := by decide +kernel
theorem dX7_hitsAll_36 : decode cX7_hitsAll 36 = .ok (.iconst 0, 1) := by decide +kernel
theorem dX7_hitsAll_37 : decode cX7_hitsAll 37 = .ok (.istore_n 2, 1) := by decide +kernel
theorem dX7_hitsAll_38 : decode cX7_hitsAll 38 = .ok (.iinc 3 1, 3) := by decide +kernel
theorem dX7_hitsAll_41 : decode cX7_hitsAll 41 = .ok (.goto (-37), 3) := by decide +kernel
theorem dX7_hitsAll_44 : decode cX7_hitsAll 44 = .ok (.iload_n 2, 1) := by decide +kernel
theorem dX7_hitsAll_45 : decode cX7_hitsAll 45 = .ok (.ireturn, 1) := by decide +kernel
set_option maxRecDepth 20000 in
theorem ggX7_hittingSet_X7_softSet : GoodIn wsX7_hittingSet wsX7_softSet := goodIn_r _ [5, 6, 7, 8, 9, 4, 10, 25, 26, 27, 28, 29, 30, 31, 32, 33, 34, 35, 36, 37, 38, 39, 40, 41] (by decide +kernel) (by decide +kernel)
set_option maxRecDepth 20000 in
theorem gX7_hittingSet_X7_softSet : GoodIn wsX7_hittingSet (wsV RX7 124 RX7 yX7_softSet wsX7_softSet) := goodIn_app (goodIn_of _ (by decide +kernel)) ggX7_hittingSet_X7_softSet
set_option maxRecDepth 20000 in
theorem ggX7_hittingSet_X7_weightOf : GoodIn wsX7_hittingSet wsX7_weightOf := goodIn_r _ [14, 6, 15, 16, 4, 17, 7, 8, 9, 10, 25, 26, 27, 28, 29, 30, 31, 32, 33, 34, 35, 36, 37, 38, 39, 40, 41] (by decide +kernel) (by decide +kernel)
set_option maxRecDepth 20000 in
theorem gX7_hittingSet_X7_weightOf : GoodIn wsX7_hittingSet (wsV RX7 175 RX7 yX7_weightOf wsX7_weightOf) := goodIn_app (goodIn_of _ (by decide +kernel)) ggX7_hittingSet_X7_weightOf
set_option maxRecDepth 20000 in
theorem ggX7_hittingSet_X7_bitCount : GoodIn wsX7_hittingSet wsX7_bitCount := goodIn_r _ [20] (by decide +kernel) (by decide +kernel)
set_option maxRecDepth 20000 in
theorem gX7_hittingSet_X7_bitCount : GoodIn wsX7_hittingSet (va_wsS RX7 127 yX7_bitCount wsX7_bitCount) := goodIn_app (goodIn_of _ (by decide +kernel)) ggX7_hittingSet_X7_bitCount
set_option maxRecDepth 20000 in
theorem ggX7_hittingSet_X7_hitsAll : GoodIn wsX7_hittingSet wsX7_hitsAll := goodIn_r _ [24, 6, 25, 26, 27, 28, 29, 30, 31, 32, 33, 34, 35, 36, 37, 38, 39, 40, 41] (by decide +kernel) (by decide +kernel)
set_option maxRecDepth 20000 in
theorem gX7_hittingSet_X7_hitsAll : GoodIn wsX7_hittingSet (wsV RX7 178 RX7 yX7_hitsAll wsX7_hitsAll) := goodIn_app (goodIn_of _ (by decide +kernel)) ggX7_hittingSet_X7_hitsAll
theorem dX7_hittingSet_0 : decode cX7_hittingSet 0 = .ok (.aload_n 0, 1) := by decide +kernel
theorem dX7_hittingSet_1 : decode cX7_hittingSet 1 = .ok (.invokevirtual 124, 3) := by decide +kernel
theorem dX7_hittingSet_4 : decode cX7_hittingSet 4 = .ok (.istore_n 2, 1) := by decide +kernel
theorem dX7_hittingSet_5 : decode cX7_hittingSet 5 = .ok (.bipush (-9), 2) := by decide +kernel
theorem dX7_hittingSet_7 : decode cX7_hittingSet 7 = .ok (.istore_n 3, 1) := by decide +kernel
theorem dX7_hittingSet_8 : decode cX7_hittingSet 8 = .ok (.iconst 0, 1) := by decide +kernel
theorem dX7_hittingSet_9 : decode cX7_hittingSet 9 = .ok (.istore 4, 2) := by decide +kernel
theorem dX7_hittingSet_11 : decode cX7_hittingSet 11 = .ok (.iconst 0, 1) := by decide +kernel
theorem dX7_hittingSet_12 : decode cX7_hittingSet 12 = .ok (.istore 5, 2) := by decide +kernel
theorem dX7_hittingSet_14 : decode cX7_hittingSet 14 = .ok (.iload 5, 2) := by decide +kernel
theorem dX7_hittingSet_16 : decode cX7_hittingSet 16 = .ok (.sipush 1024, 3) := by decide +kernel
theorem dX7_hittingSet_19 : decode cX7_hittingSet 19 = .ok (.if_icmp .ge 67, 3) := by decide +kernel
theorem dX7_hittingSet_22 : decode cX7_hittingSet 22 = .ok (.iload_n 1, 1) := by decide +kernel
theorem dX7_hittingSet_23 : decode cX7_hittingSet 23 = .ok (.ifCond .eq 12, 3) := by decide +kernel
theorem dX7_hittingSet_26 : decode cX7_hittingSet 26 = .ok (.aload_n 0, 1) := by decide +kernel
theorem dX7_hittingSet_27 : decode cX7_hittingSet 27 = .ok (.iload 5, 2) := by decide +kernel
theorem dX7_hittingSet_29 : decode cX7_hittingSet 29 = .ok (.invokevirtual 175, 3) := by decide +kernel
theorem dX7_hittingSet_32 : decode cX7_hittingSet 32 = .ok (.goto 8, 3) := by decide +kernel
theorem dX7_hittingSet_35 : decode cX7_hittingSet 35 = .ok (.iload 5, 2) := by decide +kernel
theorem dX7_hittingSet_37 : decode cX7_hittingSet 37 = .ok (.invokestatic 127, 3) := by decide +kernel
theorem dX7_hittingSet_40 : decode cX7_hittingSet 40 = .ok (.istore 6, 2) := by decide +kernel
theorem dX7_hittingSet_42 : decode cX7_hittingSet 42 = .ok (.iload 5, 2) := by decide +kernel
theorem dX7_hittingSet_44 : decode cX7_hittingSet 44 = .ok (.iload_n 2, 1) := by decide +kernel
theorem dX7_hittingSet_45 : decode cX7_hittingSet 45 = .ok (.iconst (-1), 1) := by decide +kernel
theorem dX7_hittingSet_46 : decode cX7_hittingSet 46 = .ok (.ixor, 1) := by decide +kernel
theorem dX7_hittingSet_47 : decode cX7_hittingSet 47 = .ok (.iand, 1) := by decide +kernel
theorem dX7_hittingSet_48 : decode cX7_hittingSet 48 = .ok (.ifCond .ne 32, 3) := by decide +kernel
theorem dX7_hittingSet_51 : decode cX7_hittingSet 51 = .ok (.iload_n 3, 1) := by decide +kernel
theorem dX7_hittingSet_52 : decode cX7_hittingSet 52 = .ok (.bipush (-9), 2) := by decide +kernel
theorem dX7_hittingSet_54 : decode cX7_hittingSet 54 = .ok (.if_icmp .eq 10, 3) := by decide +kernel
theorem dX7_hittingSet_57 : decode cX7_hittingSet 57 = .ok (.iload 6, 2) := by decide +kernel
theorem dX7_hittingSet_59 : decode cX7_hittingSet 59 = .ok (.iload 4, 2) := by decide +kernel
theorem dX7_hittingSet_61 : decode cX7_hittingSet 61 = .ok (.if_icmp .ge 19, 3) := by decide +kernel
theorem dX7_hittingSet_64 : decode cX7_hittingSet 64 = .ok (.aload_n 0, 1) := by decide +kernel
theorem dX7_hittingSet_65 : decode cX7_hittingSet 65 = .ok (.iload 5, 2) := by decide +kernel
theorem dX7_hittingSet_67 : decode cX7_hittingSet 67 = .ok (.invokevirtual 178, 3) := by decide +kernel
theorem dX7_hittingSet_70 : decode cX7_hittingSet 70 = .ok (.ifCond .eq 10, 3) := by decide +kernel
theorem dX7_hittingSet_73 : decode cX7_hittingSet 73 = .ok (.iload 5, 2) := by decide +kernel
theorem dX7_hittingSet_75 : decode cX7_hittingSet 75 = .ok (.istore_n 3, 1) := by decide +kernel
theorem dX7_hittingSet_76 : decode cX7_hittingSet 76 = .ok (.iload 6, 2) := by decide +kernel
theorem dX7_hittingSet_78 : decode cX7_hittingSet 78 = .ok (.istore 4, 2) := by decide +kernel
theorem dX7_hittingSet_80 : decode cX7_hittingSet 80 = .ok (.iinc 5 1, 3) := by decide +kernel
theorem dX7_hittingSet_83 : decode cX7_hittingSet 83 = .ok (.goto (-69), 3) := by decide +kernel
theorem dX7_hittingSet_86 : decode cX7_hittingSet 86 = .ok (.iload_n 3, 1) := by decide +kernel
theorem dX7_hittingSet_87 : decode cX7_hittingSet 87 = .ok (.ireturn, 1) := by decide +kernel
set_option maxRecDepth 20000 in
theorem ggX7_smallestHittingSet_X7_hittingSet : GoodIn wsX7_smallestHittingSet wsX7_hittingSet := goodIn_r _ [6, 7, 8, 9, 5, 10, 11, 12, 13, 14, 15, 16, 17, 18, 19, 20, 21, 22, 23, 24, 25, 26, 27, 28, 29, 30, 31, 32, 33, 34, 35, 36, 37, 38, 39, 40, 41, 42, 43, 44, 45, 46] (by decide +kernel) (by decide +kernel)
set_option maxRecDepth 20000 in
theorem gX7_smallestHittingSet_X7_hittingSet : GoodIn wsX7_smallestHittingSet (wsV RX7 181 RX7 yX7_hittingSet wsX7_hittingSet) := goodIn_app (goodIn_of _ (by decide +kernel)) ggX7_smallestHittingSet_X7_hittingSet
theorem dX7_smallestHittingSet_0 : decode cX7_smallestHittingSet 0 = .ok (.aload_n 0, 1) := by decide +kernel
theorem dX7_smallestHittingSet_1 : decode cX7_smallestHittingSet 1 = .ok (.iconst 0, 1) := by decide +kernel
theorem dX7_smallestHittingSet_2 : decode cX7_smallestHittingSet 2 = .ok (.putfield 35, 3) := by decide +kernel
theorem dX7_smallestHittingSet_5 : decode cX7_smallestHittingSet 5 = .ok (.aload_n 0, 1) := by decide +kernel
theorem dX7_smallestHittingSet_6 : decode cX7_smallestHittingSet 6 = .ok (.iconst 0, 1) := by decide +kernel
theorem dX7_smallestHittingSet_7 : decode cX7_smallestHittingSet 7 = .ok (.invokevirtual 181, 3) := by decide +kernel
theorem dX7_smallestHittingSet_10 : decode cX7_smallestHittingSet 10 = .ok (.ireturn, 1) := by decide +kernel
set_option maxRecDepth 20000 in
theorem ggX7_cheapestHittingSet_X7_hittingSet : GoodIn wsX7_cheapestHittingSet wsX7_hittingSet := goodIn_r _ [6, 7, 8, 9, 5, 10, 11, 12, 13, 14, 15, 16, 17, 18, 19, 20, 21, 22, 23, 24, 25, 26, 27, 28, 29, 30, 31, 32, 33, 34, 35, 36, 37, 38, 39, 40, 41, 42, 43, 44, 45, 46] (by decide +kernel) (by decide +kernel)
set_option maxRecDepth 20000 in
theorem gX7_cheapestHittingSet_X7_hittingSet : GoodIn wsX7_cheapestHittingSet (wsV RX7 181 RX7 yX7_hittingSet wsX7_hittingSet) := goodIn_app (goodIn_of _ (by decide +kernel)) ggX7_cheapestHittingSet_X7_hittingSet
theorem dX7_cheapestHittingSet_0 : decode cX7_cheapestHittingSet 0 = .ok (.aload_n 0, 1) := by decide +kernel
theorem dX7_cheapestHittingSet_1 : decode cX7_cheapestHittingSet 1 = .ok (.iconst 0, 1) := by decide +kernel
theorem dX7_cheapestHittingSet_2 : decode cX7_cheapestHittingSet 2 = .ok (.putfield 35, 3) := by decide +kernel
theorem dX7_cheapestHittingSet_5 : decode cX7_cheapestHittingSet 5 = .ok (.aload_n 0, 1) := by decide +kernel
theorem dX7_cheapestHittingSet_6 : decode cX7_cheapestHittingSet 6 = .ok (.iconst 1, 1) := by decide +kernel
theorem dX7_cheapestHittingSet_7 : decode cX7_cheapestHittingSet 7 = .ok (.invokevirtual 181, 3) := by decide +kernel
theorem dX7_cheapestHittingSet_10 : decode cX7_cheapestHittingSet 10 = .ok (.ireturn, 1) := by decide +kernel
set_option maxRecDepth 20000 in
theorem ggX7_heaviestSatisfiable_X7_prepare : GoodIn wsX7_heaviestSatisfiable wsX7_prepare := goodIn_r _ [6, 7, 8, 9, 10, 11, 5, 12, 13, 14, 15, 16, 17, 18, 19, 20, 21, 22, 23, 24, 25, 26, 27, 28, 29, 30, 31, 32, 45, 46, 47, 48, 49, 50, 51, 52, 53, 54, 55, 56, 57, 58, 59, 60, 61] (by decide +kernel) (by decide +kernel)
set_option maxRecDepth 20000 in
theorem gX7_heaviestSatisfiable_X7_prepare : GoodIn wsX7_heaviestSatisfiable (wsV RX7 160 RX7 yX7_prepare wsX7_prepare) := goodIn_app (goodIn_of _ (by decide +kernel)) ggX7_heaviestSatisfiable_X7_prepare
set_option maxRecDepth 20000 in
theorem ggX7_heaviestSatisfiable_X7_softSet : GoodIn wsX7_heaviestSatisfiable wsX7_softSet := goodIn_r _ [32, 13, 21, 22, 23, 5, 24, 45, 46, 47, 48, 49, 50, 51, 52, 53, 54, 55, 56, 57, 58, 59, 60, 61] (by decide +kernel) (by decide +kernel)
set_option maxRecDepth 20000 in
theorem gX7_heaviestSatisfiable_X7_softSet : GoodIn wsX7_heaviestSatisfiable (wsV RX7 124 RX7 yX7_softSet wsX7_softSet) := goodIn_app (goodIn_of _ (by decide +kernel)) ggX7_heaviestSatisfiable_X7_softSet
set_option maxRecDepth 20000 in
theorem ggX7_heaviestSatisfiable_X7_weightOf : GoodIn wsX7_heaviestSatisfiable wsX7_weightOf := goodIn_r _ [36, 13, 18, 19, 5, 20, 21, 22, 23, 24, 45, 46, 47, 48, 49, 50, 51, 52, 53, 54, 55, 56, 57, 58, 59, 60, 61] (by decide +kernel) (by decide +kernel)
set_option maxRecDepth 20000 in
theorem gX7_heaviestSatisfiable_X7_weightOf : GoodIn wsX7_heaviestSatisfiable (wsV RX7 175 RX7 yX7_weightOf wsX7_weightOf) := goodIn_app (goodIn_of _ (by decide +kernel)) ggX7_heaviestSatisfiable_X7_weightOf
set_option maxRecDepth 20000 in
theorem ggX7_heaviestSatisfiable_X7_isSatisfiable : GoodIn wsX7_heaviestSatisfiable wsX7_isSatisfiable := goodIn_r _ [40, 41, 42, 43, 5, 44, 7, 8, 45, 46, 47, 48, 49, 50, 51, 52, 53, 54, 55, 56, 57, 58, 59, 60, 61] (by decide +kernel) (by decide +kernel)
set_option maxRecDepth 20000 in
theorem gX7_heaviestSatisfiable_X7_isSatisfiable : GoodIn wsX7_heaviestSatisfiable (wsV RX7 145 RX7 yX7_isSatisfiable wsX7_isSatisfiable) := goodIn_app (goodIn_of _ (by decide +kernel)) ggX7_heaviestSatisfiable_X7_isSatisfiable
theorem dX7_heaviestSatisfiable_0 : decode cX7_heaviestSatisfiable 0 = .ok (.aload_n 0, 1) := by decide +kernel
theorem dX7_heaviestSatisfiable_1 : decode cX7_heaviestSatisfiable 1 = .ok (.iconst 0, 1) := by decide +kernel
theorem dX7_heaviestSatisfiable_2 : decode cX7_heaviestSatisfiable 2 = .ok (.putfield 35, 3) := by decide +kernel
theorem dX7_heaviestSatisfiable_5 : decode cX7_heaviestSatisfiable 5 = .ok (.aload_n 0, 1) := by decide +kernel
theorem dX7_heaviestSatisfiable_6 : decode cX7_heaviestSatisfiable 6 = .ok (.invokevirtual 160, 3) := by decide +kernel
theorem dX7_heaviestSatisfiable_9 : decode cX7_heaviestSatisfiable 9 = .ok (.aload_n 0, 1) := by decide +kernel
theorem dX7_heaviestSatisfiable_10 : decode cX7_heaviestSatisfiable 10 = .ok (.invokevirtual 124, 3) := by decide +kernel
theorem dX7_heaviestSatisfiable_13 : decode cX7_heaviestSatisfiable 13 = .ok (.istore_n 1, 1) := by decide +kernel
theorem dX7_heaviestSatisfiable_14 : decode cX7_heaviestSatisfiable 14 = .ok (.bipush (-9), 2) := by decide +kernel
theorem dX7_heaviestSatisfiable_16 : decode cX7_heaviestSatisfiable 16 = .ok (.istore_n 2, 1) := by decide +kernel
theorem dX7_heaviestSatisfiable_17 : decode cX7_heaviestSatisfiable 17 = .ok (.iconst 0, 1) := by decide +kernel
theorem dX7_heaviestSatisfiable_18 : decode cX7_heaviestSatisfiable 18 = .ok (.istore_n 3, 1) := by decide +kernel
theorem dX7_heaviestSatisfiable_19 : decode cX7_heaviestSatisfiable 19 = .ok (.iconst 0, 1) := by decide +kernel
theorem dX7_heaviestSatisfiable_20 : decode cX7_heaviestSatisfiable 20 = .ok (.istore 4, 2) := by decide +kernel
theorem dX7_heaviestSatisfiable_22 : decode cX7_heaviestSatisfiable 22 = .ok (.iload 4, 2) := by decide +kernel
theorem dX7_heaviestSatisfiable_24 : decode cX7_heaviestSatisfiable 24 = .ok (.sipush 1024, 3) := by decide +kernel
theorem dX7_heaviestSatisfiable_27 : decode cX7_heaviestSatisfiable 27 = .ok (.if_icmp .ge 53, 3) := by decide +kernel
theorem dX7_heaviestSatisfiable_30 : decode cX7_heaviestSatisfiable 30 = .ok (.iload 4, 2) := by decide +kernel
theorem dX7_heaviestSatisfiable_32 : decode cX7_heaviestSatisfiable 32 = .ok (.iload_n 1, 1) := by decide +kernel
theorem dX7_heaviestSatisfiable_33 : decode cX7_heaviestSatisfiable 33 = .ok (.iconst (-1), 1) := by decide +kernel
theorem dX7_heaviestSatisfiable_34 : decode cX7_heaviestSatisfiable 34 = .ok (.ixor, 1) := by decide +kernel
theorem dX7_heaviestSatisfiable_35 : decode cX7_heaviestSatisfiable 35 = .ok (.iand, 1) := by decide +kernel
theorem dX7_heaviestSatisfiable_36 : decode cX7_heaviestSatisfiable 36 = .ok (.ifCond .ne 38, 3) := by decide +kernel
theorem dX7_heaviestSatisfiable_39 : decode cX7_heaviestSatisfiable 39 = .ok (.iload_n 2, 1) := by decide +kernel
theorem dX7_heaviestSatisfiable_40 : decode cX7_heaviestSatisfiable 40 = .ok (.bipush (-9), 2) := by decide +kernel
theorem dX7_heaviestSatisfiable_42 : decode cX7_heaviestSatisfiable 42 = .ok (.if_icmp .eq 13, 3) := by decide +kernel
theorem dX7_heaviestSatisfiable_45 : decode cX7_heaviestSatisfiable 45 = .ok (.aload_n 0, 1) := by decide +kernel
theorem dX7_heaviestSatisfiable_46 : decode cX7_heaviestSatisfiable 46 = .ok (.iload 4, 2) := by decide +kernel
theorem dX7_heaviestSatisfiable_48 : decode cX7_heaviestSatisfiable 48 = .ok (.invokevirtual 175, 3) := by decide +kernel
theorem dX7_heaviestSatisfiable_51 : decode cX7_heaviestSatisfiable 51 = .ok (.iload_n 3, 1) := by decide +kernel
theorem dX7_heaviestSatisfiable_52 : decode cX7_heaviestSatisfiable 52 = .ok (.if_icmp .le 22, 3) := by decide +kernel
theorem dX7_heaviestSatisfiable_55 : decode cX7_heaviestSatisfiable 55 = .ok (.aload_n 0, 1) := by decide +kernel
theorem dX7_heaviestSatisfiable_56 : decode cX7_heaviestSatisfiable 56 = .ok (.iload 4, 2) := by decide +kernel
theorem dX7_heaviestSatisfiable_58 : decode cX7_heaviestSatisfiable 58 = .ok (.invokevirtual 145, 3) := by decide +kernel
theorem dX7_heaviestSatisfiable_61 : decode cX7_heaviestSatisfiable 61 = .ok (.ifCond .eq 13, 3) := by decide +kernel
theorem dX7_heaviestSatisfiable_64 : decode cX7_heaviestSatisfiable 64 = .ok (.iload 4, 2) := by decide +kernel
theorem dX7_heaviestSatisfiable_66 : decode cX7_heaviestSatisfiable 66 = .ok (.istore_n 2, 1) := by decide +kernel
theorem dX7_heaviestSatisfiable_67 : decode cX7_heaviestSatisfiable 67 = .ok (.aload_n 0, 1) := by decide +kernel
theorem dX7_heaviestSatisfiable_68 : decode cX7_heaviestSatisfiable 68 = .ok (.iload 4, 2) := by decide +kernel
theorem dX7_heaviestSatisfiable_70 : decode cX7_heaviestSatisfiable 70 = .ok (.invokevirtual 175, 3) := by decide +kernel
theorem dX7_heaviestSatisfiable_73 : decode cX7_heaviestSatisfiable 73 = .ok (.istore_n 3, 1) := by decide +kernel
theorem dX7_heaviestSatisfiable_74 : decode cX7_heaviestSatisfiable 74 = .ok (.iinc 4 1, 3) := by decide +kernel
theorem dX7_heaviestSatisfiable_77 : decode cX7_heaviestSatisfiable 77 = .ok (.goto (-55), 3) := by decide +kernel
theorem dX7_heaviestSatisfiable_80 : decode cX7_heaviestSatisfiable 80 = .ok (.iload_n 2, 1) := by decide +kernel
theorem dX7_heaviestSatisfiable_81 : decode cX7_heaviestSatisfiable 81 = .ok (.ireturn, 1) := by decide +kernel
set_option maxRecDepth 20000 in
theorem ggX7_blame_X7_isConstraint : GoodIn wsX7_blame wsX7_isConstraint := goodIn_r _ [7, 2, 8, 9, 6, 10, 17, 18, 19, 20, 21, 22, 23, 24, 25, 26, 27, 28, 29, 30, 31, 32, 33] (by decide +kernel) (by decide +kernel)
set_option maxRecDepth 20000 in
theorem gX7_blame_X7_isConstraint : GoodIn wsX7_blame (wsV RX7 118 RX7 yX7_isConstraint wsX7_isConstraint) := goodIn_app (goodIn_of _ (by decide +kernel)) ggX7_blame_X7_isConstraint
set_option maxRecDepth 20000 in
theorem ggX7_blame_X7_has : GoodIn wsX7_blame wsX7_has := goodIn_r _ [13] (by decide +kernel) (by decide +kernel)
set_option maxRecDepth 20000 in
theorem gX7_blame_X7_has : GoodIn wsX7_blame (va_wsS RX7 96 yX7_has wsX7_has) := goodIn_app (goodIn_of _ (by decide +kernel)) ggX7_blame_X7_has
set_option maxRecDepth 20000 in
theorem ggX7_blame_X7_bitCount : GoodIn wsX7_blame wsX7_bitCount := goodIn_r _ [16] (by decide +kernel) (by decide +kernel)
set_option maxRecDepth 20000 in
theorem gX7_blame_X7_bitCount : GoodIn wsX7_blame (va_wsS RX7 127 yX7_bitCount wsX7_bitCount) := goodIn_app (goodIn_of _ (by decide +kernel)) ggX7_blame_X7_bitCount
theorem dX7_blame_0 : decode cX7_blame 0 = .ok (.aload_n 0, 1) := by decide +kernel
theorem dX7_blame_1 : decode cX7_blame 1 = .ok (.iconst 0, 1) := by decide +kernel
theorem dX7_blame_2 : decode cX7_blame 2 = .ok (.putfield 35, 3) := by decide +kernel
theorem dX7_blame_5 : decode cX7_blame 5 = .ok (.aload_n 0, 1) := by decide +kernel
theorem dX7_blame_6 : decode cX7_blame 6 = .ok (.iload_n 1, 1) := by decide +kernel
theorem dX7_blame_7 : decode cX7_blame 7 = .ok (.invokevirtual 118, 3) := by decide +kernel
theorem dX7_blame_10 : decode cX7_blame 10 = .ok (.ifCond .ne 5, 3) := by decide +kernel
theorem dX7_blame_13 : decode cX7_blame 13 = .ok (.iconst (-1), 1) := by decide +kernel
theorem dX7_blame_14 : decode cX7_blame 14 = .ok (.ireturn, 1) := by decide +kernel
theorem dX7_blame_15 : decode cX7_blame 15 = .ok (.iconst 0, 1) := by decide +kernel
theorem dX7_blame_16 : decode cX7_blame 16 = .ok (.istore_n 2, 1) := by decide +kernel
theorem dX7_blame_17 : decode cX7_blame 17 = .ok (.iconst 0, 1) := by decide +kernel
theorem dX7_blame_18 : decode cX7_blame 18 = .ok (.istore_n 3, 1) := by decide +kernel
theorem dX7_blame_19 : decode cX7_blame 19 = .ok (.iload_n 3, 1) := by decide +kernel
theorem dX7_blame_20 : decode cX7_blame 20 = .ok (.aload_n 0, 1) := by decide +kernel
theorem dX7_blame_21 : decode cX7_blame 21 = .ok (.getfield 7, 3) := by decide +kernel
theorem dX7_blame_24 : decode cX7_blame 24 = .ok (.iconst 2, 1) := by decide +kernel
theorem dX7_blame_25 : decode cX7_blame 25 = .ok (.iaload, 1) := by decide +kernel
theorem dX7_blame_26 : decode cX7_blame 26 = .ok (.if_icmp .ge 48, 3) := by decide +kernel
theorem dX7_blame_29 : decode cX7_blame 29 = .ok (.iload_n 2, 1) := by decide +kernel
theorem dX7_blame_30 : decode cX7_blame 30 = .ok (.aload_n 0, 1) := by decide +kernel
theorem dX7_blame_31 : decode cX7_blame 31 = .ok (.getfield 7, 3) := by decide +kernel
theorem dX7_blame_34 : decode cX7_blame 34 = .ok (.bipush 64, 2) := by decide +kernel
theorem dX7_blame_36 : decode cX7_blame 36 = .ok (.iload_n 3, 1) := by decide +kernel
theorem dX7_blame_37 : decode cX7_blame 37 = .ok (.iadd, 1) := by decide +kernel
theorem dX7_blame_38 : decode cX7_blame 38 = .ok (.iaload, 1) := by decide +kernel
theorem dX7_blame_39 : decode cX7_blame 39 = .ok (.iload_n 1, 1) := by decide +kernel
theorem dX7_blame_40 : decode cX7_blame 40 = .ok (.invokestatic 96, 3) := by decide +kernel
theorem dX7_blame_43 : decode cX7_blame 43 = .ok (.ifCond .eq 22, 3) := by decide +kernel
theorem dX7_blame_46 : decode cX7_blame 46 = .ok (.sipush 1000, 3) := by decide +kernel
theorem dX7_blame_49 : decode cX7_blame 49 = .ok (.aload_n 0, 1) := by decide +kernel
theorem dX7_blame_50 : decode cX7_blame 50 = .ok (.getfield 7, 3) := by decide +kernel
theorem dX7_blame_53 : decode cX7_blame 53 = .ok (.bipush 64, 2) := by decide +kernel
theorem dX7_blame_55 : decode cX7_blame 55 = .ok (.iload_n 3, 1) := by decide +kernel
theorem dX7_blame_56 : decode cX7_blame 56 = .ok (.iadd, 1) := by decide +kernel
theorem dX7_blame_57 : decode cX7_blame 57 = .ok (.iaload, 1) := by decide +kernel
theorem dX7_blame_58 : decode cX7_blame 58 = .ok (.invokestatic 127, 3) := by decide +kernel
theorem dX7_blame_61 : decode cX7_blame 61 = .ok (.idiv, 1) := by decide +kernel
theorem dX7_blame_62 : decode cX7_blame 62 = .ok (.goto 4, 3) := by decide +kernel
theorem dX7_blame_65 : decode cX7_blame 65 = .ok (.iconst 0, 1) := by decide +kernel
theorem dX7_blame_66 : decode cX7_blame 66 = .ok (.iadd, 1) := by decide +kernel
theorem dX7_blame_67 : decode cX7_blame 67 = .ok (.istore_n 2, 1) := by decide +kernel
theorem dX7_blame_68 : decode cX7_blame 68 = .ok (.iinc 3 1, 3) := by decide +kernel
theorem dX7_blame_71 : decode cX7_blame 71 = .ok (.goto (-52), 3) := by decide +kernel
theorem dX7_blame_74 : decode cX7_blame 74 = .ok (.iload_n 2, 1) := by decide +kernel
theorem dX7_blame_75 : decode cX7_blame 75 = .ok (.ireturn, 1) := by decide +kernel
set_option maxRecDepth 20000 in
theorem ggX7_save_X7_in : GoodIn wsX7_save wsX7_in := goodIn_r _ [8] (by decide +kernel) (by decide +kernel)
set_option maxRecDepth 20000 in
theorem gX7_save_X7_in : GoodIn wsX7_save (va_wsS RX7 59 yX7_in wsX7_in) := goodIn_app (goodIn_of _ (by decide +kernel)) ggX7_save_X7_in
theorem dX7_save_0 : decode cX7_save 0 = .ok (.aload_n 0, 1) := by decide +kernel
theorem dX7_save_1 : decode cX7_save 1 = .ok (.iconst 0, 1) := by decide +kernel
theorem dX7_save_2 : decode cX7_save 2 = .ok (.putfield 35, 3) := by decide +kernel
theorem dX7_save_5 : decode cX7_save 5 = .ok (.iload_n 1, 1) := by decide +kernel
theorem dX7_save_6 : decode cX7_save 6 = .ok (.iconst 0, 1) := by decide +kernel
theorem dX7_save_7 : decode cX7_save 7 = .ok (.iconst 1, 1) := by decide +kernel
theorem dX7_save_8 : decode cX7_save 8 = .ok (.invokestatic 59, 3) := by decide +kernel
theorem dX7_save_11 : decode cX7_save 11 = .ok (.ifCond .ne 5, 3) := by decide +kernel
theorem dX7_save_14 : decode cX7_save 14 = .ok (.iconst (-1), 1) := by decide +kernel
theorem dX7_save_15 : decode cX7_save 15 = .ok (.ireturn, 1) := by decide +kernel
theorem dX7_save_16 : decode cX7_save 16 = .ok (.iconst 0, 1) := by decide +kernel
theorem dX7_save_17 : decode cX7_save 17 = .ok (.istore_n 2, 1) := by decide +kernel
theorem dX7_save_18 : decode cX7_save 18 = .ok (.iload_n 2, 1) := by decide +kernel
theorem dX7_save_19 : decode cX7_save 19 = .ok (.sipush 568, 3) := by decide +kernel
theorem dX7_save_22 : decode cX7_save 22 = .ok (.if_icmp .ge 27, 3) := by decide +kernel
theorem dX7_save_25 : decode cX7_save 25 = .ok (.aload_n 0, 1) := by decide +kernel
theorem dX7_save_26 : decode cX7_save 26 = .ok (.getfield 19, 3) := by decide +kernel
theorem dX7_save_29 : decode cX7_save 29 = .ok (.sipush 568, 3) := by decide +kernel
theorem dX7_save_32 : decode cX7_save 32 = .ok (.iload_n 1, 1) := by decide +kernel
theorem dX7_save_33 : decode cX7_save 33 = .ok (.imul, 1) := by decide +kernel
theorem dX7_save_34 : decode cX7_save 34 = .ok (.iload_n 2, 1) := by decide +kernel
theorem dX7_save_35 : decode cX7_save 35 = .ok (.iadd, 1) := by decide +kernel
theorem dX7_save_36 : decode cX7_save 36 = .ok (.aload_n 0, 1) := by decide +kernel
theorem dX7_save_37 : decode cX7_save 37 = .ok (.getfield 7, 3) := by decide +kernel
theorem dX7_save_40 : decode cX7_save 40 = .ok (.iload_n 2, 1) := by decide +kernel
theorem dX7_save_41 : decode cX7_save 41 = .ok (.iaload, 1) := by decide +kernel
theorem dX7_save_42 : decode cX7_save 42 = .ok (.iastore, 1) := by decide +kernel
theorem dX7_save_43 : decode cX7_save 43 = .ok (.iinc 2 1, 3) := by decide +kernel
theorem dX7_save_46 : decode cX7_save 46 = .ok (.goto (-28), 3) := by decide +kernel
theorem dX7_save_49 : decode cX7_save 49 = .ok (.aload_n 0, 1) := by decide +kernel
theorem dX7_save_50 : decode cX7_save 50 = .ok (.getfield 22, 3) := by decide +kernel
theorem dX7_save_53 : decode cX7_save 53 = .ok (.iload_n 1, 1) := by decide +kernel
theorem dX7_save_54 : decode cX7_save 54 = .ok (.iconst 1, 1) := by decide +kernel
theorem dX7_save_55 : decode cX7_save 55 = .ok (.bastore, 1) := by decide +kernel
theorem dX7_save_56 : decode cX7_save 56 = .ok (.aload_n 0, 1) := by decide +kernel
theorem dX7_save_57 : decode cX7_save 57 = .ok (.getfield 7, 3) := by decide +kernel
theorem dX7_save_60 : decode cX7_save 60 = .ok (.iconst 0, 1) := by decide +kernel
theorem dX7_save_61 : decode cX7_save 61 = .ok (.iaload, 1) := by decide +kernel
theorem dX7_save_62 : decode cX7_save 62 = .ok (.ireturn, 1) := by decide +kernel
set_option maxRecDepth 20000 in
theorem ggX7_restore_X7_in : GoodIn wsX7_restore wsX7_in := goodIn_r _ [9] (by decide +kernel) (by decide +kernel)
set_option maxRecDepth 20000 in
theorem gX7_restore_X7_in : GoodIn wsX7_restore (va_wsS RX7 59 yX7_in wsX7_in) := goodIn_app (goodIn_of _ (by decide +kernel)) ggX7_restore_X7_in
theorem dX7_restore_0 : decode cX7_restore 0 = .ok (.aload_n 0, 1) := by decide +kernel
theorem dX7_restore_1 : decode cX7_restore 1 = .ok (.iconst 0, 1) := by decide +kernel
theorem dX7_restore_2 : decode cX7_restore 2 = .ok (.putfield 35, 3) := by decide +kernel
theorem dX7_restore_5 : decode cX7_restore 5 = .ok (.iload_n 1, 1) := by decide +kernel
theorem dX7_restore_6 : decode cX7_restore 6 = .ok (.iconst 0, 1) := by decide +kernel
theorem dX7_restore_7 : decode cX7_restore 7 = .ok (.iconst 1, 1) := by decide +kernel
theorem dX7_restore_8 : decode cX7_restore 8 = .ok (.invokestatic 59, 3) := by decide +kernel
theorem dX7_restore_11 : decode cX7_restore 11 = .ok (.ifCond .ne 5, 3) := by decide +kernel
theorem dX7_restore_14 : decode cX7_restore 14 = .ok (.iconst (-1), 1) := by decide +kernel
theorem dX7_restore_15 : decode cX7_restore 15 = .ok (.ireturn, 1) := by decide +kernel
theorem dX7_restore_16 : decode cX7_restore 16 = .ok (.aload_n 0, 1) := by decide +kernel
theorem dX7_restore_17 : decode cX7_restore 17 = .ok (.getfield 22, 3) := by decide +kernel
theorem dX7_restore_20 : decode cX7_restore 20 = .ok (.iload_n 1, 1) := by decide +kernel
theorem dX7_restore_21 : decode cX7_restore 21 = .ok (.baload, 1) := by decide +kernel
theorem dX7_restore_22 : decode cX7_restore 22 = .ok (.ifCond .ne 6, 3) := by decide +kernel
theorem dX7_restore_25 : decode cX7_restore 25 = .ok (.bipush (-2), 2) := by decide +kernel
theorem dX7_restore_27 : decode cX7_restore 27 = .ok (.ireturn, 1) := by decide +kernel
theorem dX7_restore_28 : decode cX7_restore 28 = .ok (.iconst 0, 1) := by decide +kernel
theorem dX7_restore_29 : decode cX7_restore 29 = .ok (.istore_n 2, 1) := by decide +kernel
theorem dX7_restore_30 : decode cX7_restore 30 = .ok (.iload_n 2, 1) := by decide +kernel
theorem dX7_restore_31 : decode cX7_restore 31 = .ok (.sipush 568, 3) := by decide +kernel
theorem dX7_restore_34 : decode cX7_restore 34 = .ok (.if_icmp .ge 27, 3) := by decide +kernel
theorem dX7_restore_37 : decode cX7_restore 37 = .ok (.aload_n 0, 1) := by decide +kernel
theorem dX7_restore_38 : decode cX7_restore 38 = .ok (.getfield 7, 3) := by decide +kernel
theorem dX7_restore_41 : decode cX7_restore 41 = .ok (.iload_n 2, 1) := by decide +kernel
theorem dX7_restore_42 : decode cX7_restore 42 = .ok (.aload_n 0, 1) := by decide +kernel
theorem dX7_restore_43 : decode cX7_restore 43 = .ok (.getfield 19, 3) := by decide +kernel
theorem dX7_restore_46 : decode cX7_restore 46 = .ok (.sipush 568, 3) := by decide +kernel
theorem dX7_restore_49 : decode cX7_restore 49 = .ok (.iload_n 1, 1) := by decide +kernel
theorem dX7_restore_50 : decode cX7_restore 50 = .ok (.imul, 1) := by decide +kernel
theorem dX7_restore_51 : decode cX7_restore 51 = .ok (.iload_n 2, 1) := by decide +kernel
theorem dX7_restore_52 : decode cX7_restore 52 = .ok (.iadd, 1) := by decide +kernel
theorem dX7_restore_53 : decode cX7_restore 53 = .ok (.iaload, 1) := by decide +kernel
theorem dX7_restore_54 : decode cX7_restore 54 = .ok (.iastore, 1) := by decide +kernel
theorem dX7_restore_55 : decode cX7_restore 55 = .ok (.iinc 2 1, 3) := by decide +kernel
theorem dX7_restore_58 : decode cX7_restore 58 = .ok (.goto (-28), 3) := by decide +kernel
theorem dX7_restore_61 : decode cX7_restore 61 = .ok (.aload_n 0, 1) := by decide +kernel
theorem dX7_restore_62 : decode cX7_restore 62 = .ok (.iconst 0, 1) := by decide +kernel
theorem dX7_restore_63 : decode cX7_restore 63 = .ok (.putfield 115, 3) := by decide +kernel
theorem dX7_restore_66 : decode cX7_restore 66 = .ok (.aload_n 0, 1) := by decide +kernel
theorem dX7_restore_67 : decode cX7_restore 67 = .ok (.getfield 7, 3) := by decide +kernel
theorem dX7_restore_70 : decode cX7_restore 70 = .ok (.iconst 0, 1) := by decide +kernel
theorem dX7_restore_71 : decode cX7_restore 71 = .ok (.iaload, 1) := by decide +kernel
theorem dX7_restore_72 : decode cX7_restore 72 = .ok (.ireturn, 1) := by decide +kernel
theorem dX7_constraintCount_0 : decode cX7_constraintCount 0 = .ok (.aload_n 0, 1) := by decide +kernel
theorem dX7_constraintCount_1 : decode cX7_constraintCount 1 = .ok (.iconst 0, 1) := by decide +kernel
theorem dX7_constraintCount_2 : decode cX7_constraintCount 2 = .ok (.putfield 35, 3) := by decide +kernel
theorem dX7_constraintCount_5 : decode cX7_constraintCount 5 = .ok (.aload_n 0, 1) := by decide +kernel
theorem dX7_constraintCount_6 : decode cX7_constraintCount 6 = .ok (.getfield 7, 3) := by decide +kernel
theorem dX7_constraintCount_9 : decode cX7_constraintCount 9 = .ok (.iconst 0, 1) := by decide +kernel
theorem dX7_constraintCount_10 : decode cX7_constraintCount 10 = .ok (.iaload, 1) := by decide +kernel
theorem dX7_constraintCount_11 : decode cX7_constraintCount 11 = .ok (.ireturn, 1) := by decide +kernel
set_option maxRecDepth 20000 in
theorem ggX7_softConstraints_X7_softSet : GoodIn wsX7_softConstraints wsX7_softSet := goodIn_r _ [6, 7, 8, 9, 10, 5, 11, 12, 13, 14, 15, 16, 17, 18, 19, 20, 21, 22, 23, 24, 25, 26, 27, 28] (by decide +kernel) (by decide +kernel)
set_option maxRecDepth 20000 in
theorem gX7_softConstraints_X7_softSet : GoodIn wsX7_softConstraints (wsV RX7 124 RX7 yX7_softSet wsX7_softSet) := goodIn_app (goodIn_of _ (by decide +kernel)) ggX7_softConstraints_X7_softSet
theorem dX7_softConstraints_0 : decode cX7_softConstraints 0 = .ok (.aload_n 0, 1) := by decide +kernel
theorem dX7_softConstraints_1 : decode cX7_softConstraints 1 = .ok (.iconst 0, 1) := by decide +kernel
theorem dX7_softConstraints_2 : decode cX7_softConstraints 2 = .ok (.putfield 35, 3) := by decide +kernel
theorem dX7_softConstraints_5 : decode cX7_softConstraints 5 = .ok (.aload_n 0, 1) := by decide +kernel
theorem dX7_softConstraints_6 : decode cX7_softConstraints 6 = .ok (.invokevirtual 124, 3) := by decide +kernel
theorem dX7_softConstraints_9 : decode cX7_softConstraints 9 = .ok (.ireturn, 1) := by decide +kernel
theorem dX7_undoDepth_0 : decode cX7_undoDepth 0 = .ok (.aload_n 0, 1) := by decide +kernel
theorem dX7_undoDepth_1 : decode cX7_undoDepth 1 = .ok (.iconst 0, 1) := by decide +kernel
theorem dX7_undoDepth_2 : decode cX7_undoDepth 2 = .ok (.putfield 35, 3) := by decide +kernel
theorem dX7_undoDepth_5 : decode cX7_undoDepth 5 = .ok (.aload_n 0, 1) := by decide +kernel
theorem dX7_undoDepth_6 : decode cX7_undoDepth 6 = .ok (.getfield 115, 3) := by decide +kernel
theorem dX7_undoDepth_9 : decode cX7_undoDepth 9 = .ok (.ireturn, 1) := by decide +kernel
theorem dJ6_bitCount_0f7a4_0 : decode cJ6_bitCount_0f7a4 0 = .ok (.iload_n 0, 1) := by decide +kernel
theorem dJ6_bitCount_0f7a4_1 : decode cJ6_bitCount_0f7a4 1 = .ok (.iload_n 0, 1) := by decide +kernel
theorem dJ6_bitCount_0f7a4_2 : decode cJ6_bitCount_0f7a4 2 = .ok (.iconst 1, 1) := by decide +kernel
theorem dJ6_bitCount_0f7a4_3 : decode cJ6_bitCount_0f7a4 3 = .ok (.iushr, 1) := by decide +kernel
theorem dJ6_bitCount_0f7a4_4 : decode cJ6_bitCount_0f7a4 4 = .ok (.ldc_w 265, 3) := by decide +kernel
theorem dJ6_bitCount_0f7a4_7 : decode cJ6_bitCount_0f7a4 7 = .ok (.iand, 1) := by decide +kernel
theorem dJ6_bitCount_0f7a4_8 : decode cJ6_bitCount_0f7a4 8 = .ok (.isub, 1) := by decide +kernel
theorem dJ6_bitCount_0f7a4_9 : decode cJ6_bitCount_0f7a4 9 = .ok (.istore_n 0, 1) := by decide +kernel
theorem dJ6_bitCount_0f7a4_10 : decode cJ6_bitCount_0f7a4 10 = .ok (.iload_n 0, 1) := by decide +kernel
theorem dJ6_bitCount_0f7a4_11 : decode cJ6_bitCount_0f7a4 11 = .ok (.ldc_w 266, 3) := by decide +kernel
theorem dJ6_bitCount_0f7a4_14 : decode cJ6_bitCount_0f7a4 14 = .ok (.iand, 1) := by decide +kernel
theorem dJ6_bitCount_0f7a4_15 : decode cJ6_bitCount_0f7a4 15 = .ok (.iload_n 0, 1) := by decide +kernel
theorem dJ6_bitCount_0f7a4_16 : decode cJ6_bitCount_0f7a4 16 = .ok (.iconst 2, 1) := by decide +kernel
theorem dJ6_bitCount_0f7a4_17 : decode cJ6_bitCount_0f7a4 17 = .ok (.iushr, 1) := by decide +kernel
theorem dJ6_bitCount_0f7a4_18 : decode cJ6_bitCount_0f7a4 18 = .ok (.ldc_w 266, 3) := by decide +kernel
theorem dJ6_bitCount_0f7a4_21 : decode cJ6_bitCount_0f7a4 21 = .ok (.iand, 1) := by decide +kernel
theorem dJ6_bitCount_0f7a4_22 : decode cJ6_bitCount_0f7a4 22 = .ok (.iadd, 1) := by decide +kernel
theorem dJ6_bitCount_0f7a4_23 : decode cJ6_bitCount_0f7a4 23 = .ok (.istore_n 0, 1) := by decide +kernel
theorem dJ6_bitCount_0f7a4_24 : decode cJ6_bitCount_0f7a4 24 = .ok (.iload_n 0, 1) := by decide +kernel
theorem dJ6_bitCount_0f7a4_25 : decode cJ6_bitCount_0f7a4 25 = .ok (.iload_n 0, 1) := by decide +kernel
theorem dJ6_bitCount_0f7a4_26 : decode cJ6_bitCount_0f7a4 26 = .ok (.iconst 4, 1) := by decide +kernel
theorem dJ6_bitCount_0f7a4_27 : decode cJ6_bitCount_0f7a4 27 = .ok (.iushr, 1) := by decide +kernel
theorem dJ6_bitCount_0f7a4_28 : decode cJ6_bitCount_0f7a4 28 = .ok (.iadd, 1) := by decide +kernel
theorem dJ6_bitCount_0f7a4_29 : decode cJ6_bitCount_0f7a4 29 = .ok (.ldc_w 267, 3) := by decide +kernel
theorem dJ6_bitCount_0f7a4_32 : decode cJ6_bitCount_0f7a4 32 = .ok (.iand, 1) := by decide +kernel
theorem dJ6_bitCount_0f7a4_33 : decode cJ6_bitCount_0f7a4 33 = .ok (.istore_n 0, 1) := by decide +kernel
theorem dJ6_bitCount_0f7a4_34 : decode cJ6_bitCount_0f7a4 34 = .ok (.iload_n 0, 1) := by decide +kernel
theorem dJ6_bitCount_0f7a4_35 : decode cJ6_bitCount_0f7a4 35 = .ok (.iload_n 0, 1) := by decide +kernel
theorem dJ6_bitCount_0f7a4_36 : decode cJ6_bitCount_0f7a4 36 = .ok (.bipush 8, 2) := by decide +kernel
theorem dJ6_bitCount_0f7a4_38 : decode cJ6_bitCount_0f7a4 38 = .ok (.iushr, 1) := by decide +kernel
theorem dJ6_bitCount_0f7a4_39 : decode cJ6_bitCount_0f7a4 39 = .ok (.iadd, 1) := by decide +kernel
theorem dJ6_bitCount_0f7a4_40 : decode cJ6_bitCount_0f7a4 40 = .ok (.istore_n 0, 1) := by decide +kernel
theorem dJ6_bitCount_0f7a4_41 : decode cJ6_bitCount_0f7a4 41 = .ok (.iload_n 0, 1) := by decide +kernel
theorem dJ6_bitCount_0f7a4_42 : decode cJ6_bitCount_0f7a4 42 = .ok (.iload_n 0, 1) := by decide +kernel
theorem dJ6_bitCount_0f7a4_43 : decode cJ6_bitCount_0f7a4 43 = .ok (.bipush 16, 2) := by decide +kernel
theorem dJ6_bitCount_0f7a4_45 : decode cJ6_bitCount_0f7a4 45 = .ok (.iushr, 1) := by decide +kernel
theorem dJ6_bitCount_0f7a4_46 : decode cJ6_bitCount_0f7a4 46 = .ok (.iadd, 1) := by decide +kernel
theorem dJ6_bitCount_0f7a4_47 : decode cJ6_bitCount_0f7a4 47 = .ok (.istore_n 0, 1) := by decide +kernel
theorem dJ6_bitCount_0f7a4_48 : decode cJ6_bitCount_0f7a4 48 = .ok (.iload_n 0, 1) := by decide +kernel
theorem dJ6_bitCount_0f7a4_49 : decode cJ6_bitCount_0f7a4 49 = .ok (.bipush 63, 2) := by decide +kernel
theorem dJ6_bitCount_0f7a4_51 : decode cJ6_bitCount_0f7a4 51 = .ok (.iand, 1) := by decide +kernel
theorem dJ6_bitCount_0f7a4_52 : decode cJ6_bitCount_0f7a4 52 = .ok (.ireturn, 1) := by decide +kernel
theorem dJ13_bitCount_95d88_0 : decode cJ13_bitCount_95d88 0 = .ok (.lload_n 0, 1) := by decide +kernel
theorem dJ13_bitCount_95d88_1 : decode cJ13_bitCount_95d88 1 = .ok (.lload_n 0, 1) := by decide +kernel
theorem dJ13_bitCount_95d88_2 : decode cJ13_bitCount_95d88 2 = .ok (.iconst 1, 1) := by decide +kernel
theorem dJ13_bitCount_95d88_3 : decode cJ13_bitCount_95d88 3 = .ok (.lushr, 1) := by decide +kernel
theorem dJ13_bitCount_95d88_4 : decode cJ13_bitCount_95d88 4 = .ok (.ldc2_w 314, 3) := by decide +kernel
theorem dJ13_bitCount_95d88_7 : decode cJ13_bitCount_95d88 7 = .ok (.land, 1) := by decide +kernel
theorem dJ13_bitCount_95d88_8 : decode cJ13_bitCount_95d88 8 = .ok (.lsub, 1) := by decide +kernel
theorem dJ13_bitCount_95d88_9 : decode cJ13_bitCount_95d88 9 = .ok (.lstore_n 0, 1) := by decide +kernel
theorem dJ13_bitCount_95d88_10 : decode cJ13_bitCount_95d88 10 = .ok (.lload_n 0, 1) := by decide +kernel
theorem dJ13_bitCount_95d88_11 : decode cJ13_bitCount_95d88 11 = .ok (.ldc2_w 316, 3) := by decide +kernel
theorem dJ13_bitCount_95d88_14 : decode cJ13_bitCount_95d88 14 = .ok (.land, 1) := by decide +kernel
theorem dJ13_bitCount_95d88_15 : decode cJ13_bitCount_95d88 15 = .ok (.lload_n 0, 1) := by decide +kernel
theorem dJ13_bitCount_95d88_16 : decode cJ13_bitCount_95d88 16 = .ok (.iconst 2, 1) := by decide +kernel
theorem dJ13_bitCount_95d88_17 : decode cJ13_bitCount_95d88 17 = .ok (.lushr, 1) := by decide +kernel
theorem dJ13_bitCount_95d88_18 : decode cJ13_bitCount_95d88 18 = .ok (.ldc2_w 316, 3) := by decide +kernel
theorem dJ13_bitCount_95d88_21 : decode cJ13_bitCount_95d88 21 = .ok (.land, 1) := by decide +kernel
theorem dJ13_bitCount_95d88_22 : decode cJ13_bitCount_95d88 22 = .ok (.ladd, 1) := by decide +kernel
theorem dJ13_bitCount_95d88_23 : decode cJ13_bitCount_95d88 23 = .ok (.lstore_n 0, 1) := by decide +kernel
theorem dJ13_bitCount_95d88_24 : decode cJ13_bitCount_95d88 24 = .ok (.lload_n 0, 1) := by decide +kernel
theorem dJ13_bitCount_95d88_25 : decode cJ13_bitCount_95d88 25 = .ok (.lload_n 0, 1) := by decide +kernel
theorem dJ13_bitCount_95d88_26 : decode cJ13_bitCount_95d88 26 = .ok (.iconst 4, 1) := by decide +kernel
theorem dJ13_bitCount_95d88_27 : decode cJ13_bitCount_95d88 27 = .ok (.lushr, 1) := by decide +kernel
theorem dJ13_bitCount_95d88_28 : decode cJ13_bitCount_95d88 28 = .ok (.ladd, 1) := by decide +kernel
theorem dJ13_bitCount_95d88_29 : decode cJ13_bitCount_95d88 29 = .ok (.ldc2_w 318, 3) := by decide +kernel
theorem dJ13_bitCount_95d88_32 : decode cJ13_bitCount_95d88 32 = .ok (.land, 1) := by decide +kernel
theorem dJ13_bitCount_95d88_33 : decode cJ13_bitCount_95d88 33 = .ok (.lstore_n 0, 1) := by decide +kernel
theorem dJ13_bitCount_95d88_34 : decode cJ13_bitCount_95d88 34 = .ok (.lload_n 0, 1) := by decide +kernel
theorem dJ13_bitCount_95d88_35 : decode cJ13_bitCount_95d88 35 = .ok (.lload_n 0, 1) := by decide +kernel
theorem dJ13_bitCount_95d88_36 : decode cJ13_bitCount_95d88 36 = .ok (.bipush 8, 2) := by decide +kernel
theorem dJ13_bitCount_95d88_38 : decode cJ13_bitCount_95d88 38 = .ok (.lushr, 1) := by decide +kernel
theorem dJ13_bitCount_95d88_39 : decode cJ13_bitCount_95d88 39 = .ok (.ladd, 1) := by decide +kernel
theorem dJ13_bitCount_95d88_40 : decode cJ13_bitCount_95d88 40 = .ok (.lstore_n 0, 1) := by decide +kernel
theorem dJ13_bitCount_95d88_41 : decode cJ13_bitCount_95d88 41 = .ok (.lload_n 0, 1) := by decide +kernel
theorem dJ13_bitCount_95d88_42 : decode cJ13_bitCount_95d88 42 = .ok (.lload_n 0, 1) := by decide +kernel
theorem dJ13_bitCount_95d88_43 : decode cJ13_bitCount_95d88 43 = .ok (.bipush 16, 2) := by decide +kernel
theorem dJ13_bitCount_95d88_45 : decode cJ13_bitCount_95d88 45 = .ok (.lushr, 1) := by decide +kernel
theorem dJ13_bitCount_95d88_46 : decode cJ13_bitCount_95d88 46 = .ok (.ladd, 1) := by decide +kernel
theorem dJ13_bitCount_95d88_47 : decode cJ13_bitCount_95d88 47 = .ok (.lstore_n 0, 1) := by decide +kernel
theorem dJ13_bitCount_95d88_48 : decode cJ13_bitCount_95d88 48 = .ok (.lload_n 0, 1) := by decide +kernel
theorem dJ13_bitCount_95d88_49 : decode cJ13_bitCount_95d88 49 = .ok (.lload_n 0, 1) := by decide +kernel
theorem dJ13_bitCount_95d88_50 : decode cJ13_bitCount_95d88 50 = .ok (.bipush 32, 2) := by decide +kernel
theorem dJ13_bitCount_95d88_52 : decode cJ13_bitCount_95d88 52 = .ok (.lushr, 1) := by decide +kernel
theorem dJ13_bitCount_95d88_53 : decode cJ13_bitCount_95d88 53 = .ok (.ladd, 1) := by decide +kernel
theorem dJ13_bitCount_95d88_54 : decode cJ13_bitCount_95d88 54 = .ok (.lstore_n 0, 1) := by decide +kernel
theorem dJ13_bitCount_95d88_55 : decode cJ13_bitCount_95d88 55 = .ok (.lload_n 0, 1) := by decide +kernel
theorem dJ13_bitCount_95d88_56 : decode cJ13_bitCount_95d88 56 = .ok (.l2i, 1) := by decide +kernel
theorem dJ13_bitCount_95d88_57 : decode cJ13_bitCount_95d88 57 = .ok (.bipush 127, 2) := by decide +kernel
theorem dJ13_bitCount_95d88_59 : decode cJ13_bitCount_95d88 59 = .ok (.iand, 1) := by decide +kernel
theorem dJ13_bitCount_95d88_60 : decode cJ13_bitCount_95d88 60 = .ok (.ireturn, 1) := by decide +kernel
set_option maxRecDepth 20000 in
theorem ggJ0_length_8abf5_J0_coder_7d493 : GoodIn wsJ0_length_8abf5 wsJ0_coder_7d493 := goodIn_r _ [6, 7, 8] (by decide +kernel) (by decide +kernel)
set_option maxRecDepth 20000 in
theorem gJ0_length_8abf5_J0_coder_7d493 : GoodIn wsJ0_length_8abf5 (wsV RJ0 335 RJ0 yJ0_coder_7d493 wsJ0_coder_7d493) := goodIn_app (goodIn_of _ (by decide +kernel)) ggJ0_length_8abf5_J0_coder_7d493
theorem dJ0_length_8abf5_0 : decode cJ0_length_8abf5 0 = .ok (.aload_n 0, 1) := by decide +kernel
theorem dJ0_length_8abf5_1 : decode cJ0_length_8abf5 1 = .ok (.getfield 9, 3) := by decide +kernel
theorem dJ0_length_8abf5_4 : decode cJ0_length_8abf5 4 = .ok (.arraylength, 1) := by decide +kernel
theorem dJ0_length_8abf5_5 : decode cJ0_length_8abf5 5 = .ok (.aload_n 0, 1) := by decide +kernel
theorem dJ0_length_8abf5_6 : decode cJ0_length_8abf5 6 = .ok (.invokevirtual 335, 3) := by decide +kernel
theorem dJ0_length_8abf5_9 : decode cJ0_length_8abf5 9 = .ok (.ishr, 1) := by decide +kernel
theorem dJ0_length_8abf5_10 : decode cJ0_length_8abf5 10 = .ok (.ireturn, 1) := by decide +kernel
set_option maxRecDepth 20000 in
theorem ggJ0_charAt_5068e_J0_isLatin1_aae02 : GoodIn wsJ0_charAt_5068e wsJ0_isLatin1_aae02 := goodIn_r _ [6, 7, 8] (by decide +kernel) (by decide +kernel)
set_option maxRecDepth 20000 in
theorem gJ0_charAt_5068e_J0_isLatin1_aae02 : GoodIn wsJ0_charAt_5068e (wsV RJ0 492 RJ0 yJ0_isLatin1_aae02 wsJ0_isLatin1_aae02) := goodIn_app (goodIn_of _ (by decide +kernel)) ggJ0_charAt_5068e_J0_isLatin1_aae02
set_option maxRecDepth 20000 in
theorem ggJ0_charAt_5068e_J1_charAt_3b067 : GoodIn wsJ0_charAt_5068e wsJ1_charAt_3b067 := goodIn_r _ [12, 13, 14, 5, 15, 16, 17, 18, 19, 20] (by decide +kernel) (by decide +kernel)
set_option maxRecDepth 20000 in
theorem gJ0_charAt_5068e_J1_charAt_3b067 : GoodIn wsJ0_charAt_5068e (va_wsS RJ0 495 yJ1_charAt_3b067 wsJ1_charAt_3b067) := goodIn_app (goodIn_of _ (by decide +kernel)) ggJ0_charAt_5068e_J1_charAt_3b067
set_option maxRecDepth 20000 in
theorem ggJ0_charAt_5068e_J2_charAt_3b067 : GoodIn wsJ0_charAt_5068e wsJ2_charAt_3b067 := goodIn_r _ [24, 25, 26, 23, 27, 28, 29, 30, 31, 14, 5, 15, 16, 17, 18, 19, 20, 32, 33, 34, 35, 36, 37] (by decide +kernel) (by decide +kernel)
set_option maxRecDepth 20000 in
theorem gJ0_charAt_5068e_J2_charAt_3b067 : GoodIn wsJ0_charAt_5068e (va_wsS RJ0 498 yJ2_charAt_3b067 wsJ2_charAt_3b067) := goodIn_app (goodIn_of _ (by decide +kernel)) ggJ0_charAt_5068e_J2_charAt_3b067
theorem dJ0_charAt_5068e_0 : decode cJ0_charAt_5068e 0 = .ok (.aload_n 0, 1) := by decide +kernel
theorem dJ0_charAt_5068e_1 : decode cJ0_charAt_5068e 1 = .ok (.invokevirtual 492, 3) := by decide +kernel
theorem dJ0_charAt_5068e_4 : decode cJ0_charAt_5068e 4 = .ok (.ifCond .eq 12, 3) := by decide +kernel
theorem dJ0_charAt_5068e_7 : decode cJ0_charAt_5068e 7 = .ok (.aload_n 0, 1) := by decide +kernel
theorem dJ0_charAt_5068e_8 : decode cJ0_charAt_5068e 8 = .ok (.getfield 9, 3) := by decide +kernel
theorem dJ0_charAt_5068e_11 : decode cJ0_charAt_5068e 11 = .ok (.iload_n 1, 1) := by decide +kernel
theorem dJ0_charAt_5068e_12 : decode cJ0_charAt_5068e 12 = .ok (.invokestatic 495, 3) := by decide +kernel
theorem dJ0_charAt_5068e_15 : decode cJ0_charAt_5068e 15 = .ok (.ireturn, 1) := by decide +kernel
theorem dJ0_charAt_5068e_16 : decode cJ0_charAt_5068e 16 = .ok (.aload_n 0, 1) := by decide +kernel
theorem dJ0_charAt_5068e_17 : decode cJ0_charAt_5068e 17 = .ok (.getfield 9, 3) := by decide +kernel
theorem dJ0_charAt_5068e_20 : decode cJ0_charAt_5068e 20 = .ok (.iload_n 1, 1) := by decide +kernel
theorem dJ0_charAt_5068e_21 : decode cJ0_charAt_5068e 21 = .ok (.invokestatic 498, 3) := by decide +kernel
theorem dJ0_charAt_5068e_24 : decode cJ0_charAt_5068e 24 = .ok (.ireturn, 1) := by decide +kernel
theorem dJ0_coder_7d493_0 : decode cJ0_coder_7d493 0 = .ok (.getstatic 38, 3) := by decide +kernel
theorem dJ0_coder_7d493_3 : decode cJ0_coder_7d493 3 = .ok (.ifCond .eq 10, 3) := by decide +kernel
theorem dJ0_coder_7d493_6 : decode cJ0_coder_7d493 6 = .ok (.aload_n 0, 1) := by decide +kernel
theorem dJ0_coder_7d493_7 : decode cJ0_coder_7d493 7 = .ok (.getfield 15, 3) := by decide +kernel
theorem dJ0_coder_7d493_10 : decode cJ0_coder_7d493 10 = .ok (.goto 4, 3) := by decide +kernel
theorem dJ0_coder_7d493_13 : decode cJ0_coder_7d493 13 = .ok (.iconst 1, 1) := by decide +kernel
theorem dJ0_coder_7d493_14 : decode cJ0_coder_7d493 14 = .ok (.ireturn, 1) := by decide +kernel
theorem dJ0_isLatin1_aae02_0 : decode cJ0_isLatin1_aae02 0 = .ok (.getstatic 38, 3) := by decide +kernel
theorem dJ0_isLatin1_aae02_3 : decode cJ0_isLatin1_aae02 3 = .ok (.ifCond .eq 14, 3) := by decide +kernel
theorem dJ0_isLatin1_aae02_6 : decode cJ0_isLatin1_aae02 6 = .ok (.aload_n 0, 1) := by decide +kernel
theorem dJ0_isLatin1_aae02_7 : decode cJ0_isLatin1_aae02 7 = .ok (.getfield 15, 3) := by decide +kernel
theorem dJ0_isLatin1_aae02_10 : decode cJ0_isLatin1_aae02 10 = .ok (.ifCond .ne 7, 3) := by decide +kernel
theorem dJ0_isLatin1_aae02_13 : decode cJ0_isLatin1_aae02 13 = .ok (.iconst 1, 1) := by decide +kernel
theorem dJ0_isLatin1_aae02_14 : decode cJ0_isLatin1_aae02 14 = .ok (.goto 4, 3) := by decide +kernel
theorem dJ0_isLatin1_aae02_17 : decode cJ0_isLatin1_aae02 17 = .ok (.iconst 0, 1) := by decide +kernel
theorem dJ0_isLatin1_aae02_18 : decode cJ0_isLatin1_aae02 18 = .ok (.ireturn, 1) := by decide +kernel
set_option maxRecDepth 20000 in
theorem ggJ0_checkIndex_df160_J3_checkIndex_8e157 : GoodIn wsJ0_checkIndex_df160 wsJ3_checkIndex_8e157 := goodIn_r _ [5] (by decide +kernel) (by decide +kernel)
set_option maxRecDepth 20000 in
theorem gJ0_checkIndex_df160_J3_checkIndex_8e157 : GoodIn wsJ0_checkIndex_df160 (va_wsS RJ0 1059 yJ3_checkIndex_8e157 wsJ3_checkIndex_8e157) := goodIn_app (goodIn_of _ (by decide +kernel)) ggJ0_checkIndex_df160_J3_checkIndex_8e157
theorem dJ0_checkIndex_df160_0 : decode cJ0_checkIndex_df160 0 = .ok (.iload_n 0, 1) := by decide +kernel
theorem dJ0_checkIndex_df160_1 : decode cJ0_checkIndex_df160 1 = .ok (.iload_n 1, 1) := by decide +kernel
theorem dJ0_checkIndex_df160_2 : decode cJ0_checkIndex_df160 2 = .ok (.getstatic 1053, 3) := by decide +kernel
theorem dJ0_checkIndex_df160_5 : decode cJ0_checkIndex_df160 5 = .ok (.invokestatic 1059, 3) := by decide +kernel
theorem dJ0_checkIndex_df160_8 : decode cJ0_checkIndex_df160 8 = .ok (.pop, 1) := by decide +kernel
theorem dJ0_checkIndex_df160_9 : decode cJ0_checkIndex_df160 9 = .ok (.return_, 1) := by decide +kernel
set_option maxRecDepth 20000 in
theorem ggJ1_charAt_3b067_J0_checkIndex_df160 : GoodIn wsJ1_charAt_3b067 wsJ0_checkIndex_df160 := goodIn_r _ [4, 5, 6, 7, 8, 9] (by decide +kernel) (by decide +kernel)
set_option maxRecDepth 20000 in
theorem gJ1_charAt_3b067_J0_checkIndex_df160 : GoodIn wsJ1_charAt_3b067 (va_wsS RJ1 9 yJ0_checkIndex_df160 wsJ0_checkIndex_df160) := goodIn_app (goodIn_of _ (by decide +kernel)) ggJ1_charAt_3b067_J0_checkIndex_df160
theorem dJ1_charAt_3b067_0 : decode cJ1_charAt_3b067 0 = .ok (.iload_n 1, 1) := by decide +kernel
theorem dJ1_charAt_3b067_1 : decode cJ1_charAt_3b067 1 = .ok (.aload_n 0, 1) := by decide +kernel
theorem dJ1_charAt_3b067_2 : decode cJ1_charAt_3b067 2 = .ok (.arraylength, 1) := by decide +kernel
theorem dJ1_charAt_3b067_3 : decode cJ1_charAt_3b067 3 = .ok (.invokestatic 9, 3) := by decide +kernel
theorem dJ1_charAt_3b067_6 : decode cJ1_charAt_3b067 6 = .ok (.aload_n 0, 1) := by decide +kernel
theorem dJ1_charAt_3b067_7 : decode cJ1_charAt_3b067 7 = .ok (.iload_n 1, 1) := by decide +kernel
theorem dJ1_charAt_3b067_8 : decode cJ1_charAt_3b067 8 = .ok (.baload, 1) := by decide +kernel
theorem dJ1_charAt_3b067_9 : decode cJ1_charAt_3b067 9 = .ok (.sipush 255, 3) := by decide +kernel
theorem dJ1_charAt_3b067_12 : decode cJ1_charAt_3b067 12 = .ok (.iand, 1) := by decide +kernel
theorem dJ1_charAt_3b067_13 : decode cJ1_charAt_3b067 13 = .ok (.i2c, 1) := by decide +kernel
theorem dJ1_charAt_3b067_14 : decode cJ1_charAt_3b067 14 = .ok (.ireturn, 1) := by decide +kernel
set_option maxRecDepth 20000 in
theorem ggJ2_getChar_3b067_J2_length_9d52b : GoodIn wsJ2_getChar_3b067 wsJ2_length_9d52b := goodIn_r _ [7] (by decide +kernel) (by decide +kernel)
set_option maxRecDepth 20000 in
theorem gJ2_getChar_3b067_J2_length_9d52b : GoodIn wsJ2_getChar_3b067 (va_wsS RJ2 48 yJ2_length_9d52b wsJ2_length_9d52b) := goodIn_app (goodIn_of _ (by decide +kernel)) ggJ2_getChar_3b067_J2_length_9d52b
theorem dJ2_getChar_3b067_0 : decode cJ2_getChar_3b067 0 = .ok (.getstatic 44, 3) := by decide +kernel
theorem dJ2_getChar_3b067_3 : decode cJ2_getChar_3b067 3 = .ok (.ifCond .ne 25, 3) := by decide +kernel
theorem dJ2_getChar_3b067_6 : decode cJ2_getChar_3b067 6 = .ok (.iload_n 1, 1) := by decide +kernel
theorem dJ2_getChar_3b067_7 : decode cJ2_getChar_3b067 7 = .ok (.ifCond .lt 11, 3) := by decide +kernel
theorem dJ2_getChar_3b067_10 : decode cJ2_getChar_3b067 10 = .ok (.iload_n 1, 1) := by decide +kernel
theorem dJ2_getChar_3b067_11 : decode cJ2_getChar_3b067 11 = .ok (.aload_n 0, 1) := by decide +kernel
theorem dJ2_getChar_3b067_12 : decode cJ2_getChar_3b067 12 = .ok (.invokestatic 48, 3) := by decide +kernel
theorem dJ2_getChar_3b067_15 : decode cJ2_getChar_3b067 15 = .ok (.if_icmp .lt 13, 3) := by decide +kernel
theorem dJ2_getChar_3b067_18 : decode cJ2_getChar_3b067 18 = .ok (.new 52, 3) := by decide +kernel
theorem dJ2_getChar_3b067_21 : decode cJ2_getChar_3b067 21 = .ok (.dup, 1) := by decide +kernel
theorem dJ2_getChar_3b067_22 : decode cJ2_getChar_3b067 22 = .ok (.ldc 54, 2) := by decide +kernel
theorem dJ2_getChar_3b067_24 : decode cJ2_getChar_3b067 24 = .ok (.invokespecial 56, 3) := by decide +kernel
theorem dJ2_getChar_3b067_27 : decode cJ2_getChar_3b067 27 = .ok (.athrow, 1) := by decide +kernel
theorem dJ2_getChar_3b067_28 : decode cJ2_getChar_3b067 28 = .ok (.iload_n 1, 1) := by decide +kernel
theorem dJ2_getChar_3b067_29 : decode cJ2_getChar_3b067 29 = .ok (.iconst 1, 1) := by decide +kernel
theorem dJ2_getChar_3b067_30 : decode cJ2_getChar_3b067 30 = .ok (.ishl, 1) := by decide +kernel
theorem dJ2_getChar_3b067_31 : decode cJ2_getChar_3b067 31 = .ok (.istore_n 1, 1) := by decide +kernel
theorem dJ2_getChar_3b067_32 : decode cJ2_getChar_3b067 32 = .ok (.aload_n 0, 1) := by decide +kernel
theorem dJ2_getChar_3b067_33 : decode cJ2_getChar_3b067 33 = .ok (.iload_n 1, 1) := by decide +kernel
theorem dJ2_getChar_3b067_34 : decode cJ2_getChar_3b067 34 = .ok (.iinc 1 1, 3) := by decide +kernel
theorem dJ2_getChar_3b067_37 : decode cJ2_getChar_3b067 37 = .ok (.baload, 1) := by decide +kernel
theorem dJ2_getChar_3b067_38 : decode cJ2_getChar_3b067 38 = .ok (.sipush 255, 3) := by decide +kernel
theorem dJ2_getChar_3b067_41 : decode cJ2_getChar_3b067 41 = .ok (.iand, 1) := by decide +kernel
theorem dJ2_getChar_3b067_42 : decode cJ2_getChar_3b067 42 = .ok (.getstatic 59, 3) := by decide +kernel
theorem dJ2_getChar_3b067_45 : decode cJ2_getChar_3b067 45 = .ok (.ishl, 1) := by decide +kernel
theorem dJ2_getChar_3b067_46 : decode cJ2_getChar_3b067 46 = .ok (.aload_n 0, 1) := by decide +kernel
theorem dJ2_getChar_3b067_47 : decode cJ2_getChar_3b067 47 = .ok (.iload_n 1, 1) := by decide +kernel
theorem dJ2_getChar_3b067_48 : decode cJ2_getChar_3b067 48 = .ok (.baload, 1) := by decide +kernel
theorem dJ2_getChar_3b067_49 : decode cJ2_getChar_3b067 49 = .ok (.sipush 255, 3) := by decide +kernel
theorem dJ2_getChar_3b067_52 : decode cJ2_getChar_3b067 52 = .ok (.iand, 1) := by decide +kernel
theorem dJ2_getChar_3b067_53 : decode cJ2_getChar_3b067 53 = .ok (.getstatic 63, 3) := by decide +kernel
theorem dJ2_getChar_3b067_56 : decode cJ2_getChar_3b067 56 = .ok (.ishl, 1) := by decide +kernel
theorem dJ2_getChar_3b067_57 : decode cJ2_getChar_3b067 57 = .ok (.ior, 1) := by decide +kernel
theorem dJ2_getChar_3b067_58 : decode cJ2_getChar_3b067 58 = .ok (.i2c, 1) := by decide +kernel
theorem dJ2_getChar_3b067_59 : decode cJ2_getChar_3b067 59 = .ok (.ireturn, 1) := by decide +kernel
theorem dJ2_length_9d52b_0 : decode cJ2_length_9d52b 0 = .ok (.aload_n 0, 1) := by decide +kernel
theorem dJ2_length_9d52b_1 : decode cJ2_length_9d52b 1 = .ok (.arraylength, 1) := by decide +kernel
theorem dJ2_length_9d52b_2 : decode cJ2_length_9d52b 2 = .ok (.iconst 1, 1) := by decide +kernel
theorem dJ2_length_9d52b_3 : decode cJ2_length_9d52b 3 = .ok (.ishr, 1) := by decide +kernel
theorem dJ2_length_9d52b_4 : decode cJ2_length_9d52b 4 = .ok (.ireturn, 1) := by decide +kernel
set_option maxRecDepth 20000 in
theorem ggJ2_charAt_3b067_J2_checkIndex_2214a : GoodIn wsJ2_charAt_3b067 wsJ2_checkIndex_2214a := goodIn_r _ [4, 5, 6, 3, 7, 8, 9, 10, 11, 12, 13, 14, 15, 16] (by decide +kernel) (by decide +kernel)
set_option maxRecDepth 20000 in
theorem gJ2_charAt_3b067_J2_checkIndex_2214a : GoodIn wsJ2_charAt_3b067 (va_wsS RJ2 67 yJ2_checkIndex_2214a wsJ2_checkIndex_2214a) := goodIn_app (goodIn_of _ (by decide +kernel)) ggJ2_charAt_3b067_J2_checkIndex_2214a
set_option maxRecDepth 20000 in
theorem ggJ2_charAt_3b067_J2_getChar_3b067 : GoodIn wsJ2_charAt_3b067 wsJ2_getChar_3b067 := goodIn_r _ [19, 20, 21, 22, 5, 6, 3, 7] (by decide +kernel) (by decide +kernel)
set_option maxRecDepth 20000 in
theorem gJ2_charAt_3b067_J2_getChar_3b067 : GoodIn wsJ2_charAt_3b067 (va_wsS RJ2 71 yJ2_getChar_3b067 wsJ2_getChar_3b067) := goodIn_app (goodIn_of _ (by decide +kernel)) ggJ2_charAt_3b067_J2_getChar_3b067
theorem dJ2_charAt_3b067_0 : decode cJ2_charAt_3b067 0 = .ok (.iload_n 1, 1) := by decide +kernel
theorem dJ2_charAt_3b067_1 : decode cJ2_charAt_3b067 1 = .ok (.aload_n 0, 1) := by decide +kernel
theorem dJ2_charAt_3b067_2 : decode cJ2_charAt_3b067 2 = .ok (.invokestatic 67, 3) := by decide +kernel
theorem dJ2_charAt_3b067_5 : decode cJ2_charAt_3b067 5 = .ok (.aload_n 0, 1) := by decide +kernel
theorem dJ2_charAt_3b067_6 : decode cJ2_charAt_3b067 6 = .ok (.iload_n 1, 1) := by decide +kernel
theorem dJ2_charAt_3b067_7 : decode cJ2_charAt_3b067 7 = .ok (.invokestatic 71, 3) := by decide +kernel
theorem dJ2_charAt_3b067_10 : decode cJ2_charAt_3b067 10 = .ok (.ireturn, 1) := by decide +kernel
set_option maxRecDepth 20000 in
theorem ggJ2_checkIndex_2214a_J2_length_9d52b : GoodIn wsJ2_checkIndex_2214a wsJ2_length_9d52b := goodIn_r _ [4] (by decide +kernel) (by decide +kernel)
set_option maxRecDepth 20000 in
theorem gJ2_checkIndex_2214a_J2_length_9d52b : GoodIn wsJ2_checkIndex_2214a (va_wsS RJ2 48 yJ2_length_9d52b wsJ2_length_9d52b) := goodIn_app (goodIn_of _ (by decide +kernel)) ggJ2_checkIndex_2214a_J2_length_9d52b
set_option maxRecDepth 20000 in
theorem ggJ2_checkIndex_2214a_J0_checkIndex_df160 : GoodIn wsJ2_checkIndex_2214a wsJ0_checkIndex_df160 := goodIn_r _ [8, 9, 10, 11, 12, 13] (by decide +kernel) (by decide +kernel)
set_option maxRecDepth 20000 in
theorem gJ2_checkIndex_2214a_J0_checkIndex_df160 : GoodIn wsJ2_checkIndex_2214a (va_wsS RJ2 414 yJ0_checkIndex_df160 wsJ0_checkIndex_df160) := goodIn_app (goodIn_of _ (by decide +kernel)) ggJ2_checkIndex_2214a_J0_checkIndex_df160
theorem dJ2_checkIndex_2214a_0 : decode cJ2_checkIndex_2214a 0 = .ok (.iload_n 0, 1) := by decide +kernel
theorem dJ2_checkIndex_2214a_1 : decode cJ2_checkIndex_2214a 1 = .ok (.aload_n 1, 1) := by decide +kernel
theorem dJ2_checkIndex_2214a_2 : decode cJ2_checkIndex_2214a 2 = .ok (.invokestatic 48, 3) := by decide +kernel
theorem dJ2_checkIndex_2214a_5 : decode cJ2_checkIndex_2214a 5 = .ok (.invokestatic 414, 3) := by decide +kernel
theorem dJ2_checkIndex_2214a_8 : decode cJ2_checkIndex_2214a 8 = .ok (.return_, 1) := by decide +kernel
theorem dJ3_checkIndex_8e157_0 : decode cJ3_checkIndex_8e157 0 = .ok (.iload_n 0, 1) := by decide +kernel
theorem dJ3_checkIndex_8e157_1 : decode cJ3_checkIndex_8e157 1 = .ok (.ifCond .lt 8, 3) := by decide +kernel
theorem dJ3_checkIndex_8e157_4 : decode cJ3_checkIndex_8e157 4 = .ok (.iload_n 0, 1) := by decide +kernel
theorem dJ3_checkIndex_8e157_5 : decode cJ3_checkIndex_8e157 5 = .ok (.iload_n 1, 1) := by decide +kernel
theorem dJ3_checkIndex_8e157_6 : decode cJ3_checkIndex_8e157 6 = .ok (.if_icmp .lt 10, 3) := by decide +kernel
theorem dJ3_checkIndex_8e157_9 : decode cJ3_checkIndex_8e157 9 = .ok (.aload_n 2, 1) := by decide +kernel
theorem dJ3_checkIndex_8e157_10 : decode cJ3_checkIndex_8e157 10 = .ok (.iload_n 0, 1) := by decide +kernel
theorem dJ3_checkIndex_8e157_11 : decode cJ3_checkIndex_8e157 11 = .ok (.iload_n 1, 1) := by decide +kernel
theorem dJ3_checkIndex_8e157_12 : decode cJ3_checkIndex_8e157 12 = .ok (.invokestatic 95, 3) := by decide +kernel
theorem dJ3_checkIndex_8e157_15 : decode cJ3_checkIndex_8e157 15 = .ok (.athrow, 1) := by decide +kernel
theorem dJ3_checkIndex_8e157_16 : decode cJ3_checkIndex_8e157 16 = .ok (.iload_n 0, 1) := by decide +kernel
theorem dJ3_checkIndex_8e157_17 : decode cJ3_checkIndex_8e157 17 = .ok (.ireturn, 1) := by decide +kernel
set_option maxRecDepth 20000 in
theorem ggL_law_X6_init : GoodIn wsL_law wsX6_init := goodIn_r _ [8, 9, 10, 11, 12, 13, 14, 15, 16, 17, 18, 19, 20, 21, 22, 23, 24, 25, 26, 27, 28, 29, 30, 31, 32, 33, 34, 35, 36, 37, 38, 39, 40, 41, 42, 43, 44, 45, 46, 47, 48, 49, 50, 51, 52, 53, 54, 55, 56, 57, 58, 59, 60, 61, 62, 63, 64, 65, 66, 67, 902, 903, 880, 881, 882, 883, 884, 904, 905, 906, 907, 908, 909, 910, 911, 912, 913, 914, 915, 916, 917, 918, 919, 920, 921, 922, 923] (by decide +kernel) (by decide +kernel)
set_option maxRecDepth 20000 in
theorem gL_law_X6_init : GoodIn wsL_law (wsX6_init) := ggL_law_X6_init
set_option maxRecDepth 20000 in
theorem ggL_law_X7_init : GoodIn wsL_law wsX7_init := goodIn_r _ [70, 71, 10, 11, 32, 72, 73, 74, 75, 76, 77, 78, 79, 80, 885, 886, 887, 888, 889, 890, 891, 892, 893, 894, 895, 896, 897, 898, 899, 900, 901] (by decide +kernel) (by decide +kernel)
set_option maxRecDepth 20000 in
theorem gL_law_X7_init : GoodIn wsL_law (wsX7_init) := ggL_law_X7_init
set_option maxRecDepth 20000 in
theorem ggL_law_X6_append : GoodIn wsL_law wsX6_append := goodIn_r _ [84, 15, 85, 86, 87, 14, 88, 89, 90, 91, 92, 93, 33, 94, 95, 96, 97, 880, 881, 882, 883, 884, 902, 903] (by decide +kernel) (by decide +kernel)
set_option maxRecDepth 20000 in
theorem gL_law_X6_append : GoodIn wsL_law (wsV RL 13 RX6 yX6_append wsX6_append) := goodIn_app (goodIn_of _ (by decide +kernel)) ggL_law_X6_append
set_option maxRecDepth 20000 in
theorem ggL_law_X7_append : GoodIn wsL_law wsX7_append := goodIn_r _ [101, 102, 103, 78, 104, 105, 5, 106, 885, 886, 887, 888, 889, 890, 891, 892, 893, 894, 895, 896, 897, 898, 899, 900, 901] (by decide +kernel) (by decide +kernel)
set_option maxRecDepth 20000 in
theorem gL_law_X7_append : GoodIn wsL_law (wsV RL 17 RX7 yX7_append wsX7_append) := goodIn_app (goodIn_of _ (by decide +kernel)) ggL_law_X7_append
set_option maxRecDepth 20000 in
theorem ggL_law_X6_clearText : GoodIn wsL_law wsX6_clearText := goodIn_r _ [110, 15, 94, 95, 96, 14, 97, 89, 111, 112, 113, 114, 880, 881, 882, 883, 884, 902, 903] (by decide +kernel) (by decide +kernel)
set_option maxRecDepth 20000 in
theorem gL_law_X6_clearText : GoodIn wsL_law (wsV RL 18 RX6 yX6_clearText wsX6_clearText) := goodIn_app (goodIn_of _ (by decide +kernel)) ggL_law_X6_clearText
set_option maxRecDepth 20000 in
theorem ggL_law_X7_clearText : GoodIn wsL_law wsX7_clearText := goodIn_r _ [118, 102, 103, 885, 886, 887, 888, 889, 890, 891, 892, 893, 894, 895, 896, 897, 898, 899, 900, 901] (by decide +kernel) (by decide +kernel)
set_option maxRecDepth 20000 in
theorem gL_law_X7_clearText : GoodIn wsL_law (wsV RL 22 RX7 yX7_clearText wsX7_clearText) := goodIn_app (goodIn_of _ (by decide +kernel)) ggL_law_X7_clearText
set_option maxRecDepth 20000 in
theorem ggL_law_X6_load : GoodIn wsL_law wsX6_load := goodIn_r _ [122, 19, 15, 27, 23, 28, 123, 124, 125, 18, 126, 40, 127, 128, 129, 130, 39, 131, 132, 133, 95, 96, 14, 97, 89, 134, 135, 136, 137, 138, 139, 140, 141, 33, 142, 143, 144, 145, 146, 147, 148, 149, 150, 151, 152, 153, 154, 155, 156, 157, 158, 159, 160, 161, 162, 163, 164, 165, 166, 167, 168, 169, 170, 171, 172, 173, 174, 175, 176, 177, 178, 179, 180, 181, 182, 183, 184, 185, 186, 187, 188, 189, 190, 191, 192, 193, 194, 195, 196, 197, 198, 199, 200, 201, 202, 203, 204, 205, 206, 207, 208, 209, 210, 211, 212, 213, 214, 215, 216, 217, 218, 219, 220, 221, 222, 223, 224, 225, 226, 227, 228, 229, 230, 231, 232, 233, 234, 235, 236, 237, 238, 239, 240, 241, 242, 243, 244, 245, 246, 247, 248, 249, 250, 251, 252, 253, 254, 255, 256, 257, 258, 259, 260, 261, 45, 46, 262, 263, 264, 265, 266, 267, 268, 26, 269, 270, 67, 66, 21, 22, 271, 47, 48, 49, 10, 11, 50, 38, 51, 52, 53, 54, 55, 56, 44, 57, 58, 41, 42, 43, 32, 59, 60, 61, 62, 272, 273, 274, 275, 276, 277, 278, 279, 280, 281, 282, 283, 284, 285, 286, 287, 288, 289, 290, 291, 292, 293, 294, 295, 296, 297, 298, 299, 300, 301, 302, 303, 304, 305, 306, 111, 112, 113, 114, 307, 308, 309, 310, 311, 312, 313, 314, 880, 881, 882, 883, 884, 904, 905, 906, 907, 908, 909, 910, 919, 920, 921, 902, 903, 916, 917, 918, 911, 912, 913, 914, 915, 922, 923] (by decide +kernel) (by decide +kernel)
set_option maxRecDepth 20000 in
theorem gL_law_X6_load : GoodIn wsL_law (wsV RL 23 RX6 yX6_load wsX6_load) := goodIn_app (goodIn_of _ (by decide +kernel)) ggL_law_X6_load
set_option maxRecDepth 20000 in
theorem ggL_law_X7_load : GoodIn wsL_law wsX7_load := goodIn_r _ [318, 102, 319, 72, 73, 103, 77, 320, 321, 322, 5, 323, 324, 325, 326, 327, 328, 329, 330, 331, 332, 333, 334, 335, 78, 104, 105, 106, 336, 337, 338, 339, 340, 341, 342, 343, 344, 345, 346, 347, 348, 349, 350, 351, 352, 353, 354, 355, 356, 357, 358, 359, 360, 361, 362, 363, 364, 365, 366, 367, 368, 369, 370, 371, 372, 373, 374, 375, 376, 377, 378, 379, 74, 380, 381, 382, 383, 885, 886, 887, 888, 889, 890, 891, 892, 893, 894, 895, 896, 897, 898, 899, 900, 901] (by decide +kernel) (by decide +kernel)
set_option maxRecDepth 20000 in
theorem gL_law_X7_load : GoodIn wsL_law (wsV RL 26 RX7 yX7_load wsX7_load) := goodIn_app (goodIn_of _ (by decide +kernel)) ggL_law_X7_load
set_option maxRecDepth 20000 in
theorem ggL_law_X6_remove : GoodIn wsL_law wsX6_remove := goodIn_r _ [387, 23, 27, 307, 308, 309, 22, 310, 51, 388, 389, 390, 39, 391, 132, 266, 267, 268, 26, 269, 270, 67, 66, 21, 271, 47, 48, 49, 10, 11, 50, 38, 52, 53, 54, 55, 56, 44, 57, 58, 41, 42, 43, 45, 32, 46, 59, 60, 61, 62, 272, 273, 274, 275, 276, 277, 278, 279, 280, 281, 282, 283, 284, 285, 286, 287, 288, 289, 290, 392, 393, 394, 395, 396, 397, 398, 399, 400, 299, 300, 301, 302, 303, 304, 305, 306, 311, 312, 313, 314, 880, 881, 882, 883, 884, 911, 912, 913, 914, 915, 919, 920, 921, 916, 917, 918, 922, 923] (by decide +kernel) (by decide +kernel)
set_option maxRecDepth 20000 in
theorem gL_law_X6_remove : GoodIn wsL_law (wsV RL 27 RX6 yX6_remove wsX6_remove) := goodIn_app (goodIn_of _ (by decide +kernel)) ggL_law_X6_remove
set_option maxRecDepth 20000 in
theorem ggL_law_X7_remove : GoodIn wsL_law wsX7_remove := goodIn_r _ [404, 102, 72, 405, 406, 407, 5, 408, 104, 105, 106, 375, 376, 377, 378, 379, 74, 380, 381, 382, 383, 885, 886, 887, 888, 889, 890, 891, 892, 893, 894, 895, 896, 897, 898, 899, 900, 901] (by decide +kernel) (by decide +kernel)
set_option maxRecDepth 20000 in
theorem gL_law_X7_remove : GoodIn wsL_law (wsV RL 30 RX7 yX7_remove wsX7_remove) := goodIn_app (goodIn_of _ (by decide +kernel)) ggL_law_X7_remove
set_option maxRecDepth 20000 in
theorem ggL_law_X6_setHard : GoodIn wsL_law wsX6_setHard := goodIn_r _ [412, 23, 27, 307, 308, 309, 22, 310, 51, 388, 389, 390, 39, 391, 132, 413, 414, 415, 416, 417, 418, 419, 420, 46, 400, 266, 267, 268, 26, 269, 270, 67, 66, 21, 271, 47, 48, 49, 10, 11, 50, 38, 52, 53, 54, 55, 56, 44, 57, 58, 41, 42, 43, 45, 32, 59, 60, 61, 62, 272, 273, 274, 275, 276, 277, 278, 279, 280, 281, 282, 283, 284, 285, 286, 287, 288, 289, 290, 421, 422, 423, 424, 425, 426, 427, 428, 299, 300, 301, 302, 303, 304, 305, 306, 429, 430, 431, 432, 433, 248, 249, 250, 251, 252, 253, 880, 881, 882, 883, 884, 911, 912, 913, 914, 915, 919, 920, 921, 916, 917, 918, 922, 923] (by decide +kernel) (by decide +kernel)
set_option maxRecDepth 20000 in
theorem gL_law_X6_setHard : GoodIn wsL_law (wsV RL 31 RX6 yX6_setHard wsX6_setHard) := goodIn_app (goodIn_of _ (by decide +kernel)) ggL_law_X6_setHard
set_option maxRecDepth 20000 in
theorem ggL_law_X7_setHard : GoodIn wsL_law wsX7_setHard := goodIn_r _ [437, 102, 72, 405, 406, 407, 5, 408, 104, 105, 106, 438, 439, 440, 441, 375, 376, 377, 378, 379, 74, 380, 381, 382, 383, 442, 443, 444, 445, 446, 447, 448, 885, 886, 887, 888, 889, 890, 891, 892, 893, 894, 895, 896, 897, 898, 899, 900, 901] (by decide +kernel) (by decide +kernel)
set_option maxRecDepth 20000 in
theorem gL_law_X7_setHard : GoodIn wsL_law (wsV RL 35 RX7 yX7_setHard wsX7_setHard) := goodIn_app (goodIn_of _ (by decide +kernel)) ggL_law_X7_setHard
set_option maxRecDepth 20000 in
theorem ggL_law_X6_setWeight : GoodIn wsL_law wsX6_setWeight := goodIn_r _ [452, 23, 27, 307, 308, 309, 22, 310, 51, 388, 389, 390, 39, 391, 132, 453, 418, 419, 420, 46, 400, 266, 267, 268, 26, 269, 270, 67, 66, 21, 271, 47, 48, 49, 10, 11, 50, 38, 52, 53, 54, 55, 56, 44, 57, 58, 41, 42, 43, 45, 32, 59, 60, 61, 62, 272, 273, 274, 275, 276, 277, 278, 279, 280, 281, 282, 283, 284, 285, 286, 287, 288, 289, 290, 454, 426, 427, 428, 880, 881, 882, 883, 884, 911, 912, 913, 914, 915, 919, 920, 921, 916, 917, 918, 922, 923] (by decide +kernel) (by decide +kernel)
set_option maxRecDepth 20000 in
theorem gL_law_X6_setWeight : GoodIn wsL_law (wsV RL 36 RX6 yX6_setWeight wsX6_setWeight) := goodIn_app (goodIn_of _ (by decide +kernel)) ggL_law_X6_setWeight
set_option maxRecDepth 20000 in
theorem ggL_law_X7_setWeight : GoodIn wsL_law wsX7_setWeight := goodIn_r _ [458, 102, 72, 405, 406, 407, 5, 408, 104, 105, 106, 438, 439, 440, 441, 375, 376, 377, 378, 379, 74, 885, 886, 887, 888, 889, 890, 891, 892, 893, 894, 895, 896, 897, 898, 899, 900, 901] (by decide +kernel) (by decide +kernel)
set_option maxRecDepth 20000 in
theorem gL_law_X7_setWeight : GoodIn wsL_law (wsV RL 39 RX7 yX7_setWeight wsX7_setWeight) := goodIn_app (goodIn_of _ (by decide +kernel)) ggL_law_X7_setWeight
set_option maxRecDepth 20000 in
theorem ggL_law_X6_setStrategy : GoodIn wsL_law wsX6_setStrategy := goodIn_r _ [462, 23, 27, 463, 464, 465, 22, 466, 58, 266, 267, 268, 26, 269, 270, 67, 66, 21, 271, 47, 48, 49, 10, 11, 50, 38, 39, 51, 52, 53, 54, 55, 56, 44, 57, 41, 42, 43, 45, 32, 46, 59, 60, 61, 62, 272, 273, 274, 275, 276, 277, 278, 279, 280, 281, 282, 283, 284, 132, 285, 286, 287, 288, 289, 290, 467, 468, 469, 470, 880, 881, 882, 883, 884, 911, 912, 913, 914, 915, 916, 917, 918, 919, 920, 921, 922, 923] (by decide +kernel) (by decide +kernel)
set_option maxRecDepth 20000 in
theorem gL_law_X6_setStrategy : GoodIn wsL_law (wsV RL 40 RX6 yX6_setStrategy wsX6_setStrategy) := goodIn_app (goodIn_of _ (by decide +kernel)) ggL_law_X6_setStrategy
set_option maxRecDepth 20000 in
theorem ggL_law_X7_setStrategy : GoodIn wsL_law wsX7_setStrategy := goodIn_r _ [474, 102, 72, 104, 105, 5, 106, 375, 376, 377, 378, 379, 74, 885, 886, 887, 888, 889, 890, 891, 892, 893, 894, 895, 896, 897, 898, 899, 900, 901] (by decide +kernel) (by decide +kernel)
set_option maxRecDepth 20000 in
theorem gL_law_X7_setStrategy : GoodIn wsL_law (wsV RL 43 RX7 yX7_setStrategy wsX7_setStrategy) := goodIn_app (goodIn_of _ (by decide +kernel)) ggL_law_X7_setStrategy
set_option maxRecDepth 20000 in
theorem ggL_law_X6_step : GoodIn wsL_law wsX6_step := goodIn_r _ [478, 23, 27, 479, 480, 481, 22, 482, 51, 58, 483, 430, 431, 39, 432, 132, 46, 484, 485, 486, 487, 57, 488, 248, 249, 250, 251, 252, 253, 266, 267, 268, 26, 269, 270, 67, 66, 21, 271, 47, 48, 49, 10, 11, 50, 38, 52, 53, 54, 55, 56, 44, 41, 42, 43, 45, 32, 59, 60, 61, 62, 272, 273, 274, 275, 276, 277, 278, 279, 280, 281, 282, 283, 284, 285, 286, 287, 288, 289, 290, 489, 490, 491, 492, 493, 494, 495, 496, 497, 498, 499, 500, 501, 502, 503, 504, 505, 506, 507, 508, 509, 510, 511, 512, 513, 514, 515, 516, 517, 518, 519, 520, 521, 522, 523, 524, 525, 526, 527, 880, 881, 882, 883, 884, 911, 912, 913, 914, 915, 919, 920, 921, 916, 917, 918, 922, 923] (by decide +kernel) (by decide +kernel)
set_option maxRecDepth 20000 in
theorem gL_law_X6_step : GoodIn wsL_law (wsV RL 44 RX6 yX6_step wsX6_step) := goodIn_app (goodIn_of _ (by decide +kernel)) ggL_law_X6_step
set_option maxRecDepth 20000 in
theorem ggL_law_X7_step : GoodIn wsL_law wsX7_step := goodIn_r _ [531, 102, 532, 533, 534, 5, 535, 79, 536, 537, 538, 539, 540, 72, 541, 542, 543, 544, 372, 373, 374, 438, 439, 440, 441, 545, 546, 547, 548, 442, 443, 444, 445, 549, 550, 551, 552, 80, 553, 554, 555, 556, 557, 558, 559, 560, 561, 562, 563, 564, 446, 447, 448, 375, 376, 377, 378, 379, 74, 565, 566, 567, 568, 569, 570, 571, 572, 573, 574, 575, 576, 577, 578, 579, 580, 581, 582, 583, 584, 885, 886, 887, 888, 889, 890, 891, 892, 893, 894, 895, 896, 897, 898, 899, 900, 901] (by decide +kernel) (by decide +kernel)
set_option maxRecDepth 20000 in
theorem gL_law_X7_step : GoodIn wsL_law (wsV RL 47 RX7 yX7_step wsX7_step) := goodIn_app (goodIn_of _ (by decide +kernel)) ggL_law_X7_step
set_option maxRecDepth 20000 in
theorem ggL_law_X6_finish : GoodIn wsL_law wsX6_finish := goodIn_r _ [588, 23, 27, 479, 480, 481, 22, 482, 51, 58, 483, 430, 431, 39, 432, 132, 46, 484, 485, 486, 487, 57, 488, 248, 249, 250, 251, 252, 253, 266, 267, 268, 26, 269, 270, 67, 66, 21, 271, 47, 48, 49, 10, 11, 50, 38, 52, 53, 54, 55, 56, 44, 41, 42, 43, 45, 32, 59, 60, 61, 62, 272, 273, 274, 275, 276, 277, 278, 279, 280, 281, 282, 283, 284, 285, 286, 287, 288, 289, 290, 489, 490, 491, 492, 493, 494, 495, 496, 497, 498, 499, 500, 501, 502, 503, 504, 505, 506, 507, 508, 509, 510, 511, 512, 513, 514, 515, 516, 517, 518, 519, 520, 521, 522, 523, 524, 525, 526, 527, 880, 881, 882, 883, 884, 911, 912, 913, 914, 915, 919, 920, 921, 916, 917, 918, 922, 923] (by decide +kernel) (by decide +kernel)
set_option maxRecDepth 20000 in
theorem gL_law_X6_finish : GoodIn wsL_law (wsV RL 48 RX6 yX6_finish wsX6_finish) := goodIn_app (goodIn_of _ (by decide +kernel)) ggL_law_X6_finish
set_option maxRecDepth 20000 in
theorem ggL_law_X7_finish : GoodIn wsL_law wsX7_finish := goodIn_r _ [592, 102, 532, 533, 534, 5, 535, 79, 536, 537, 538, 539, 540, 72, 541, 542, 543, 544, 372, 373, 374, 438, 439, 440, 441, 545, 546, 547, 548, 442, 443, 444, 445, 549, 550, 551, 552, 80, 553, 554, 555, 556, 557, 558, 559, 560, 561, 562, 563, 564, 446, 447, 448, 375, 376, 377, 378, 379, 74, 565, 566, 567, 568, 569, 570, 571, 572, 573, 574, 575, 576, 577, 578, 579, 580, 581, 582, 583, 584, 885, 886, 887, 888, 889, 890, 891, 892, 893, 894, 895, 896, 897, 898, 899, 900, 901] (by decide +kernel) (by decide +kernel)
set_option maxRecDepth 20000 in
theorem gL_law_X7_finish : GoodIn wsL_law (wsV RL 51 RX7 yX7_finish wsX7_finish) := goodIn_app (goodIn_of _ (by decide +kernel)) ggL_law_X7_finish
set_option maxRecDepth 20000 in
theorem ggL_law_X6_undo : GoodIn wsL_law wsX6_undo := goodIn_r _ [596, 27, 23, 597, 598, 599, 26, 600, 67, 270, 271, 272, 273, 274, 22, 275, 51, 55, 56, 57, 276, 277, 278, 279, 58, 280, 281, 282, 39, 283, 45, 284, 46, 132, 285, 286, 287, 54, 288, 62, 289, 290, 601, 602, 603, 604, 880, 881, 882, 883, 884, 916, 917, 918, 911, 912, 913, 914, 915, 919, 920, 921, 922, 923] (by decide +kernel) (by decide +kernel)
set_option maxRecDepth 20000 in
theorem gL_law_X6_undo : GoodIn wsL_law (wsV RL 52 RX6 yX6_undo wsX6_undo) := goodIn_app (goodIn_of _ (by decide +kernel)) ggL_law_X6_undo
set_option maxRecDepth 20000 in
theorem ggL_law_X7_undo : GoodIn wsL_law wsX7_undo := goodIn_r _ [608, 102, 379, 72, 74, 885, 886, 887, 888, 889, 890, 891, 892, 893, 894, 895, 896, 897, 898, 899, 900, 901] (by decide +kernel) (by decide +kernel)
set_option maxRecDepth 20000 in
theorem gL_law_X7_undo : GoodIn wsL_law (wsV RL 55 RX7 yX7_undo wsX7_undo) := goodIn_app (goodIn_of _ (by decide +kernel)) ggL_law_X7_undo
set_option maxRecDepth 20000 in
theorem ggL_law_X6_seed : GoodIn wsL_law wsX6_seed := goodIn_r _ [612, 23, 479, 480, 481, 22, 482, 51, 58, 483, 430, 431, 39, 432, 132, 46, 484, 485, 486, 487, 57, 488, 248, 249, 250, 251, 252, 253, 880, 881, 882, 883, 884, 911, 912, 913, 914, 915, 919, 920, 921] (by decide +kernel) (by decide +kernel)
set_option maxRecDepth 20000 in
theorem gL_law_X6_seed : GoodIn wsL_law (wsV RL 56 RX6 yX6_seed wsX6_seed) := goodIn_app (goodIn_of _ (by decide +kernel)) ggL_law_X6_seed
set_option maxRecDepth 20000 in
theorem ggL_law_X7_seed : GoodIn wsL_law wsX7_seed := goodIn_r _ [616, 102, 549, 550, 551, 5, 552, 80, 72, 442, 443, 444, 445, 438, 439, 440, 441, 553, 554, 555, 556, 557, 558, 559, 560, 561, 562, 563, 564, 446, 447, 448, 885, 886, 887, 888, 889, 890, 891, 892, 893, 894, 895, 896, 897, 898, 899, 900, 901] (by decide +kernel) (by decide +kernel)
set_option maxRecDepth 20000 in
theorem gL_law_X7_seed : GoodIn wsL_law (wsV RL 59 RX7 yX7_seed wsX7_seed) := goodIn_app (goodIn_of _ (by decide +kernel)) ggL_law_X7_seed
set_option maxRecDepth 20000 in
theorem ggL_law_X6_unexploredCount : GoodIn wsL_law wsX6_unexploredCount := goodIn_r _ [620, 23, 621, 622, 623, 22, 624, 51, 483, 430, 431, 39, 432, 132, 46, 484, 485, 486, 487, 57, 880, 881, 882, 883, 884, 911, 912, 913, 914, 915, 919, 920, 921] (by decide +kernel) (by decide +kernel)
set_option maxRecDepth 20000 in
theorem gL_law_X6_unexploredCount : GoodIn wsL_law (wsV RL 60 RX6 yX6_unexploredCount wsX6_unexploredCount) := goodIn_app (goodIn_of _ (by decide +kernel)) ggL_law_X6_unexploredCount
set_option maxRecDepth 20000 in
theorem ggL_law_X7_unexploredCount : GoodIn wsL_law wsX7_unexploredCount := goodIn_r _ [628, 102, 80, 549, 550, 551, 5, 552, 72, 442, 443, 444, 445, 438, 439, 440, 441, 553, 554, 555, 556, 557, 558, 559, 560, 885, 886, 887, 888, 889, 890, 891, 892, 893, 894, 895, 896, 897, 898, 899, 900, 901] (by decide +kernel) (by decide +kernel)
set_option maxRecDepth 20000 in
theorem gL_law_X7_unexploredCount : GoodIn wsL_law (wsV RL 63 RX7 yX7_unexploredCount wsX7_unexploredCount) := goodIn_app (goodIn_of _ (by decide +kernel)) ggL_law_X7_unexploredCount
set_option maxRecDepth 20000 in
theorem ggL_law_X6_musCount : GoodIn wsL_law wsX6_musCount := goodIn_r _ [632, 23, 633, 634, 635, 22, 636, 55, 637, 638, 639, 54, 640, 290, 880, 881, 882, 883, 884, 911, 912, 913, 914, 915, 922, 923] (by decide +kernel) (by decide +kernel)
set_option maxRecDepth 20000 in
theorem gL_law_X6_musCount : GoodIn wsL_law (wsV RL 64 RX6 yX6_musCount wsX6_musCount) := goodIn_app (goodIn_of _ (by decide +kernel)) ggL_law_X6_musCount
