theorem dX4_copyFrom_39 : decode cX4_copyFrom 39 = .ok (.getfield 28, 3) := by decide +kernel
theorem dX4_copyFrom_42 : decode cX4_copyFrom 42 = .ok (.iconst 0, 1) := by decide +kernel
theorem dX4_copyFrom_43 : decode cX4_copyFrom 43 = .ok (.bipush 16, 2) := by decide +kernel
theorem dX4_copyFrom_45 : decode cX4_copyFrom 45 = .ok (.invokestatic 43, 3) := by decide +kernel
theorem dX4_copyFrom_48 : decode cX4_copyFrom 48 = .ok (.aload_n 0, 1) := by decide +kernel
theorem dX4_copyFrom_49 : decode cX4_copyFrom 49 = .ok (.aload_n 1, 1) := by decide +kernel
theorem dX4_copyFrom_50 : decode cX4_copyFrom 50 = .ok (.getfield 32, 3) := by decide +kernel
theorem dX4_copyFrom_53 : decode cX4_copyFrom 53 = .ok (.putfield 32, 3) := by decide +kernel
theorem dX4_copyFrom_56 : decode cX4_copyFrom 56 = .ok (.return_, 1) := by decide +kernel
set_option maxRecDepth 20000 in
theorem ggX4_replaceSystem_X0_copyFrom : GoodIn wsX4_replaceSystem wsX0_copyFrom := goodIn_r _ [6, 7, 8, 9, 10, 11, 12, 13, 33, 34, 35] (by decide +kernel) (by decide +kernel)
set_option maxRecDepth 20000 in
theorem gX4_replaceSystem_X0_copyFrom : GoodIn wsX4_replaceSystem (wsV RX4 36 RX0 yX0_copyFrom wsX0_copyFrom) := goodIn_app (goodIn_of _ (by decide +kernel)) ggX4_replaceSystem_X0_copyFrom
set_option maxRecDepth 20000 in
theorem ggX4_replaceSystem_X4_forgetFindings : GoodIn wsX4_replaceSystem wsX4_forgetFindings := goodIn_r _ [18, 19, 20, 21, 22, 23, 24, 25, 26, 27, 28, 29, 30, 31, 32, 36, 37] (by decide +kernel) (by decide +kernel)
set_option maxRecDepth 20000 in
theorem gX4_replaceSystem_X4_forgetFindings : GoodIn wsX4_replaceSystem (wsV RX4 49 RX4 yX4_forgetFindings wsX4_forgetFindings) := goodIn_app (goodIn_of _ (by decide +kernel)) ggX4_replaceSystem_X4_forgetFindings
theorem dX4_replaceSystem_0 : decode cX4_replaceSystem 0 = .ok (.aload_n 0, 1) := by decide +kernel
theorem dX4_replaceSystem_1 : decode cX4_replaceSystem 1 = .ok (.getfield 12, 3) := by decide +kernel
theorem dX4_replaceSystem_4 : decode cX4_replaceSystem 4 = .ok (.aload_n 1, 1) := by decide +kernel
theorem dX4_replaceSystem_5 : decode cX4_replaceSystem 5 = .ok (.invokevirtual 36, 3) := by decide +kernel
theorem dX4_replaceSystem_8 : decode cX4_replaceSystem 8 = .ok (.aload_n 0, 1) := by decide +kernel
theorem dX4_replaceSystem_9 : decode cX4_replaceSystem 9 = .ok (.invokevirtual 49, 3) := by decide +kernel
theorem dX4_replaceSystem_12 : decode cX4_replaceSystem 12 = .ok (.return_, 1) := by decide +kernel
set_option maxRecDepth 20000 in
theorem ggX4_deleteConstraint_X0_delete : GoodIn wsX4_deleteConstraint wsX0_delete := goodIn_r _ [6, 7, 8, 9, 10, 11, 12, 5, 13, 33, 34, 35] (by decide +kernel) (by decide +kernel)
set_option maxRecDepth 20000 in
theorem gX4_deleteConstraint_X0_delete : GoodIn wsX4_deleteConstraint (wsV RX4 52 RX0 yX0_delete wsX0_delete) := goodIn_app (goodIn_of _ (by decide +kernel)) ggX4_deleteConstraint_X0_delete
set_option maxRecDepth 20000 in
theorem ggX4_deleteConstraint_X4_forgetFindings : GoodIn wsX4_deleteConstraint wsX4_forgetFindings := goodIn_r _ [18, 19, 20, 21, 22, 23, 24, 25, 26, 27, 28, 29, 30, 31, 32, 36, 37] (by decide +kernel) (by decide +kernel)
set_option maxRecDepth 20000 in
theorem gX4_deleteConstraint_X4_forgetFindings : GoodIn wsX4_deleteConstraint (wsV RX4 49 RX4 yX4_forgetFindings wsX4_forgetFindings) := goodIn_app (goodIn_of _ (by decide +kernel)) ggX4_deleteConstraint_X4_forgetFindings
theorem dX4_deleteConstraint_0 : decode cX4_deleteConstraint 0 = .ok (.aload_n 0, 1) := by decide +kernel
theorem dX4_deleteConstraint_1 : decode cX4_deleteConstraint 1 = .ok (.getfield 12, 3) := by decide +kernel
theorem dX4_deleteConstraint_4 : decode cX4_deleteConstraint 4 = .ok (.iload_n 1, 1) := by decide +kernel
theorem dX4_deleteConstraint_5 : decode cX4_deleteConstraint 5 = .ok (.invokevirtual 52, 3) := by decide +kernel
theorem dX4_deleteConstraint_8 : decode cX4_deleteConstraint 8 = .ok (.aload_n 0, 1) := by decide +kernel
theorem dX4_deleteConstraint_9 : decode cX4_deleteConstraint 9 = .ok (.invokevirtual 49, 3) := by decide +kernel
theorem dX4_deleteConstraint_12 : decode cX4_deleteConstraint 12 = .ok (.return_, 1) := by decide +kernel
set_option maxRecDepth 20000 in
theorem ggX4_changeHardness_X0_changeWeight : GoodIn wsX4_changeHardness wsX0_changeWeight := goodIn_r _ [6, 7, 8, 9, 10, 5, 11, 12, 32, 33, 34] (by decide +kernel) (by decide +kernel)
set_option maxRecDepth 20000 in
theorem gX4_changeHardness_X0_changeWeight : GoodIn wsX4_changeHardness (wsV RX4 56 RX0 yX0_changeWeight wsX0_changeWeight) := goodIn_app (goodIn_of _ (by decide +kernel)) ggX4_changeHardness_X0_changeWeight
set_option maxRecDepth 20000 in
theorem ggX4_changeHardness_X4_forgetFindings : GoodIn wsX4_changeHardness wsX4_forgetFindings := goodIn_r _ [17, 18, 19, 20, 21, 22, 23, 24, 25, 26, 27, 28, 29, 30, 31, 35, 36] (by decide +kernel) (by decide +kernel)
set_option maxRecDepth 20000 in
theorem gX4_changeHardness_X4_forgetFindings : GoodIn wsX4_changeHardness (wsV RX4 49 RX4 yX4_forgetFindings wsX4_forgetFindings) := goodIn_app (goodIn_of _ (by decide +kernel)) ggX4_changeHardness_X4_forgetFindings
theorem dX4_changeHardness_0 : decode cX4_changeHardness 0 = .ok (.aload_n 0, 1) := by decide +kernel
theorem dX4_changeHardness_1 : decode cX4_changeHardness 1 = .ok (.getfield 12, 3) := by decide +kernel
theorem dX4_changeHardness_4 : decode cX4_changeHardness 4 = .ok (.iload_n 1, 1) := by decide +kernel
theorem dX4_changeHardness_5 : decode cX4_changeHardness 5 = .ok (.iload_n 2, 1) := by decide +kernel
theorem dX4_changeHardness_6 : decode cX4_changeHardness 6 = .ok (.ifCond .eq 7, 3) := by decide +kernel
theorem dX4_changeHardness_9 : decode cX4_changeHardness 9 = .ok (.iconst 0, 1) := by decide +kernel
theorem dX4_changeHardness_10 : decode cX4_changeHardness 10 = .ok (.goto 4, 3) := by decide +kernel
theorem dX4_changeHardness_13 : decode cX4_changeHardness 13 = .ok (.iconst 1, 1) := by decide +kernel
theorem dX4_changeHardness_14 : decode cX4_changeHardness 14 = .ok (.invokevirtual 56, 3) := by decide +kernel
theorem dX4_changeHardness_17 : decode cX4_changeHardness 17 = .ok (.aload_n 0, 1) := by decide +kernel
theorem dX4_changeHardness_18 : decode cX4_changeHardness 18 = .ok (.invokevirtual 49, 3) := by decide +kernel
theorem dX4_changeHardness_21 : decode cX4_changeHardness 21 = .ok (.return_, 1) := by decide +kernel
theorem dX4_changeStrategy_0 : decode cX4_changeStrategy 0 = .ok (.aload_n 0, 1) := by decide +kernel
theorem dX4_changeStrategy_1 : decode cX4_changeStrategy 1 = .ok (.iload_n 1, 1) := by decide +kernel
theorem dX4_changeStrategy_2 : decode cX4_changeStrategy 2 = .ok (.putfield 32, 3) := by decide +kernel
theorem dX4_changeStrategy_5 : decode cX4_changeStrategy 5 = .ok (.return_, 1) := by decide +kernel
set_option maxRecDepth 20000 in
theorem ggX4_forgetFindings_X3_clear : GoodIn wsX4_forgetFindings wsX3_clear := goodIn_r _ [8, 9, 15, 16] (by decide +kernel) (by decide +kernel)
set_option maxRecDepth 20000 in
theorem gX4_forgetFindings_X3_clear : GoodIn wsX4_forgetFindings (wsV RX4 60 RX3 yX3_clear wsX3_clear) := goodIn_app (goodIn_of _ (by decide +kernel)) ggX4_forgetFindings_X3_clear
theorem dX4_forgetFindings_0 : decode cX4_forgetFindings 0 = .ok (.aload_n 0, 1) := by decide +kernel
theorem dX4_forgetFindings_1 : decode cX4_forgetFindings 1 = .ok (.getfield 21, 3) := by decide +kernel
theorem dX4_forgetFindings_4 : decode cX4_forgetFindings 4 = .ok (.invokevirtual 60, 3) := by decide +kernel
theorem dX4_forgetFindings_7 : decode cX4_forgetFindings 7 = .ok (.aload_n 0, 1) := by decide +kernel
theorem dX4_forgetFindings_8 : decode cX4_forgetFindings 8 = .ok (.getfield 25, 3) := by decide +kernel
theorem dX4_forgetFindings_11 : decode cX4_forgetFindings 11 = .ok (.invokevirtual 60, 3) := by decide +kernel
theorem dX4_forgetFindings_14 : decode cX4_forgetFindings 14 = .ok (.iconst 0, 1) := by decide +kernel
theorem dX4_forgetFindings_15 : decode cX4_forgetFindings 15 = .ok (.istore_n 1, 1) := by decide +kernel
theorem dX4_forgetFindings_16 : decode cX4_forgetFindings 16 = .ok (.iload_n 1, 1) := by decide +kernel
theorem dX4_forgetFindings_17 : decode cX4_forgetFindings 17 = .ok (.bipush 16, 2) := by decide +kernel
theorem dX4_forgetFindings_19 : decode cX4_forgetFindings 19 = .ok (.if_icmp .ge 16, 3) := by decide +kernel
theorem dX4_forgetFindings_22 : decode cX4_forgetFindings 22 = .ok (.aload_n 0, 1) := by decide +kernel
theorem dX4_forgetFindings_23 : decode cX4_forgetFindings 23 = .ok (.getfield 28, 3) := by decide +kernel
theorem dX4_forgetFindings_26 : decode cX4_forgetFindings 26 = .ok (.iload_n 1, 1) := by decide +kernel
theorem dX4_forgetFindings_27 : decode cX4_forgetFindings 27 = .ok (.lconst 0, 1) := by decide +kernel
theorem dX4_forgetFindings_28 : decode cX4_forgetFindings 28 = .ok (.lastore, 1) := by decide +kernel
theorem dX4_forgetFindings_29 : decode cX4_forgetFindings 29 = .ok (.iinc 1 1, 3) := by decide +kernel
theorem dX4_forgetFindings_32 : decode cX4_forgetFindings 32 = .ok (.goto (-16), 3) := by decide +kernel
theorem dX4_forgetFindings_35 : decode cX4_forgetFindings 35 = .ok (.return_, 1) := by decide +kernel
theorem dX4_isExplored_0 : decode cX4_isExplored 0 = .ok (.iload_n 1, 1) := by decide +kernel
theorem dX4_isExplored_1 : decode cX4_isExplored 1 = .ok (.bipush 6, 2) := by decide +kernel
theorem dX4_isExplored_3 : decode cX4_isExplored 3 = .ok (.ishr, 1) := by decide +kernel
theorem dX4_isExplored_4 : decode cX4_isExplored 4 = .ok (.istore_n 2, 1) := by decide +kernel
theorem dX4_isExplored_5 : decode cX4_isExplored 5 = .ok (.iload_n 2, 1) := by decide +kernel
theorem dX4_isExplored_6 : decode cX4_isExplored 6 = .ok (.ifCond .lt 31, 3) := by decide +kernel
theorem dX4_isExplored_9 : decode cX4_isExplored 9 = .ok (.iload_n 2, 1) := by decide +kernel
theorem dX4_isExplored_10 : decode cX4_isExplored 10 = .ok (.bipush 16, 2) := by decide +kernel
theorem dX4_isExplored_12 : decode cX4_isExplored 12 = .ok (.if_icmp .ge 25, 3) := by decide +kernel
theorem dX4_isExplored_15 : decode cX4_isExplored 15 = .ok (.aload_n 0, 1) := by decide +kernel
theorem dX4_isExplored_16 : decode cX4_isExplored 16 = .ok (.getfield 28, 3) := by decide +kernel
theorem dX4_isExplored_19 : decode cX4_isExplored 19 = .ok (.iload_n 2, 1) := by decide +kernel
theorem dX4_isExplored_20 : decode cX4_isExplored 20 = .ok (.laload, 1) := by decide +kernel
theorem dX4_isExplored_21 : decode cX4_isExplored 21 = .ok (.iload_n 1, 1) := by decide +kernel
theorem dX4_isExplored_22 : decode cX4_isExplored 22 = .ok (.bipush 63, 2) := by decide +kernel
theorem dX4_isExplored_24 : decode cX4_isExplored 24 = .ok (.iand, 1) := by decide +kernel
theorem dX4_isExplored_25 : decode cX4_isExplored 25 = .ok (.lushr, 1) := by decide +kernel
theorem dX4_isExplored_26 : decode cX4_isExplored 26 = .ok (.lconst 1, 1) := by decide +kernel
theorem dX4_isExplored_27 : decode cX4_isExplored 27 = .ok (.land, 1) := by decide +kernel
theorem dX4_isExplored_28 : decode cX4_isExplored 28 = .ok (.lconst 1, 1) := by decide +kernel
theorem dX4_isExplored_29 : decode cX4_isExplored 29 = .ok (.lcmp, 1) := by decide +kernel
theorem dX4_isExplored_30 : decode cX4_isExplored 30 = .ok (.ifCond .ne 7, 3) := by decide +kernel
theorem dX4_isExplored_33 : decode cX4_isExplored 33 = .ok (.iconst 1, 1) := by decide +kernel
theorem dX4_isExplored_34 : decode cX4_isExplored 34 = .ok (.goto 4, 3) := by decide +kernel
theorem dX4_isExplored_37 : decode cX4_isExplored 37 = .ok (.iconst 0, 1) := by decide +kernel
theorem dX4_isExplored_38 : decode cX4_isExplored 38 = .ok (.ireturn, 1) := by decide +kernel
theorem dX4_markExplored_0 : decode cX4_markExplored 0 = .ok (.iload_n 1, 1) := by decide +kernel
theorem dX4_markExplored_1 : decode cX4_markExplored 1 = .ok (.bipush 6, 2) := by decide +kernel
theorem dX4_markExplored_3 : decode cX4_markExplored 3 = .ok (.ishr, 1) := by decide +kernel
theorem dX4_markExplored_4 : decode cX4_markExplored 4 = .ok (.istore_n 2, 1) := by decide +kernel
theorem dX4_markExplored_5 : decode cX4_markExplored 5 = .ok (.iload_n 2, 1) := by decide +kernel
theorem dX4_markExplored_6 : decode cX4_markExplored 6 = .ok (.ifCond .lt 24, 3) := by decide +kernel
theorem dX4_markExplored_9 : decode cX4_markExplored 9 = .ok (.iload_n 2, 1) := by decide +kernel
theorem dX4_markExplored_10 : decode cX4_markExplored 10 = .ok (.bipush 16, 2) := by decide +kernel
theorem dX4_markExplored_12 : decode cX4_markExplored 12 = .ok (.if_icmp .ge 18, 3) := by decide +kernel
theorem dX4_markExplored_15 : decode cX4_markExplored 15 = .ok (.aload_n 0, 1) := by decide +kernel
theorem dX4_markExplored_16 : decode cX4_markExplored 16 = .ok (.getfield 28, 3) := by decide +kernel
theorem dX4_markExplored_19 : decode cX4_markExplored 19 = .ok (.iload_n 2, 1) := by decide +kernel
theorem dX4_markExplored_20 : decode cX4_markExplored 20 = .ok (.dup2, 1) := by decide +kernel
theorem dX4_markExplored_21 : decode cX4_markExplored 21 = .ok (.laload, 1) := by decide +kernel
theorem dX4_markExplored_22 : decode cX4_markExplored 22 = .ok (.lconst 1, 1) := by decide +kernel
theorem dX4_markExplored_23 : decode cX4_markExplored 23 = .ok (.iload_n 1, 1) := by decide +kernel
theorem dX4_markExplored_24 : decode cX4_markExplored 24 = .ok (.bipush 63, 2) := by decide +kernel
theorem dX4_markExplored_26 : decode cX4_markExplored 26 = .ok (.iand, 1) := by decide +kernel
theorem dX4_markExplored_27 : decode cX4_markExplored 27 = .ok (.lshl, 1) := by decide +kernel
theorem dX4_markExplored_28 : decode cX4_markExplored 28 = .ok (.lor, 1) := by decide +kernel
theorem dX4_markExplored_29 : decode cX4_markExplored 29 = .ok (.lastore, 1) := by decide +kernel
theorem dX4_markExplored_30 : decode cX4_markExplored 30 = .ok (.return_, 1) := by decide +kernel
set_option maxRecDepth 20000 in
theorem ggX4_countUnexplored_X0_softMask : GoodIn wsX4_countUnexplored wsX0_softMask := goodIn_r _ [6, 7, 8, 20, 21, 22] (by decide +kernel) (by decide +kernel)
set_option maxRecDepth 20000 in
theorem gX4_countUnexplored_X0_softMask : GoodIn wsX4_countUnexplored (wsV RX4 63 RX0 yX0_softMask wsX0_softMask) := goodIn_app (goodIn_of _ (by decide +kernel)) ggX4_countUnexplored_X0_softMask
set_option maxRecDepth 20000 in
theorem ggX4_countUnexplored_X4_isExplored : GoodIn wsX4_countUnexplored wsX4_isExplored := goodIn_r _ [13, 14, 15, 16, 17, 18, 19] (by decide +kernel) (by decide +kernel)
set_option maxRecDepth 20000 in
theorem gX4_countUnexplored_X4_isExplored : GoodIn wsX4_countUnexplored (wsV RX4 67 RX4 yX4_isExplored wsX4_isExplored) := goodIn_app (goodIn_of _ (by decide +kernel)) ggX4_countUnexplored_X4_isExplored
theorem dX4_countUnexplored_0 : decode cX4_countUnexplored 0 = .ok (.aload_n 0, 1) := by decide +kernel
theorem dX4_countUnexplored_1 : decode cX4_countUnexplored 1 = .ok (.getfield 12, 3) := by decide +kernel
theorem dX4_countUnexplored_4 : decode cX4_countUnexplored 4 = .ok (.invokevirtual 63, 3) := by decide +kernel
theorem dX4_countUnexplored_7 : decode cX4_countUnexplored 7 = .ok (.istore_n 1, 1) := by decide +kernel
theorem dX4_countUnexplored_8 : decode cX4_countUnexplored 8 = .ok (.iconst 0, 1) := by decide +kernel
theorem dX4_countUnexplored_9 : decode cX4_countUnexplored 9 = .ok (.istore_n 2, 1) := by decide +kernel
theorem dX4_countUnexplored_10 : decode cX4_countUnexplored 10 = .ok (.iconst 0, 1) := by decide +kernel
theorem dX4_countUnexplored_11 : decode cX4_countUnexplored 11 = .ok (.istore_n 3, 1) := by decide +kernel
theorem dX4_countUnexplored_12 : decode cX4_countUnexplored 12 = .ok (.iload_n 3, 1) := by decide +kernel
theorem dX4_countUnexplored_13 : decode cX4_countUnexplored 13 = .ok (.iload_n 1, 1) := by decide +kernel
theorem dX4_countUnexplored_14 : decode cX4_countUnexplored 14 = .ok (.if_icmp .gt 28, 3) := by decide +kernel
theorem dX4_countUnexplored_17 : decode cX4_countUnexplored 17 = .ok (.iload_n 3, 1) := by decide +kernel
theorem dX4_countUnexplored_18 : decode cX4_countUnexplored 18 = .ok (.iload_n 1, 1) := by decide +kernel
theorem dX4_countUnexplored_19 : decode cX4_countUnexplored 19 = .ok (.iconst (-1), 1) := by decide +kernel
theorem dX4_countUnexplored_20 : decode cX4_countUnexplored 20 = .ok (.ixor, 1) := by decide +kernel
theorem dX4_countUnexplored_21 : decode cX4_countUnexplored 21 = .ok (.iand, 1) := by decide +kernel
theorem dX4_countUnexplored_22 : decode cX4_countUnexplored 22 = .ok (.ifCond .ne 14, 3) := by decide +kernel
theorem dX4_countUnexplored_25 : decode cX4_countUnexplored 25 = .ok (.aload_n 0, 1) := by decide +kernel
theorem dX4_countUnexplored_26 : decode cX4_countUnexplored 26 = .ok (.iload_n 3, 1) := by decide +kernel
theorem dX4_countUnexplored_27 : decode cX4_countUnexplored 27 = .ok (.invokevirtual 67, 3) := by decide +kernel
theorem dX4_countUnexplored_30 : decode cX4_countUnexplored 30 = .ok (.ifCond .ne 6, 3) := by decide +kernel
theorem dX4_countUnexplored_33 : decode cX4_countUnexplored 33 = .ok (.iinc 2 1, 3) := by decide +kernel
theorem dX4_countUnexplored_36 : decode cX4_countUnexplored 36 = .ok (.iinc 3 1, 3) := by decide +kernel
theorem dX4_countUnexplored_39 : decode cX4_countUnexplored 39 = .ok (.goto (-27), 3) := by decide +kernel
theorem dX4_countUnexplored_42 : decode cX4_countUnexplored 42 = .ok (.iload_n 2, 1) := by decide +kernel
theorem dX4_countUnexplored_43 : decode cX4_countUnexplored 43 = .ok (.ireturn, 1) := by decide +kernel
set_option maxRecDepth 20000 in
theorem ggX4_nextSeed_X0_softMask : GoodIn wsX4_nextSeed wsX0_softMask := goodIn_r _ [7, 8, 9, 28, 29, 30] (by decide +kernel) (by decide +kernel)
set_option maxRecDepth 20000 in
theorem gX4_nextSeed_X0_softMask : GoodIn wsX4_nextSeed (wsV RX4 63 RX0 yX0_softMask wsX0_softMask) := goodIn_app (goodIn_of _ (by decide +kernel)) ggX4_nextSeed_X0_softMask
set_option maxRecDepth 20000 in
theorem ggX4_nextSeed_X4_isExplored : GoodIn wsX4_nextSeed wsX4_isExplored := goodIn_r _ [14, 15, 23, 24, 25, 26, 27] (by decide +kernel) (by decide +kernel)
set_option maxRecDepth 20000 in
theorem gX4_nextSeed_X4_isExplored : GoodIn wsX4_nextSeed (wsV RX4 67 RX4 yX4_isExplored wsX4_isExplored) := goodIn_app (goodIn_of _ (by decide +kernel)) ggX4_nextSeed_X4_isExplored
set_option maxRecDepth 20000 in
theorem ggX4_nextSeed_J6_bitCount_0f7a4 : GoodIn wsX4_nextSeed wsJ6_bitCount_0f7a4 := goodIn_r _ [19, 20, 21, 22] (by decide +kernel) (by decide +kernel)
set_option maxRecDepth 20000 in
theorem gX4_nextSeed_J6_bitCount_0f7a4 : GoodIn wsX4_nextSeed (va_wsS RX4 71 yJ6_bitCount_0f7a4 wsJ6_bitCount_0f7a4) := goodIn_app (goodIn_of _ (by decide +kernel)) ggX4_nextSeed_J6_bitCount_0f7a4
theorem dX4_nextSeed_0 : decode cX4_nextSeed 0 = .ok (.aload_n 0, 1) := by decide +kernel
theorem dX4_nextSeed_1 : decode cX4_nextSeed 1 = .ok (.getfield 12, 3) := by decide +kernel
theorem dX4_nextSeed_4 : decode cX4_nextSeed 4 = .ok (.invokevirtual 63, 3) := by decide +kernel
theorem dX4_nextSeed_7 : decode cX4_nextSeed 7 = .ok (.istore_n 1, 1) := by decide +kernel
theorem dX4_nextSeed_8 : decode cX4_nextSeed 8 = .ok (.bipush (-9), 2) := by decide +kernel
theorem dX4_nextSeed_10 : decode cX4_nextSeed 10 = .ok (.istore_n 2, 1) := by decide +kernel
theorem dX4_nextSeed_11 : decode cX4_nextSeed 11 = .ok (.iconst 0, 1) := by decide +kernel
theorem dX4_nextSeed_12 : decode cX4_nextSeed 12 = .ok (.istore_n 3, 1) := by decide +kernel
theorem dX4_nextSeed_13 : decode cX4_nextSeed 13 = .ok (.iconst 0, 1) := by decide +kernel
theorem dX4_nextSeed_14 : decode cX4_nextSeed 14 = .ok (.istore 4, 2) := by decide +kernel
theorem dX4_nextSeed_16 : decode cX4_nextSeed 16 = .ok (.iload 4, 2) := by decide +kernel
theorem dX4_nextSeed_18 : decode cX4_nextSeed 18 = .ok (.iload_n 1, 1) := by decide +kernel
theorem dX4_nextSeed_19 : decode cX4_nextSeed 19 = .ok (.if_icmp .gt 85, 3) := by decide +kernel
theorem dX4_nextSeed_22 : decode cX4_nextSeed 22 = .ok (.iload 4, 2) := by decide +kernel
theorem dX4_nextSeed_24 : decode cX4_nextSeed 24 = .ok (.iload_n 1, 1) := by decide +kernel
theorem dX4_nextSeed_25 : decode cX4_nextSeed 25 = .ok (.iconst (-1), 1) := by decide +kernel
theorem dX4_nextSeed_26 : decode cX4_nextSeed 26 = .ok (.ixor, 1) := by decide +kernel
theorem dX4_nextSeed_27 : decode cX4_nextSeed 27 = .ok (.iand, 1) := by decide +kernel
theorem dX4_nextSeed_28 : decode cX4_nextSeed 28 = .ok (.ifCond .ne 70, 3) := by decide +kernel
theorem dX4_nextSeed_31 : decode cX4_nextSeed 31 = .ok (.aload_n 0, 1) := by decide +kernel
theorem dX4_nextSeed_32 : decode cX4_nextSeed 32 = .ok (.iload 4, 2) := by decide +kernel
theorem dX4_nextSeed_34 : decode cX4_nextSeed 34 = .ok (.invokevirtual 67, 3) := by decide +kernel
theorem dX4_nextSeed_37 : decode cX4_nextSeed 37 = .ok (.ifCond .ne 61, 3) := by decide +kernel
theorem dX4_nextSeed_40 : decode cX4_nextSeed 40 = .ok (.iload 4, 2) := by decide +kernel
theorem dX4_nextSeed_42 : decode cX4_nextSeed 42 = .ok (.invokestatic 71, 3) := by decide +kernel
theorem dX4_nextSeed_45 : decode cX4_nextSeed 45 = .ok (.istore 5, 2) := by decide +kernel
theorem dX4_nextSeed_47 : decode cX4_nextSeed 47 = .ok (.aload_n 0, 1) := by decide +kernel
theorem dX4_nextSeed_48 : decode cX4_nextSeed 48 = .ok (.getfield 32, 3) := by decide +kernel
theorem dX4_nextSeed_51 : decode cX4_nextSeed 51 = .ok (.ifCond .ne 17, 3) := by decide +kernel
theorem dX4_nextSeed_54 : decode cX4_nextSeed 54 = .ok (.iload 5, 2) := by decide +kernel
theorem dX4_nextSeed_56 : decode cX4_nextSeed 56 = .ok (.iload_n 3, 1) := by decide +kernel
theorem dX4_nextSeed_57 : decode cX4_nextSeed 57 = .ok (.if_icmp .le 7, 3) := by decide +kernel
theorem dX4_nextSeed_60 : decode cX4_nextSeed 60 = .ok (.iconst 1, 1) := by decide +kernel
theorem dX4_nextSeed_61 : decode cX4_nextSeed 61 = .ok (.goto 18, 3) := by decide +kernel
theorem dX4_nextSeed_64 : decode cX4_nextSeed 64 = .ok (.iconst 0, 1) := by decide +kernel
theorem dX4_nextSeed_65 : decode cX4_nextSeed 65 = .ok (.goto 14, 3) := by decide +kernel
theorem dX4_nextSeed_68 : decode cX4_nextSeed 68 = .ok (.iload 5, 2) := by decide +kernel
theorem dX4_nextSeed_70 : decode cX4_nextSeed 70 = .ok (.iload_n 3, 1) := by decide +kernel
theorem dX4_nextSeed_71 : decode cX4_nextSeed 71 = .ok (.if_icmp .ge 7, 3) := by decide +kernel
theorem dX4_nextSeed_74 : decode cX4_nextSeed 74 = .ok (.iconst 1, 1) := by decide +kernel
theorem dX4_nextSeed_75 : decode cX4_nextSeed 75 = .ok (.goto 4, 3) := by decide +kernel
theorem dX4_nextSeed_78 : decode cX4_nextSeed 78 = .ok (.iconst 0, 1) := by decide +kernel
theorem dX4_nextSeed_79 : decode cX4_nextSeed 79 = .ok (.istore 6, 2) := by decide +kernel
theorem dX4_nextSeed_81 : decode cX4_nextSeed 81 = .ok (.iload_n 2, 1) := by decide +kernel
theorem dX4_nextSeed_82 : decode cX4_nextSeed 82 = .ok (.bipush (-9), 2) := by decide +kernel
theorem dX4_nextSeed_84 : decode cX4_nextSeed 84 = .ok (.if_icmp .eq 8, 3) := by decide +kernel
theorem dX4_nextSeed_87 : decode cX4_nextSeed 87 = .ok (.iload 6, 2) := by decide +kernel
theorem dX4_nextSeed_89 : decode cX4_nextSeed 89 = .ok (.ifCond .eq 9, 3) := by decide +kernel
theorem dX4_nextSeed_92 : decode cX4_nextSeed 92 = .ok (.iload 4, 2) := by decide +kernel
theorem dX4_nextSeed_94 : decode cX4_nextSeed 94 = .ok (.istore_n 2, 1) := by decide +kernel
theorem dX4_nextSeed_95 : decode cX4_nextSeed 95 = .ok (.iload 5, 2) := by decide +kernel
theorem dX4_nextSeed_97 : decode cX4_nextSeed 97 = .ok (.istore_n 3, 1) := by decide +kernel
theorem dX4_nextSeed_98 : decode cX4_nextSeed 98 = .ok (.iinc 4 1, 3) := by decide +kernel
theorem dX4_nextSeed_101 : decode cX4_nextSeed 101 = .ok (.goto (-85), 3) := by decide +kernel
theorem dX4_nextSeed_104 : decode cX4_nextSeed 104 = .ok (.iload_n 2, 1) := by decide +kernel
theorem dX4_nextSeed_105 : decode cX4_nextSeed 105 = .ok (.ireturn, 1) := by decide +kernel
set_option maxRecDepth 20000 in
theorem ggX4_explore_X0_isSatisfiable : GoodIn wsX4_explore wsX0_isSatisfiable := goodIn_r _ [6, 7, 8, 9, 5, 10, 11, 12, 13, 14, 57, 58, 59] (by decide +kernel) (by decide +kernel)
set_option maxRecDepth 20000 in
theorem gX4_explore_X0_isSatisfiable : GoodIn wsX4_explore (wsV RX4 77 RX0 yX0_isSatisfiable wsX0_isSatisfiable) := goodIn_app (goodIn_of _ (by decide +kernel)) ggX4_explore_X0_isSatisfiable
set_option maxRecDepth 20000 in
theorem ggX4_explore_X0_grow : GoodIn wsX4_explore wsX0_grow := goodIn_r _ [18, 12, 19, 20, 21, 5, 22, 13, 23, 3, 4, 6, 7, 8, 9, 10, 11, 14, 57, 58, 59] (by decide +kernel) (by decide +kernel)
set_option maxRecDepth 20000 in
theorem gX4_explore_X0_grow : GoodIn wsX4_explore (wsV RX4 80 RX0 yX0_grow wsX0_grow) := goodIn_app (goodIn_of _ (by decide +kernel)) ggX4_explore_X0_grow
set_option maxRecDepth 20000 in
theorem ggX4_explore_X4_recordMss : GoodIn wsX4_explore wsX4_recordMss := goodIn_r _ [28, 29, 30, 31, 32, 33, 34, 35, 36, 37, 38, 39, 27, 40, 41, 52, 53, 54, 55, 56, 60, 61] (by decide +kernel) (by decide +kernel)
set_option maxRecDepth 20000 in
theorem gX4_explore_X4_recordMss : GoodIn wsX4_explore (wsV RX4 83 RX4 yX4_recordMss wsX4_recordMss) := goodIn_app (goodIn_of _ (by decide +kernel)) ggX4_explore_X4_recordMss
set_option maxRecDepth 20000 in
theorem ggX4_explore_X0_shrink : GoodIn wsX4_explore wsX0_shrink := goodIn_r _ [45, 12, 23, 3, 4, 5, 6, 7, 8, 9, 10, 11, 13, 14, 57, 58, 59] (by decide +kernel) (by decide +kernel)
set_option maxRecDepth 20000 in
theorem gX4_explore_X0_shrink : GoodIn wsX4_explore (wsV RX4 86 RX0 yX0_shrink wsX0_shrink) := goodIn_app (goodIn_of _ (by decide +kernel)) ggX4_explore_X0_shrink
set_option maxRecDepth 20000 in
theorem ggX4_explore_X4_recordMus : GoodIn wsX4_explore wsX4_recordMus := goodIn_r _ [49, 50, 1, 30, 31, 32, 33, 34, 35, 36, 51, 20, 21, 5, 22, 12, 13, 37, 38, 39, 27, 40, 41, 52, 53, 54, 55, 56, 60, 61, 57, 58, 59] (by decide +kernel) (by decide +kernel)
set_option maxRecDepth 20000 in
theorem gX4_explore_X4_recordMus : GoodIn wsX4_explore (wsV RX4 89 RX4 yX4_recordMus wsX4_recordMus) := goodIn_app (goodIn_of _ (by decide +kernel)) ggX4_explore_X4_recordMus
theorem dX4_explore_0 : decode cX4_explore 0 = .ok (.aload_n 0, 1) := by decide +kernel
theorem dX4_explore_1 : decode cX4_explore 1 = .ok (.getfield 12, 3) := by decide +kernel
theorem dX4_explore_4 : decode cX4_explore 4 = .ok (.iload_n 1, 1) := by decide +kernel
theorem dX4_explore_5 : decode cX4_explore 5 = .ok (.invokevirtual 77, 3) := by decide +kernel
theorem dX4_explore_8 : decode cX4_explore 8 = .ok (.ifCond .eq 17, 3) := by decide +kernel
theorem dX4_explore_11 : decode cX4_explore 11 = .ok (.aload_n 0, 1) := by decide +kernel
theorem dX4_explore_12 : decode cX4_explore 12 = .ok (.aload_n 0, 1) := by decide +kernel
theorem dX4_explore_13 : decode cX4_explore 13 = .ok (.getfield 12, 3) := by decide +kernel
theorem dX4_explore_16 : decode cX4_explore 16 = .ok (.iload_n 1, 1) := by decide +kernel
theorem dX4_explore_17 : decode cX4_explore 17 = .ok (.invokevirtual 80, 3) := by decide +kernel
theorem dX4_explore_20 : decode cX4_explore 20 = .ok (.invokevirtual 83, 3) := by decide +kernel
theorem dX4_explore_23 : decode cX4_explore 23 = .ok (.iconst 1, 1) := by decide +kernel
theorem dX4_explore_24 : decode cX4_explore 24 = .ok (.ireturn, 1) := by decide +kernel
theorem dX4_explore_25 : decode cX4_explore 25 = .ok (.aload_n 0, 1) := by decide +kernel
theorem dX4_explore_26 : decode cX4_explore 26 = .ok (.aload_n 0, 1) := by decide +kernel
theorem dX4_explore_27 : decode cX4_explore 27 = .ok (.getfield 12, 3) := by decide +kernel
theorem dX4_explore_30 : decode cX4_explore 30 = .ok (.iload_n 1, 1) := by decide +kernel
theorem dX4_explore_31 : decode cX4_explore 31 = .ok (.invokevirtual 86, 3) := by decide +kernel
theorem dX4_explore_34 : decode cX4_explore 34 = .ok (.invokevirtual 89, 3) := by decide +kernel
theorem dX4_explore_37 : decode cX4_explore 37 = .ok (.iconst 2, 1) := by decide +kernel
theorem dX4_explore_38 : decode cX4_explore 38 = .ok (.ireturn, 1) := by decide +kernel
set_option maxRecDepth 20000 in
theorem ggX4_recordMss_X3_add : GoodIn wsX4_recordMss wsX3_add := goodIn_r _ [6, 7, 8, 20, 21] (by decide +kernel) (by decide +kernel)
set_option maxRecDepth 20000 in
theorem gX4_recordMss_X3_add : GoodIn wsX4_recordMss (wsV RX4 92 RX3 yX3_add wsX3_add) := goodIn_app (goodIn_of _ (by decide +kernel)) ggX4_recordMss_X3_add
set_option maxRecDepth 20000 in
theorem ggX4_recordMss_X4_markExplored : GoodIn wsX4_recordMss wsX4_markExplored := goodIn_r _ [13, 14, 15, 16, 17, 18, 19] (by decide +kernel) (by decide +kernel)
set_option maxRecDepth 20000 in
theorem gX4_recordMss_X4_markExplored : GoodIn wsX4_recordMss (wsV RX4 95 RX4 yX4_markExplored wsX4_markExplored) := goodIn_app (goodIn_of _ (by decide +kernel)) ggX4_recordMss_X4_markExplored
theorem dX4_recordMss_0 : decode cX4_recordMss 0 = .ok (.aload_n 0, 1) := by decide +kernel
theorem dX4_recordMss_1 : decode cX4_recordMss 1 = .ok (.getfield 25, 3) := by decide +kernel
theorem dX4_recordMss_4 : decode cX4_recordMss 4 = .ok (.iload_n 1, 1) := by decide +kernel
theorem dX4_recordMss_5 : decode cX4_recordMss 5 = .ok (.invokevirtual 92, 3) := by decide +kernel
theorem dX4_recordMss_8 : decode cX4_recordMss 8 = .ok (.iconst 0, 1) := by decide +kernel
theorem dX4_recordMss_9 : decode cX4_recordMss 9 = .ok (.istore_n 2, 1) := by decide +kernel
theorem dX4_recordMss_10 : decode cX4_recordMss 10 = .ok (.iload_n 2, 1) := by decide +kernel
theorem dX4_recordMss_11 : decode cX4_recordMss 11 = .ok (.iload_n 1, 1) := by decide +kernel
theorem dX4_recordMss_12 : decode cX4_recordMss 12 = .ok (.if_icmp .gt 22, 3) := by decide +kernel
theorem dX4_recordMss_15 : decode cX4_recordMss 15 = .ok (.iload_n 2, 1) := by decide +kernel
theorem dX4_recordMss_16 : decode cX4_recordMss 16 = .ok (.iload_n 1, 1) := by decide +kernel
theorem dX4_recordMss_17 : decode cX4_recordMss 17 = .ok (.iconst (-1), 1) := by decide +kernel
theorem dX4_recordMss_18 : decode cX4_recordMss 18 = .ok (.ixor, 1) := by decide +kernel
theorem dX4_recordMss_19 : decode cX4_recordMss 19 = .ok (.iand, 1) := by decide +kernel
theorem dX4_recordMss_20 : decode cX4_recordMss 20 = .ok (.ifCond .ne 8, 3) := by decide +kernel
theorem dX4_recordMss_23 : decode cX4_recordMss 23 = .ok (.aload_n 0, 1) := by decide +kernel
theorem dX4_recordMss_24 : decode cX4_recordMss 24 = .ok (.iload_n 2, 1) := by decide +kernel
theorem dX4_recordMss_25 : decode cX4_recordMss 25 = .ok (.invokevirtual 95, 3) := by decide +kernel
theorem dX4_recordMss_28 : decode cX4_recordMss 28 = .ok (.iinc 2 1, 3) := by decide +kernel
theorem dX4_recordMss_31 : decode cX4_recordMss 31 = .ok (.goto (-21), 3) := by decide +kernel
theorem dX4_recordMss_34 : decode cX4_recordMss 34 = .ok (.return_, 1) := by decide +kernel
set_option maxRecDepth 20000 in
theorem ggX4_recordMus_X3_add : GoodIn wsX4_recordMus wsX3_add := goodIn_r _ [7, 8, 9, 28, 29] (by decide +kernel) (by decide +kernel)
set_option maxRecDepth 20000 in
theorem gX4_recordMus_X3_add : GoodIn wsX4_recordMus (wsV RX4 92 RX3 yX3_add wsX3_add) := goodIn_app (goodIn_of _ (by decide +kernel)) ggX4_recordMus_X3_add
set_option maxRecDepth 20000 in
theorem ggX4_recordMus_X0_softMask : GoodIn wsX4_recordMus wsX0_softMask := goodIn_r _ [14, 15, 16, 30, 31, 32] (by decide +kernel) (by decide +kernel)
set_option maxRecDepth 20000 in
theorem gX4_recordMus_X0_softMask : GoodIn wsX4_recordMus (wsV RX4 63 RX0 yX0_softMask wsX0_softMask) := goodIn_app (goodIn_of _ (by decide +kernel)) ggX4_recordMus_X0_softMask
set_option maxRecDepth 20000 in
theorem ggX4_recordMus_X4_markExplored : GoodIn wsX4_recordMus wsX4_markExplored := goodIn_r _ [21, 22, 23, 24, 25, 26, 27] (by decide +kernel) (by decide +kernel)
set_option maxRecDepth 20000 in
theorem gX4_recordMus_X4_markExplored : GoodIn wsX4_recordMus (wsV RX4 95 RX4 yX4_markExplored wsX4_markExplored) := goodIn_app (goodIn_of _ (by decide +kernel)) ggX4_recordMus_X4_markExplored
theorem dX4_recordMus_0 : decode cX4_recordMus 0 = .ok (.aload_n 0, 1) := by decide +kernel
theorem dX4_recordMus_1 : decode cX4_recordMus 1 = .ok (.getfield 21, 3) := by decide +kernel
theorem dX4_recordMus_4 : decode cX4_recordMus 4 = .ok (.iload_n 1, 1) := by decide +kernel
theorem dX4_recordMus_5 : decode cX4_recordMus 5 = .ok (.invokevirtual 92, 3) := by decide +kernel
theorem dX4_recordMus_8 : decode cX4_recordMus 8 = .ok (.aload_n 0, 1) := by decide +kernel
theorem dX4_recordMus_9 : decode cX4_recordMus 9 = .ok (.getfield 12, 3) := by decide +kernel
theorem dX4_recordMus_12 : decode cX4_recordMus 12 = .ok (.invokevirtual 63, 3) := by decide +kernel
theorem dX4_recordMus_15 : decode cX4_recordMus 15 = .ok (.istore_n 2, 1) := by decide +kernel
theorem dX4_recordMus_16 : decode cX4_recordMus 16 = .ok (.iload_n 1, 1) := by decide +kernel
theorem dX4_recordMus_17 : decode cX4_recordMus 17 = .ok (.istore_n 3, 1) := by decide +kernel
theorem dX4_recordMus_18 : decode cX4_recordMus 18 = .ok (.iload_n 3, 1) := by decide +kernel
theorem dX4_recordMus_19 : decode cX4_recordMus 19 = .ok (.iload_n 2, 1) := by decide +kernel
theorem dX4_recordMus_20 : decode cX4_recordMus 20 = .ok (.if_icmp .gt 29, 3) := by decide +kernel
theorem dX4_recordMus_23 : decode cX4_recordMus 23 = .ok (.iload_n 3, 1) := by decide +kernel
theorem dX4_recordMus_24 : decode cX4_recordMus 24 = .ok (.iload_n 2, 1) := by decide +kernel
theorem dX4_recordMus_25 : decode cX4_recordMus 25 = .ok (.iconst (-1), 1) := by decide +kernel
theorem dX4_recordMus_26 : decode cX4_recordMus 26 = .ok (.ixor, 1) := by decide +kernel
theorem dX4_recordMus_27 : decode cX4_recordMus 27 = .ok (.iand, 1) := by decide +kernel
theorem dX4_recordMus_28 : decode cX4_recordMus 28 = .ok (.ifCond .ne 15, 3) := by decide +kernel
theorem dX4_recordMus_31 : decode cX4_recordMus 31 = .ok (.iload_n 3, 1) := by decide +kernel
theorem dX4_recordMus_32 : decode cX4_recordMus 32 = .ok (.iload_n 1, 1) := by decide +kernel
theorem dX4_recordMus_33 : decode cX4_recordMus 33 = .ok (.iand, 1) := by decide +kernel
theorem dX4_recordMus_34 : decode cX4_recordMus 34 = .ok (.iload_n 1, 1) := by decide +kernel
theorem dX4_recordMus_35 : decode cX4_recordMus 35 = .ok (.if_icmp .ne 8, 3) := by decide +kernel
theorem dX4_recordMus_38 : decode cX4_recordMus 38 = .ok (.aload_n 0, 1) := by decide +kernel
theorem dX4_recordMus_39 : decode cX4_recordMus 39 = .ok (.iload_n 3, 1) := by decide +kernel
theorem dX4_recordMus_40 : decode cX4_recordMus 40 = .ok (.invokevirtual 95, 3) := by decide +kernel
theorem dX4_recordMus_43 : decode cX4_recordMus 43 = .ok (.iinc 3 1, 3) := by decide +kernel
theorem dX4_recordMus_46 : decode cX4_recordMus 46 = .ok (.goto (-28), 3) := by decide +kernel
theorem dX4_recordMus_49 : decode cX4_recordMus 49 = .ok (.return_, 1) := by decide +kernel
set_option maxRecDepth 20000 in
theorem ggX4_leastHittingSet_X0_softMask : GoodIn wsX4_leastHittingSet wsX0_softMask := goodIn_r _ [6, 7, 8, 42, 43, 44] (by decide +kernel) (by decide +kernel)
set_option maxRecDepth 20000 in
theorem gX4_leastHittingSet_X0_softMask : GoodIn wsX4_leastHittingSet (wsV RX4 63 RX0 yX0_softMask wsX0_softMask) := goodIn_app (goodIn_of _ (by decide +kernel)) ggX4_leastHittingSet_X0_softMask
set_option maxRecDepth 20000 in
theorem ggX4_leastHittingSet_X0_totalWeight : GoodIn wsX4_leastHittingSet wsX0_totalWeight := goodIn_r _ [12, 7, 8, 42, 43, 44] (by decide +kernel) (by decide +kernel)
set_option maxRecDepth 20000 in
theorem gX4_leastHittingSet_X0_totalWeight : GoodIn wsX4_leastHittingSet (wsV RX4 98 RX0 yX0_totalWeight wsX0_totalWeight) := goodIn_app (goodIn_of _ (by decide +kernel)) ggX4_leastHittingSet_X0_totalWeight
set_option maxRecDepth 20000 in
theorem ggX4_leastHittingSet_J6_bitCount_0f7a4 : GoodIn wsX4_leastHittingSet wsJ6_bitCount_0f7a4 := goodIn_r _ [16, 17, 18, 19] (by decide +kernel) (by decide +kernel)
set_option maxRecDepth 20000 in
theorem gX4_leastHittingSet_J6_bitCount_0f7a4 : GoodIn wsX4_leastHittingSet (va_wsS RX4 71 yJ6_bitCount_0f7a4 wsJ6_bitCount_0f7a4) := goodIn_app (goodIn_of _ (by decide +kernel)) ggX4_leastHittingSet_J6_bitCount_0f7a4
set_option maxRecDepth 20000 in
theorem ggX4_leastHittingSet_X4_hitsEveryMus : GoodIn wsX4_leastHittingSet wsX4_hitsEveryMus := goodIn_r _ [24, 25, 26, 27, 28, 29, 30, 31, 32, 33, 34, 35, 36, 37, 38, 39, 40, 41, 45, 46] (by decide +kernel) (by decide +kernel)
set_option maxRecDepth 20000 in
theorem gX4_leastHittingSet_X4_hitsEveryMus : GoodIn wsX4_leastHittingSet (wsV RX4 101 RX4 yX4_hitsEveryMus wsX4_hitsEveryMus) := goodIn_app (goodIn_of _ (by decide +kernel)) ggX4_leastHittingSet_X4_hitsEveryMus
theorem dX4_leastHittingSet_0 : decode cX4_leastHittingSet 0 = .ok (.aload_n 0, 1) := by decide +kernel
theorem dX4_leastHittingSet_1 : decode cX4_leastHittingSet 1 = .ok (.getfield 12, 3) := by decide +kernel
theorem dX4_leastHittingSet_4 : decode cX4_leastHittingSet 4 = .ok (.invokevirtual 63, 3) := by decide +kernel
theorem dX4_leastHittingSet_7 : decode cX4_leastHittingSet 7 = .ok (.istore_n 2, 1) := by decide +kernel
theorem dX4_leastHittingSet_8 : decode cX4_leastHittingSet 8 = .ok (.bipush (-9), 2) := by decide +kernel
theorem dX4_leastHittingSet_10 : decode cX4_leastHittingSet 10 = .ok (.istore_n 3, 1) := by decide +kernel
theorem dX4_leastHittingSet_11 : decode cX4_leastHittingSet 11 = .ok (.iconst 0, 1) := by decide +kernel
theorem dX4_leastHittingSet_12 : decode cX4_leastHittingSet 12 = .ok (.istore 4, 2) := by decide +kernel
theorem dX4_leastHittingSet_14 : decode cX4_leastHittingSet 14 = .ok (.iconst 0, 1) := by decide +kernel
theorem dX4_leastHittingSet_15 : decode cX4_leastHittingSet 15 = .ok (.istore 5, 2) := by decide +kernel
theorem dX4_leastHittingSet_17 : decode cX4_leastHittingSet 17 = .ok (.iload 5, 2) := by decide +kernel
theorem dX4_leastHittingSet_19 : decode cX4_leastHittingSet 19 = .ok (.iload_n 2, 1) := by decide +kernel
theorem dX4_leastHittingSet_20 : decode cX4_leastHittingSet 20 = .ok (.if_icmp .gt 70, 3) := by decide +kernel
theorem dX4_leastHittingSet_23 : decode cX4_leastHittingSet 23 = .ok (.iload 5, 2) := by decide +kernel
theorem dX4_leastHittingSet_25 : decode cX4_leastHittingSet 25 = .ok (.iload_n 2, 1) := by decide +kernel
theorem dX4_leastHittingSet_26 : decode cX4_leastHittingSet 26 = .ok (.iconst (-1), 1) := by decide +kernel
theorem dX4_leastHittingSet_27 : decode cX4_leastHittingSet 27 = .ok (.ixor, 1) := by decide +kernel
theorem dX4_leastHittingSet_28 : decode cX4_leastHittingSet 28 = .ok (.iand, 1) := by decide +kernel
theorem dX4_leastHittingSet_29 : decode cX4_leastHittingSet 29 = .ok (.ifCond .ne 55, 3) := by decide +kernel
theorem dX4_leastHittingSet_32 : decode cX4_leastHittingSet 32 = .ok (.iload_n 1, 1) := by decide +kernel
theorem dX4_leastHittingSet_33 : decode cX4_leastHittingSet 33 = .ok (.ifCond .eq 15, 3) := by decide +kernel
theorem dX4_leastHittingSet_36 : decode cX4_leastHittingSet 36 = .ok (.aload_n 0, 1) := by decide +kernel
theorem dX4_leastHittingSet_37 : decode cX4_leastHittingSet 37 = .ok (.getfield 12, 3) := by decide +kernel
theorem dX4_leastHittingSet_40 : decode cX4_leastHittingSet 40 = .ok (.iload 5, 2) := by decide +kernel
theorem dX4_leastHittingSet_42 : decode cX4_leastHittingSet 42 = .ok (.invokevirtual 98, 3) := by decide +kernel
theorem dX4_leastHittingSet_45 : decode cX4_leastHittingSet 45 = .ok (.goto 8, 3) := by decide +kernel
theorem dX4_leastHittingSet_48 : decode cX4_leastHittingSet 48 = .ok (.iload 5, 2) := by decide +kernel
theorem dX4_leastHittingSet_50 : decode cX4_leastHittingSet 50 = .ok (.invokestatic 71, 3) := by decide +kernel
theorem dX4_leastHittingSet_53 : decode cX4_leastHittingSet 53 = .ok (.istore 6, 2) := by decide +kernel
theorem dX4_leastHittingSet_55 : decode cX4_leastHittingSet 55 = .ok (.iload_n 3, 1) := by decide +kernel
theorem dX4_leastHittingSet_56 : decode cX4_leastHittingSet 56 = .ok (.bipush (-9), 2) := by decide +kernel
theorem dX4_leastHittingSet_58 : decode cX4_leastHittingSet 58 = .ok (.if_icmp .eq 10, 3) := by decide +kernel
theorem dX4_leastHittingSet_61 : decode cX4_leastHittingSet 61 = .ok (.iload 6, 2) := by decide +kernel
theorem dX4_leastHittingSet_63 : decode cX4_leastHittingSet 63 = .ok (.iload 4, 2) := by decide +kernel
theorem dX4_leastHittingSet_65 : decode cX4_leastHittingSet 65 = .ok (.if_icmp .ge 19, 3) := by decide +kernel
theorem dX4_leastHittingSet_68 : decode cX4_leastHittingSet 68 = .ok (.aload_n 0, 1) := by decide +kernel
theorem dX4_leastHittingSet_69 : decode cX4_leastHittingSet 69 = .ok (.iload 5, 2) := by decide +kernel
theorem dX4_leastHittingSet_71 : decode cX4_leastHittingSet 71 = .ok (.invokevirtual 101, 3) := by decide +kernel
theorem dX4_leastHittingSet_74 : decode cX4_leastHittingSet 74 = .ok (.ifCond .eq 10, 3) := by decide +kernel
theorem dX4_leastHittingSet_77 : decode cX4_leastHittingSet 77 = .ok (.iload 5, 2) := by decide +kernel
theorem dX4_leastHittingSet_79 : decode cX4_leastHittingSet 79 = .ok (.istore_n 3, 1) := by decide +kernel
theorem dX4_leastHittingSet_80 : decode cX4_leastHittingSet 80 = .ok (.iload 6, 2) := by decide +kernel
theorem dX4_leastHittingSet_82 : decode cX4_leastHittingSet 82 = .ok (.istore 4, 2) := by decide +kernel
theorem dX4_leastHittingSet_84 : decode cX4_leastHittingSet 84 = .ok (.iinc 5 1, 3) := by decide +kernel
theorem dX4_leastHittingSet_87 : decode cX4_leastHittingSet 87 = .ok (.goto (-70), 3) := by decide +kernel
theorem dX4_leastHittingSet_90 : decode cX4_leastHittingSet 90 = .ok (.iload_n 3, 1) := by decide +kernel
theorem dX4_leastHittingSet_91 : decode cX4_leastHittingSet 91 = .ok (.ireturn, 1) := by decide +kernel
set_option maxRecDepth 20000 in
theorem ggX4_hitsEveryMus_X3_size : GoodIn wsX4_hitsEveryMus wsX3_size := goodIn_r _ [6, 7, 18, 19] (by decide +kernel) (by decide +kernel)
set_option maxRecDepth 20000 in
theorem gX4_hitsEveryMus_X3_size : GoodIn wsX4_hitsEveryMus (wsV RX4 104 RX3 yX3_size wsX3_size) := goodIn_app (goodIn_of _ (by decide +kernel)) ggX4_hitsEveryMus_X3_size
set_option maxRecDepth 20000 in
theorem ggX4_hitsEveryMus_X3_get : GoodIn wsX4_hitsEveryMus wsX3_get := goodIn_r _ [11, 7, 12, 18, 19] (by decide +kernel) (by decide +kernel)
set_option maxRecDepth 20000 in
theorem gX4_hitsEveryMus_X3_get : GoodIn wsX4_hitsEveryMus (wsV RX4 107 RX3 yX3_get wsX3_get) := goodIn_app (goodIn_of _ (by decide +kernel)) ggX4_hitsEveryMus_X3_get
theorem dX4_hitsEveryMus_0 : decode cX4_hitsEveryMus 0 = .ok (.iconst 0, 1) := by decide +kernel
theorem dX4_hitsEveryMus_1 : decode cX4_hitsEveryMus 1 = .ok (.istore_n 2, 1) := by decide +kernel
theorem dX4_hitsEveryMus_2 : decode cX4_hitsEveryMus 2 = .ok (.iload_n 2, 1) := by decide +kernel
theorem dX4_hitsEveryMus_3 : decode cX4_hitsEveryMus 3 = .ok (.aload_n 0, 1) := by decide +kernel
theorem dX4_hitsEveryMus_4 : decode cX4_hitsEveryMus 4 = .ok (.getfield 21, 3) := by decide +kernel
theorem dX4_hitsEveryMus_7 : decode cX4_hitsEveryMus 7 = .ok (.invokevirtual 104, 3) := by decide +kernel
theorem dX4_hitsEveryMus_10 : decode cX4_hitsEveryMus 10 = .ok (.if_icmp .ge 24, 3) := by decide +kernel
theorem dX4_hitsEveryMus_13 : decode cX4_hitsEveryMus 13 = .ok (.aload_n 0, 1) := by decide +kernel
theorem dX4_hitsEveryMus_14 : decode cX4_hitsEveryMus 14 = .ok (.getfield 21, 3) := by decide +kernel
theorem dX4_hitsEveryMus_17 : decode cX4_hitsEveryMus 17 = .ok (.iload_n 2, 1) := by decide +kernel
theorem dX4_hitsEveryMus_18 : decode cX4_hitsEveryMus 18 = .ok (.invokevirtual 107, 3) := by decide +kernel
theorem dX4_hitsEveryMus_21 : decode cX4_hitsEveryMus 21 = .ok (.iload_n 1, 1) := by decide +kernel
theorem dX4_hitsEveryMus_22 : decode cX4_hitsEveryMus 22 = .ok (.iand, 1) := by decide +kernel
theorem dX4_hitsEveryMus_23 : decode cX4_hitsEveryMus 23 = .ok (.ifCond .ne 5, 3) := by decide +kernel
theorem dX4_hitsEveryMus_26 : decode cX4_hitsEveryMus 26 = .ok (.iconst 0, 1) := by decide +kernel
theorem dX4_hitsEveryMus_27 : decode cX4_hitsEveryMus 27 = .ok (.ireturn, 1) := by decide +kernel
theorem dX4_hitsEveryMus_28 : decode cX4_hitsEveryMus 28 = .ok (.iinc 2 1, 3) := by decide +kernel
theorem dX4_hitsEveryMus_31 : decode cX4_hitsEveryMus 31 = .ok (.goto (-29), 3) := by decide +kernel
theorem dX4_hitsEveryMus_34 : decode cX4_hitsEveryMus 34 = .ok (.iconst 1, 1) := by decide +kernel
theorem dX4_hitsEveryMus_35 : decode cX4_hitsEveryMus 35 = .ok (.ireturn, 1) := by decide +kernel
set_option maxRecDepth 20000 in
theorem ggX4_blameOf_X3_size : GoodIn wsX4_blameOf wsX3_size := goodIn_r _ [6, 7, 25, 26] (by decide +kernel) (by decide +kernel)
set_option maxRecDepth 20000 in
theorem gX4_blameOf_X3_size : GoodIn wsX4_blameOf (wsV RX4 104 RX3 yX3_size wsX3_size) := goodIn_app (goodIn_of _ (by decide +kernel)) ggX4_blameOf_X3_size
set_option maxRecDepth 20000 in
theorem ggX4_blameOf_X3_get : GoodIn wsX4_blameOf wsX3_get := goodIn_r _ [11, 7, 12, 25, 26] (by decide +kernel) (by decide +kernel)
set_option maxRecDepth 20000 in
theorem gX4_blameOf_X3_get : GoodIn wsX4_blameOf (wsV RX4 107 RX3 yX3_get wsX3_get) := goodIn_app (goodIn_of _ (by decide +kernel)) ggX4_blameOf_X3_get
set_option maxRecDepth 20000 in
theorem ggX4_blameOf_J6_bitCount_0f7a4 : GoodIn wsX4_blameOf wsJ6_bitCount_0f7a4 := goodIn_r _ [16, 17, 18, 19] (by decide +kernel) (by decide +kernel)
set_option maxRecDepth 20000 in
theorem gX4_blameOf_J6_bitCount_0f7a4 : GoodIn wsX4_blameOf (va_wsS RX4 71 yJ6_bitCount_0f7a4 wsJ6_bitCount_0f7a4) := goodIn_app (goodIn_of _ (by decide +kernel)) ggX4_blameOf_J6_bitCount_0f7a4
theorem dX4_blameOf_0 : decode cX4_blameOf 0 = .ok (.iconst 0, 1) := by decide +kernel
theorem dX4_blameOf_1 : decode cX4_blameOf 1 = .ok (.istore_n 2, 1) := by decide +kernel
theorem dX4_blameOf_2 : decode cX4_blameOf 2 = .ok (.iconst 0, 1) := by decide +kernel
theorem dX4_blameOf_3 : decode cX4_blameOf 3 = .ok (.istore_n 3, 1) := by decide +kernel
theorem dX4_blameOf_4 : decode cX4_blameOf 4 = .ok (.iload_n 3, 1) := by decide +kernel
theorem dX4_blameOf_5 : decode cX4_blameOf 5 = .ok (.aload_n 0, 1) := by decide +kernel
theorem dX4_blameOf_6 : decode cX4_blameOf 6 = .ok (.getfield 21, 3) := by decide +kernel
theorem dX4_blameOf_9 : decode cX4_blameOf 9 = .ok (.invokevirtual 104, 3) := by decide +kernel
theorem dX4_blameOf_12 : decode cX4_blameOf 12 = .ok (.if_icmp .ge 50, 3) := by decide +kernel
theorem dX4_blameOf_15 : decode cX4_blameOf 15 = .ok (.aload_n 0, 1) := by decide +kernel
theorem dX4_blameOf_16 : decode cX4_blameOf 16 = .ok (.getfield 21, 3) := by decide +kernel
theorem dX4_blameOf_19 : decode cX4_blameOf 19 = .ok (.iload_n 3, 1) := by decide +kernel
theorem dX4_blameOf_20 : decode cX4_blameOf 20 = .ok (.invokevirtual 107, 3) := by decide +kernel
theorem dX4_blameOf_23 : decode cX4_blameOf 23 = .ok (.istore 4, 2) := by decide +kernel
theorem dX4_blameOf_25 : decode cX4_blameOf 25 = .ok (.iload 4, 2) := by decide +kernel
theorem dX4_blameOf_27 : decode cX4_blameOf 27 = .ok (.invokestatic 71, 3) := by decide +kernel
theorem dX4_blameOf_30 : decode cX4_blameOf 30 = .ok (.istore 5, 2) := by decide +kernel
theorem dX4_blameOf_32 : decode cX4_blameOf 32 = .ok (.iload 5, 2) := by decide +kernel
theorem dX4_blameOf_34 : decode cX4_blameOf 34 = .ok (.ifCond .le 22, 3) := by decide +kernel
theorem dX4_blameOf_37 : decode cX4_blameOf 37 = .ok (.iload 4, 2) := by decide +kernel
theorem dX4_blameOf_39 : decode cX4_blameOf 39 = .ok (.iload_n 1, 1) := by decide +kernel
theorem dX4_blameOf_40 : decode cX4_blameOf 40 = .ok (.ishr, 1) := by decide +kernel
theorem dX4_blameOf_41 : decode cX4_blameOf 41 = .ok (.iconst 1, 1) := by decide +kernel
theorem dX4_blameOf_42 : decode cX4_blameOf 42 = .ok (.iand, 1) := by decide +kernel
theorem dX4_blameOf_43 : decode cX4_blameOf 43 = .ok (.iconst 1, 1) := by decide +kernel
theorem dX4_blameOf_44 : decode cX4_blameOf 44 = .ok (.if_icmp .ne 12, 3) := by decide +kernel
theorem dX4_blameOf_47 : decode cX4_blameOf 47 = .ok (.iload_n 2, 1) := by decide +kernel
theorem dX4_blameOf_48 : decode cX4_blameOf 48 = .ok (.sipush 1000, 3) := by decide +kernel
theorem dX4_blameOf_51 : decode cX4_blameOf 51 = .ok (.iload 5, 2) := by decide +kernel
theorem dX4_blameOf_53 : decode cX4_blameOf 53 = .ok (.idiv, 1) := by decide +kernel
theorem dX4_blameOf_54 : decode cX4_blameOf 54 = .ok (.iadd, 1) := by decide +kernel
theorem dX4_blameOf_55 : decode cX4_blameOf 55 = .ok (.istore_n 2, 1) := by decide +kernel
theorem dX4_blameOf_56 : decode cX4_blameOf 56 = .ok (.iinc 3 1, 3) := by decide +kernel
theorem dX4_blameOf_59 : decode cX4_blameOf 59 = .ok (.goto (-55), 3) := by decide +kernel
theorem dX4_blameOf_62 : decode cX4_blameOf 62 = .ok (.iload_n 2, 1) := by decide +kernel
theorem dX4_blameOf_63 : decode cX4_blameOf 63 = .ok (.ireturn, 1) := by decide +kernel
theorem dX5_init_0 : decode cX5_init 0 = .ok (.aload_n 0, 1) := by decide +kernel
theorem dX5_init_1 : decode cX5_init 1 = .ok (.invokespecial 3, 3) := by decide +kernel
theorem dX5_init_4 : decode cX5_init 4 = .ok (.aload_n 0, 1) := by decide +kernel
theorem dX5_init_5 : decode cX5_init 5 = .ok (.bipush 120, 2) := by decide +kernel
theorem dX5_init_7 : decode cX5_init 7 = .ok (.newarray .int, 2) := by decide +kernel
theorem dX5_init_9 : decode cX5_init 9 = .ok (.putfield 9, 3) := by decide +kernel
theorem dX5_init_12 : decode cX5_init 12 = .ok (.return_, 1) := by decide +kernel
theorem dX5_length_0 : decode cX5_length 0 = .ok (.aload_n 0, 1) := by decide +kernel
theorem dX5_length_1 : decode cX5_length 1 = .ok (.getfield 15, 3) := by decide +kernel
theorem dX5_length_4 : decode cX5_length 4 = .ok (.ireturn, 1) := by decide +kernel
theorem dX5_isFull_0 : decode cX5_isFull 0 = .ok (.aload_n 0, 1) := by decide +kernel
theorem dX5_isFull_1 : decode cX5_isFull 1 = .ok (.getfield 15, 3) := by decide +kernel
theorem dX5_isFull_4 : decode cX5_isFull 4 = .ok (.bipush 120, 2) := by decide +kernel
theorem dX5_isFull_6 : decode cX5_isFull 6 = .ok (.if_icmp .lt 7, 3) := by decide +kernel
theorem dX5_isFull_9 : decode cX5_isFull 9 = .ok (.iconst 1, 1) := by decide +kernel
theorem dX5_isFull_10 : decode cX5_isFull 10 = .ok (.goto 4, 3) := by decide +kernel
theorem dX5_isFull_13 : decode cX5_isFull 13 = .ok (.iconst 0, 1) := by decide +kernel
theorem dX5_isFull_14 : decode cX5_isFull 14 = .ok (.ireturn, 1) := by decide +kernel
theorem dX5_add_0 : decode cX5_add 0 = .ok (.aload_n 0, 1) := by decide +kernel
theorem dX5_add_1 : decode cX5_add 1 = .ok (.getfield 15, 3) := by decide +kernel
theorem dX5_add_4 : decode cX5_add 4 = .ok (.bipush 120, 2) := by decide +kernel
theorem dX5_add_6 : decode cX5_add 6 = .ok (.if_icmp .ge 23, 3) := by decide +kernel
theorem dX5_add_9 : decode cX5_add 9 = .ok (.aload_n 0, 1) := by decide +kernel
theorem dX5_add_10 : decode cX5_add 10 = .ok (.getfield 9, 3) := by decide +kernel
theorem dX5_add_13 : decode cX5_add 13 = .ok (.aload_n 0, 1) := by decide +kernel
theorem dX5_add_14 : decode cX5_add 14 = .ok (.getfield 15, 3) := by decide +kernel
theorem dX5_add_17 : decode cX5_add 17 = .ok (.iload_n 1, 1) := by decide +kernel
theorem dX5_add_18 : decode cX5_add 18 = .ok (.iastore, 1) := by decide +kernel
theorem dX5_add_19 : decode cX5_add 19 = .ok (.aload_n 0, 1) := by decide +kernel
theorem dX5_add_20 : decode cX5_add 20 = .ok (.dup, 1) := by decide +kernel
theorem dX5_add_21 : decode cX5_add 21 = .ok (.getfield 15, 3) := by decide +kernel
theorem dX5_add_24 : decode cX5_add 24 = .ok (.iconst 1, 1) := by decide +kernel
theorem dX5_add_25 : decode cX5_add 25 = .ok (.iadd, 1) := by decide +kernel
theorem dX5_add_26 : decode cX5_add 26 = .ok (.putfield 15, 3) := by decide +kernel
theorem dX5_add_29 : decode cX5_add 29 = .ok (.return_, 1) := by decide +kernel
theorem dX5_clear_0 : decode cX5_clear 0 = .ok (.aload_n 0, 1) := by decide +kernel
theorem dX5_clear_1 : decode cX5_clear 1 = .ok (.iconst 0, 1) := by decide +kernel
theorem dX5_clear_2 : decode cX5_clear 2 = .ok (.putfield 15, 3) := by decide +kernel
theorem dX5_clear_5 : decode cX5_clear 5 = .ok (.return_, 1) := by decide +kernel
theorem dX5_at_0 : decode cX5_at 0 = .ok (.iload_n 1, 1) := by decide +kernel
theorem dX5_at_1 : decode cX5_at 1 = .ok (.ifCond .lt 11, 3) := by decide +kernel
theorem dX5_at_4 : decode cX5_at 4 = .ok (.iload_n 1, 1) := by decide +kernel
theorem dX5_at_5 : decode cX5_at 5 = .ok (.aload_n 0, 1) := by decide +kernel
theorem dX5_at_6 : decode cX5_at 6 = .ok (.getfield 15, 3) := by decide +kernel
theorem dX5_at_9 : decode cX5_at 9 = .ok (.if_icmp .lt 6, 3) := by decide +kernel
theorem dX5_at_12 : decode cX5_at 12 = .ok (.bipush (-9), 2) := by decide +kernel
theorem dX5_at_14 : decode cX5_at 14 = .ok (.ireturn, 1) := by decide +kernel
theorem dX5_at_15 : decode cX5_at 15 = .ok (.aload_n 0, 1) := by decide +kernel
theorem dX5_at_16 : decode cX5_at 16 = .ok (.getfield 9, 3) := by decide +kernel
theorem dX5_at_19 : decode cX5_at 19 = .ok (.iload_n 1, 1) := by decide +kernel
theorem dX5_at_20 : decode cX5_at 20 = .ok (.iaload, 1) := by decide +kernel
theorem dX5_at_21 : decode cX5_at 21 = .ok (.ireturn, 1) := by decide +kernel
set_option maxRecDepth 20000 in
theorem ggX5_isLetter_X5_at : GoodIn wsX5_isLetter wsX5_at := goodIn_r _ [5, 6, 7, 8, 9] (by decide +kernel) (by decide +kernel)
set_option maxRecDepth 20000 in
theorem gX5_isLetter_X5_at : GoodIn wsX5_isLetter (wsV RX5 19 RX5 yX5_at wsX5_at) := goodIn_app (goodIn_of _ (by decide +kernel)) ggX5_isLetter_X5_at
theorem dX5_isLetter_0 : decode cX5_isLetter 0 = .ok (.aload_n 0, 1) := by decide +kernel
theorem dX5_isLetter_1 : decode cX5_isLetter 1 = .ok (.iload_n 1, 1) := by decide +kernel
theorem dX5_isLetter_2 : decode cX5_isLetter 2 = .ok (.invokevirtual 19, 3) := by decide +kernel
theorem dX5_isLetter_5 : decode cX5_isLetter 5 = .ok (.istore_n 2, 1) := by decide +kernel
theorem dX5_isLetter_6 : decode cX5_isLetter 6 = .ok (.iload_n 2, 1) := by decide +kernel
theorem dX5_isLetter_7 : decode cX5_isLetter 7 = .ok (.bipush 97, 2) := by decide +kernel
theorem dX5_isLetter_9 : decode cX5_isLetter 9 = .ok (.if_icmp .lt 13, 3) := by decide +kernel
theorem dX5_isLetter_12 : decode cX5_isLetter 12 = .ok (.iload_n 2, 1) := by decide +kernel
theorem dX5_isLetter_13 : decode cX5_isLetter 13 = .ok (.bipush 122, 2) := by decide +kernel
theorem dX5_isLetter_15 : decode cX5_isLetter 15 = .ok (.if_icmp .gt 7, 3) := by decide +kernel
theorem dX5_isLetter_18 : decode cX5_isLetter 18 = .ok (.iconst 1, 1) := by decide +kernel
theorem dX5_isLetter_19 : decode cX5_isLetter 19 = .ok (.goto 4, 3) := by decide +kernel
theorem dX5_isLetter_22 : decode cX5_isLetter 22 = .ok (.iconst 0, 1) := by decide +kernel
theorem dX5_isLetter_23 : decode cX5_isLetter 23 = .ok (.ireturn, 1) := by decide +kernel
set_option maxRecDepth 20000 in
theorem ggX5_spells_J0_length_8abf5 : GoodIn wsX5_spells wsJ0_length_8abf5 := goodIn_r _ [5, 6, 7, 8, 9, 4, 10, 11, 12] (by decide +kernel) (by decide +kernel)
set_option maxRecDepth 20000 in
theorem gX5_spells_J0_length_8abf5 : GoodIn wsX5_spells (wsV RX5 23 RJ0 yJ0_length_8abf5 wsJ0_length_8abf5) := goodIn_app (goodIn_of _ (by decide +kernel)) ggX5_spells_J0_length_8abf5
set_option maxRecDepth 20000 in
theorem ggX5_spells_X5_at : GoodIn wsX5_spells wsX5_at := goodIn_r _ [17, 18, 19, 57, 58] (by decide +kernel) (by decide +kernel)
set_option maxRecDepth 20000 in
theorem gX5_spells_X5_at : GoodIn wsX5_spells (wsV RX5 19 RX5 yX5_at wsX5_at) := goodIn_app (goodIn_of _ (by decide +kernel)) ggX5_spells_X5_at
set_option maxRecDepth 20000 in
theorem ggX5_spells_J0_charAt_5068e : GoodIn wsX5_spells wsJ0_charAt_5068e := goodIn_r _ [23, 6, 24, 25, 26, 4, 27, 11, 12, 28, 29, 30, 31, 32, 33, 34, 35, 36, 37, 38, 39, 40, 41, 42, 43, 44, 45, 46, 47, 48, 49, 50, 51, 52, 53, 54, 55, 56] (by decide +kernel) (by decide +kernel)
set_option maxRecDepth 20000 in
theorem gX5_spells_J0_charAt_5068e : GoodIn wsX5_spells (wsV RX5 28 RJ0 yJ0_charAt_5068e wsJ0_charAt_5068e) := goodIn_app (goodIn_of _ (by decide +kernel)) ggX5_spells_J0_charAt_5068e
theorem dX5_spells_0 : decode cX5_spells 0 = .ok (.iload_n 2, 1) := by decide +kernel
theorem dX5_spells_1 : decode cX5_spells 1 = .ok (.iload_n 1, 1) := by decide +kernel
theorem dX5_spells_2 : decode cX5_spells 2 = .ok (.isub, 1) := by decide +kernel
theorem dX5_spells_3 : decode cX5_spells 3 = .ok (.iconst 1, 1) := by decide +kernel
theorem dX5_spells_4 : decode cX5_spells 4 = .ok (.iadd, 1) := by decide +kernel
theorem dX5_spells_5 : decode cX5_spells 5 = .ok (.aload_n 3, 1) := by decide +kernel
theorem dX5_spells_6 : decode cX5_spells 6 = .ok (.invokevirtual 23, 3) := by decide +kernel
theorem dX5_spells_9 : decode cX5_spells 9 = .ok (.if_icmp .eq 5, 3) := by decide +kernel
theorem dX5_spells_12 : decode cX5_spells 12 = .ok (.iconst 0, 1) := by decide +kernel
theorem dX5_spells_13 : decode cX5_spells 13 = .ok (.ireturn, 1) := by decide +kernel
theorem dX5_spells_14 : decode cX5_spells 14 = .ok (.iconst 0, 1) := by decide +kernel
theorem dX5_spells_15 : decode cX5_spells 15 = .ok (.istore 4, 2) := by decide +kernel
theorem dX5_spells_17 : decode cX5_spells 17 = .ok (.iload 4, 2) := by decide +kernel
theorem dX5_spells_19 : decode cX5_spells 19 = .ok (.aload_n 3, 1) := by decide +kernel
theorem dX5_spells_20 : decode cX5_spells 20 = .ok (.invokevirtual 23, 3) := by decide +kernel
theorem dX5_spells_23 : decode cX5_spells 23 = .ok (.if_icmp .ge 28, 3) := by decide +kernel
theorem dX5_spells_26 : decode cX5_spells 26 = .ok (.aload_n 0, 1) := by decide +kernel
theorem dX5_spells_27 : decode cX5_spells 27 = .ok (.iload_n 1, 1) := by decide +kernel
theorem dX5_spells_28 : decode cX5_spells 28 = .ok (.iload 4, 2) := by decide +kernel
theorem dX5_spells_30 : decode cX5_spells 30 = .ok (.iadd, 1) := by decide +kernel
theorem dX5_spells_31 : decode cX5_spells 31 = .ok (.invokevirtual 19, 3) := by decide +kernel
theorem dX5_spells_34 : decode cX5_spells 34 = .ok (.aload_n 3, 1) := by decide +kernel
theorem dX5_spells_35 : decode cX5_spells 35 = .ok (.iload 4, 2) := by decide +kernel
theorem dX5_spells_37 : decode cX5_spells 37 = .ok (.invokevirtual 28, 3) := by decide +kernel
theorem dX5_spells_40 : decode cX5_spells 40 = .ok (.if_icmp .eq 5, 3) := by decide +kernel
theorem dX5_spells_43 : decode cX5_spells 43 = .ok (.iconst 0, 1) := by decide +kernel
theorem dX5_spells_44 : decode cX5_spells 44 = .ok (.ireturn, 1) := by decide +kernel
theorem dX5_spells_45 : decode cX5_spells 45 = .ok (.iinc 4 1, 3) := by decide +kernel
theorem dX5_spells_48 : decode cX5_spells 48 = .ok (.goto (-31), 3) := by decide +kernel
theorem dX5_spells_51 : decode cX5_spells 51 = .ok (.iconst 1, 1) := by decide +kernel
theorem dX5_spells_52 : decode cX5_spells 52 = .ok (.ireturn, 1) := by decide +kernel
set_option maxRecDepth 20000 in
theorem ggX6_init_X5_init : GoodIn wsX6_init wsX5_init := goodIn_r _ [22, 23, 2, 3, 24, 25, 60, 61] (by decide +kernel) (by decide +kernel)
set_option maxRecDepth 20000 in
theorem gX6_init_X5_init_n11 : GoodIn wsX6_init (wsX5_init) := ggX6_init_X5_init
set_option maxRecDepth 20000 in
theorem ggX6_init_X2_init : GoodIn wsX6_init wsX2_init := goodIn_r _ [27, 28, 2, 3, 29, 30, 31, 32, 33, 34, 35, 36, 37, 24, 38, 82, 83, 84, 67, 68, 69, 70, 71, 72, 73] (by decide +kernel) (by decide +kernel)
set_option maxRecDepth 20000 in
theorem gX6_init_X2_init_n18 : GoodIn wsX6_init (wsX2_init) := ggX6_init_X2_init
set_option maxRecDepth 20000 in
theorem ggX6_init_X4_init : GoodIn wsX6_init wsX4_init := goodIn_r _ [40, 41, 2, 3, 42, 30, 31, 43, 44, 45, 46, 47, 48, 36, 49, 50, 33, 34, 35, 37, 24, 38, 51, 52, 53, 54, 82, 83, 84, 74, 75, 76, 77, 78, 85, 86] (by decide +kernel) (by decide +kernel)
set_option maxRecDepth 20000 in
theorem gX6_init_X4_init_n25 : GoodIn wsX6_init (wsX4_init) := ggX6_init_X4_init
set_option maxRecDepth 20000 in
theorem ggX6_init_X1_init : GoodIn wsX6_init wsX1_init := goodIn_r _ [56, 57, 2, 3, 58, 59, 79, 80, 81] (by decide +kernel) (by decide +kernel)
set_option maxRecDepth 20000 in
theorem gX6_init_X1_init_n32 : GoodIn wsX6_init (wsX1_init) := ggX6_init_X1_init
theorem dX6_init_0 : decode cX6_init 0 = .ok (.aload_n 0, 1) := by decide +kernel
theorem dX6_init_1 : decode cX6_init 1 = .ok (.invokespecial 3, 3) := by decide +kernel
theorem dX6_init_4 : decode cX6_init 4 = .ok (.aload_n 0, 1) := by decide +kernel
theorem dX6_init_5 : decode cX6_init 5 = .ok (.new 9, 3) := by decide +kernel
theorem dX6_init_8 : decode cX6_init 8 = .ok (.dup, 1) := by decide +kernel
theorem dX6_init_9 : decode cX6_init 9 = .ok (.invokespecial 11, 3) := by decide +kernel
theorem dX6_init_12 : decode cX6_init 12 = .ok (.putfield 12, 3) := by decide +kernel
theorem dX6_init_15 : decode cX6_init 15 = .ok (.aload_n 0, 1) := by decide +kernel
theorem dX6_init_16 : decode cX6_init 16 = .ok (.new 16, 3) := by decide +kernel
theorem dX6_init_19 : decode cX6_init 19 = .ok (.dup, 1) := by decide +kernel
theorem dX6_init_20 : decode cX6_init 20 = .ok (.invokespecial 18, 3) := by decide +kernel
theorem dX6_init_23 : decode cX6_init 23 = .ok (.putfield 19, 3) := by decide +kernel
theorem dX6_init_26 : decode cX6_init 26 = .ok (.aload_n 0, 1) := by decide +kernel
theorem dX6_init_27 : decode cX6_init 27 = .ok (.new 23, 3) := by decide +kernel
theorem dX6_init_30 : decode cX6_init 30 = .ok (.dup, 1) := by decide +kernel
theorem dX6_init_31 : decode cX6_init 31 = .ok (.invokespecial 25, 3) := by decide +kernel
theorem dX6_init_34 : decode cX6_init 34 = .ok (.putfield 26, 3) := by decide +kernel
theorem dX6_init_37 : decode cX6_init 37 = .ok (.aload_n 0, 1) := by decide +kernel
theorem dX6_init_38 : decode cX6_init 38 = .ok (.new 30, 3) := by decide +kernel
theorem dX6_init_41 : decode cX6_init 41 = .ok (.dup, 1) := by decide +kernel
theorem dX6_init_42 : decode cX6_init 42 = .ok (.invokespecial 32, 3) := by decide +kernel
theorem dX6_init_45 : decode cX6_init 45 = .ok (.putfield 33, 3) := by decide +kernel
theorem dX6_init_48 : decode cX6_init 48 = .ok (.aload_n 0, 1) := by decide +kernel
theorem dX6_init_49 : decode cX6_init 49 = .ok (.iconst 2, 1) := by decide +kernel
theorem dX6_init_50 : decode cX6_init 50 = .ok (.anewarray 23, 3) := by decide +kernel
theorem dX6_init_53 : decode cX6_init 53 = .ok (.putfield 37, 3) := by decide +kernel
theorem dX6_init_56 : decode cX6_init 56 = .ok (.return_, 1) := by decide +kernel
set_option maxRecDepth 20000 in
theorem ggX6_append_X5_isFull : GoodIn wsX6_append wsX5_isFull := goodIn_r _ [6, 7, 22, 23] (by decide +kernel) (by decide +kernel)
set_option maxRecDepth 20000 in
theorem gX6_append_X5_isFull : GoodIn wsX6_append (wsV RX6 41 RX5 yX5_isFull wsX5_isFull) := goodIn_app (goodIn_of _ (by decide +kernel)) ggX6_append_X5_isFull
set_option maxRecDepth 20000 in
theorem ggX6_append_X5_add : GoodIn wsX6_append wsX5_add := goodIn_r _ [11, 7, 12, 22, 23] (by decide +kernel) (by decide +kernel)
set_option maxRecDepth 20000 in
theorem gX6_append_X5_add : GoodIn wsX6_append (wsV RX6 45 RX5 yX5_add wsX5_add) := goodIn_app (goodIn_of _ (by decide +kernel)) ggX6_append_X5_add
set_option maxRecDepth 20000 in
theorem ggX6_append_X5_length : GoodIn wsX6_append wsX5_length := goodIn_r _ [16, 7, 22, 23] (by decide +kernel) (by decide +kernel)
set_option maxRecDepth 20000 in
theorem gX6_append_X5_length : GoodIn wsX6_append (wsV RX6 49 RX5 yX5_length wsX5_length) := goodIn_app (goodIn_of _ (by decide +kernel)) ggX6_append_X5_length
theorem dX6_append_0 : decode cX6_append 0 = .ok (.iload_n 1, 1) := by decide +kernel
theorem dX6_append_1 : decode cX6_append 1 = .ok (.ifCond .lt 10, 3) := by decide +kernel
theorem dX6_append_4 : decode cX6_append 4 = .ok (.iload_n 1, 1) := by decide +kernel
theorem dX6_append_5 : decode cX6_append 5 = .ok (.sipush 255, 3) := by decide +kernel
theorem dX6_append_8 : decode cX6_append 8 = .ok (.if_icmp .le 5, 3) := by decide +kernel
theorem dX6_append_11 : decode cX6_append 11 = .ok (.iconst (-1), 1) := by decide +kernel
theorem dX6_append_12 : decode cX6_append 12 = .ok (.ireturn, 1) := by decide +kernel
theorem dX6_append_13 : decode cX6_append 13 = .ok (.aload_n 0, 1) := by decide +kernel
theorem dX6_append_14 : decode cX6_append 14 = .ok (.getfield 12, 3) := by decide +kernel
theorem dX6_append_17 : decode cX6_append 17 = .ok (.invokevirtual 41, 3) := by decide +kernel
theorem dX6_append_20 : decode cX6_append 20 = .ok (.ifCond .eq 6, 3) := by decide +kernel
theorem dX6_append_23 : decode cX6_append 23 = .ok (.bipush (-3), 2) := by decide +kernel
theorem dX6_append_25 : decode cX6_append 25 = .ok (.ireturn, 1) := by decide +kernel
theorem dX6_append_26 : decode cX6_append 26 = .ok (.aload_n 0, 1) := by decide +kernel
theorem dX6_append_27 : decode cX6_append 27 = .ok (.getfield 12, 3) := by decide +kernel
theorem dX6_append_30 : decode cX6_append 30 = .ok (.iload_n 1, 1) := by decide +kernel
theorem dX6_append_31 : decode cX6_append 31 = .ok (.invokevirtual 45, 3) := by decide +kernel
theorem dX6_append_34 : decode cX6_append 34 = .ok (.aload_n 0, 1) := by decide +kernel
theorem dX6_append_35 : decode cX6_append 35 = .ok (.getfield 12, 3) := by decide +kernel
theorem dX6_append_38 : decode cX6_append 38 = .ok (.invokevirtual 49, 3) := by decide +kernel
theorem dX6_append_41 : decode cX6_append 41 = .ok (.ireturn, 1) := by decide +kernel
set_option maxRecDepth 20000 in
theorem ggX6_clearText_X5_length : GoodIn wsX6_clearText wsX5_length := goodIn_r _ [6, 7, 17, 18] (by decide +kernel) (by decide +kernel)
set_option maxRecDepth 20000 in
theorem gX6_clearText_X5_length : GoodIn wsX6_clearText (wsV RX6 49 RX5 yX5_length wsX5_length) := goodIn_app (goodIn_of _ (by decide +kernel)) ggX6_clearText_X5_length
set_option maxRecDepth 20000 in
theorem ggX6_clearText_X5_clear : GoodIn wsX6_clearText wsX5_clear := goodIn_r _ [11, 7, 17, 18] (by decide +kernel) (by decide +kernel)
set_option maxRecDepth 20000 in
theorem gX6_clearText_X5_clear : GoodIn wsX6_clearText (wsV RX6 53 RX5 yX5_clear wsX5_clear) := goodIn_app (goodIn_of _ (by decide +kernel)) ggX6_clearText_X5_clear
theorem dX6_clearText_0 : decode cX6_clearText 0 = .ok (.aload_n 0, 1) := by decide +kernel
theorem dX6_clearText_1 : decode cX6_clearText 1 = .ok (.getfield 12, 3) := by decide +kernel
theorem dX6_clearText_4 : decode cX6_clearText 4 = .ok (.invokevirtual 49, 3) := by decide +kernel
theorem dX6_clearText_7 : decode cX6_clearText 7 = .ok (.istore_n 1, 1) := by decide +kernel
theorem dX6_clearText_8 : decode cX6_clearText 8 = .ok (.aload_n 0, 1) := by decide +kernel
theorem dX6_clearText_9 : decode cX6_clearText 9 = .ok (.getfield 12, 3) := by decide +kernel
theorem dX6_clearText_12 : decode cX6_clearText 12 = .ok (.invokevirtual 53, 3) := by decide +kernel
theorem dX6_clearText_15 : decode cX6_clearText 15 = .ok (.iload_n 1, 1) := by decide +kernel
theorem dX6_clearText_16 : decode cX6_clearText 16 = .ok (.ireturn, 1) := by decide +kernel
set_option maxRecDepth 20000 in
theorem ggX6_load_X2_parse : GoodIn wsX6_load wsX2_parse := goodIn_r _ [10, 11, 12, 13, 14, 15, 16, 17, 18, 19, 20, 21, 22, 23, 24, 25, 26, 27, 28, 29, 30, 31, 32, 33, 34, 35, 36, 9, 37, 38, 39, 40, 41, 42, 43, 44, 45, 46, 47, 48, 49, 50, 51, 52, 53, 54, 55, 56, 57, 58, 59, 60, 61, 62, 63, 64, 65, 66, 67, 68, 69, 70, 71, 72, 73, 74, 75, 76, 77, 78, 79, 80, 81, 82, 83, 84, 85, 86, 87, 88, 89, 90, 91, 92, 93, 94, 95, 96, 97, 98, 99, 100, 101, 102, 103, 104, 105, 106, 107, 108, 109, 110, 111, 112, 113, 114, 115, 116, 117, 118, 119, 120, 121, 122, 123, 124, 125, 126, 127, 128, 129, 130, 131, 132, 133, 134, 135, 136, 137, 138, 139, 140, 141, 142, 143, 144, 145, 146, 147, 148, 149, 150, 151, 152, 153, 154, 155, 156, 157, 158, 159, 247, 248, 249, 250, 251, 252, 253, 254, 255, 256, 257, 258] (by decide +kernel) (by decide +kernel)
set_option maxRecDepth 20000 in
theorem gX6_load_X2_parse : GoodIn wsX6_load (wsV RX6 56 RX2 yX2_parse wsX2_parse) := goodIn_app (goodIn_of _ (by decide +kernel)) ggX6_load_X2_parse
set_option maxRecDepth 20000 in
theorem ggX6_load_X1_push : GoodIn wsX6_load wsX1_push := goodIn_r _ [164, 165, 166, 167, 168, 169, 170, 171, 172, 173, 174, 175, 176, 177, 16, 178, 179, 180, 181, 182, 183, 184, 185, 186, 187, 188, 189, 154, 190, 155, 191, 192, 193, 194, 195, 196, 197, 198, 199, 200, 201, 202, 203, 204, 205, 206, 207, 18, 208, 209, 210, 211, 212, 213, 259, 260, 261, 262, 263, 264, 265, 266, 254, 255, 256, 267, 268] (by decide +kernel) (by decide +kernel)
set_option maxRecDepth 20000 in
theorem gX6_load_X1_push : GoodIn wsX6_load (wsV RX6 60 RX1 yX1_push wsX1_push) := goodIn_app (goodIn_of _ (by decide +kernel)) ggX6_load_X1_push
set_option maxRecDepth 20000 in
theorem ggX6_load_X2_parsed : GoodIn wsX6_load wsX2_parsed := goodIn_r _ [217, 11, 247, 248, 249, 250, 251, 252, 253] (by decide +kernel) (by decide +kernel)
set_option maxRecDepth 20000 in
theorem gX6_load_X2_parsed : GoodIn wsX6_load (wsV RX6 64 RX2 yX2_parsed wsX2_parsed) := goodIn_app (goodIn_of _ (by decide +kernel)) ggX6_load_X2_parsed
set_option maxRecDepth 20000 in
theorem ggX6_load_X4_replaceSystem : GoodIn wsX6_load wsX4_replaceSystem := goodIn_r _ [221, 178, 203, 204, 205, 16, 206, 154, 207, 200, 201, 202, 155, 18, 222, 223, 224, 169, 225, 182, 183, 185, 226, 227, 228, 181, 229, 213, 262, 263, 264, 265, 266, 254, 255, 256, 267, 268] (by decide +kernel) (by decide +kernel)
set_option maxRecDepth 20000 in
theorem gX6_load_X4_replaceSystem : GoodIn wsX6_load (wsV RX6 68 RX4 yX4_replaceSystem wsX4_replaceSystem) := goodIn_app (goodIn_of _ (by decide +kernel)) ggX6_load_X4_replaceSystem
set_option maxRecDepth 20000 in
theorem ggX6_load_X5_clear : GoodIn wsX6_load wsX5_clear := goodIn_r _ [233, 24, 257, 258] (by decide +kernel) (by decide +kernel)
set_option maxRecDepth 20000 in
theorem gX6_load_X5_clear : GoodIn wsX6_load (wsV RX6 53 RX5 yX5_clear wsX5_clear) := goodIn_app (goodIn_of _ (by decide +kernel)) ggX6_load_X5_clear
set_option maxRecDepth 20000 in
theorem ggX6_load_X4_system : GoodIn wsX6_load wsX4_system := goodIn_r _ [237, 178, 262, 263, 264, 265, 266] (by decide +kernel) (by decide +kernel)
set_option maxRecDepth 20000 in
theorem gX6_load_X4_system : GoodIn wsX6_load (wsV RX6 72 RX4 yX4_system wsX4_system) := goodIn_app (goodIn_of _ (by decide +kernel)) ggX6_load_X4_system
set_option maxRecDepth 20000 in
theorem ggX6_load_X0_size : GoodIn wsX6_load wsX0_size := goodIn_r _ [241, 18, 254, 255, 256] (by decide +kernel) (by decide +kernel)
set_option maxRecDepth 20000 in
theorem gX6_load_X0_size : GoodIn wsX6_load (wsV RX6 75 RX0 yX0_size wsX0_size) := goodIn_app (goodIn_of _ (by decide +kernel)) ggX6_load_X0_size
theorem dX6_load_0 : decode cX6_load 0 = .ok (.aload_n 0, 1) := by decide +kernel
theorem dX6_load_1 : decode cX6_load 1 = .ok (.getfield 19, 3) := by decide +kernel
theorem dX6_load_4 : decode cX6_load 4 = .ok (.aload_n 0, 1) := by decide +kernel
theorem dX6_load_5 : decode cX6_load 5 = .ok (.getfield 12, 3) := by decide +kernel
theorem dX6_load_8 : decode cX6_load 8 = .ok (.invokevirtual 56, 3) := by decide +kernel
theorem dX6_load_11 : decode cX6_load 11 = .ok (.istore_n 1, 1) := by decide +kernel
theorem dX6_load_12 : decode cX6_load 12 = .ok (.iload_n 1, 1) := by decide +kernel
theorem dX6_load_13 : decode cX6_load 13 = .ok (.bipush (-9), 2) := by decide +kernel
theorem dX6_load_15 : decode cX6_load 15 = .ok (.if_icmp .eq 8, 3) := by decide +kernel
theorem dX6_load_18 : decode cX6_load 18 = .ok (.bipush (-10), 2) := by decide +kernel
theorem dX6_load_20 : decode cX6_load 20 = .ok (.iload_n 1, 1) := by decide +kernel
theorem dX6_load_21 : decode cX6_load 21 = .ok (.isub, 1) := by decide +kernel
theorem dX6_load_22 : decode cX6_load 22 = .ok (.ireturn, 1) := by decide +kernel
theorem dX6_load_23 : decode cX6_load 23 = .ok (.aload_n 0, 1) := by decide +kernel
theorem dX6_load_24 : decode cX6_load 24 = .ok (.getfield 33, 3) := by decide +kernel
theorem dX6_load_27 : decode cX6_load 27 = .ok (.aload_n 0, 1) := by decide +kernel
theorem dX6_load_28 : decode cX6_load 28 = .ok (.getfield 26, 3) := by decide +kernel
theorem dX6_load_31 : decode cX6_load 31 = .ok (.invokevirtual 60, 3) := by decide +kernel
theorem dX6_load_34 : decode cX6_load 34 = .ok (.aload_n 0, 1) := by decide +kernel
theorem dX6_load_35 : decode cX6_load 35 = .ok (.getfield 26, 3) := by decide +kernel
theorem dX6_load_38 : decode cX6_load 38 = .ok (.aload_n 0, 1) := by decide +kernel
theorem dX6_load_39 : decode cX6_load 39 = .ok (.getfield 19, 3) := by decide +kernel
theorem dX6_load_42 : decode cX6_load 42 = .ok (.invokevirtual 64, 3) := by decide +kernel
theorem dX6_load_45 : decode cX6_load 45 = .ok (.invokevirtual 68, 3) := by decide +kernel
theorem dX6_load_48 : decode cX6_load 48 = .ok (.iconst 0, 1) := by decide +kernel
theorem dX6_load_49 : decode cX6_load 49 = .ok (.istore_n 2, 1) := by decide +kernel
theorem dX6_load_50 : decode cX6_load 50 = .ok (.iload_n 2, 1) := by decide +kernel
theorem dX6_load_51 : decode cX6_load 51 = .ok (.iconst 2, 1) := by decide +kernel
theorem dX6_load_52 : decode cX6_load 52 = .ok (.if_icmp .ge 16, 3) := by decide +kernel
theorem dX6_load_55 : decode cX6_load 55 = .ok (.aload_n 0, 1) := by decide +kernel
theorem dX6_load_56 : decode cX6_load 56 = .ok (.getfield 37, 3) := by decide +kernel
theorem dX6_load_59 : decode cX6_load 59 = .ok (.iload_n 2, 1) := by decide +kernel
theorem dX6_load_60 : decode cX6_load 60 = .ok (.aconst_null, 1) := by decide +kernel
theorem dX6_load_61 : decode cX6_load 61 = .ok (.aastore, 1) := by decide +kernel
theorem dX6_load_62 : decode cX6_load 62 = .ok (.iinc 2 1, 3) := by decide +kernel
theorem dX6_load_65 : decode cX6_load 65 = .ok (.goto (-15), 3) := by decide +kernel
theorem dX6_load_68 : decode cX6_load 68 = .ok (.aload_n 0, 1) := by decide +kernel
theorem dX6_load_69 : decode cX6_load 69 = .ok (.getfield 12, 3) := by decide +kernel
theorem dX6_load_72 : decode cX6_load 72 = .ok (.invokevirtual 53, 3) := by decide +kernel
theorem dX6_load_75 : decode cX6_load 75 = .ok (.aload_n 0, 1) := by decide +kernel
theorem dX6_load_76 : decode cX6_load 76 = .ok (.getfield 26, 3) := by decide +kernel
theorem dX6_load_79 : decode cX6_load 79 = .ok (.invokevirtual 72, 3) := by decide +kernel
theorem dX6_load_82 : decode cX6_load 82 = .ok (.invokevirtual 75, 3) := by decide +kernel
theorem dX6_load_85 : decode cX6_load 85 = .ok (.ireturn, 1) := by decide +kernel
set_option maxRecDepth 20000 in
theorem ggX6_remove_X4_system : GoodIn wsX6_remove wsX4_system := goodIn_r _ [7, 8, 95, 96, 97, 98, 99] (by decide +kernel) (by decide +kernel)
set_option maxRecDepth 20000 in
theorem gX6_remove_X4_system : GoodIn wsX6_remove (wsV RX6 72 RX4 yX4_system wsX4_system) := goodIn_app (goodIn_of _ (by decide +kernel)) ggX6_remove_X4_system
set_option maxRecDepth 20000 in
theorem ggX6_remove_X0_has : GoodIn wsX6_remove wsX0_has := goodIn_r _ [13, 14, 100, 101, 102] (by decide +kernel) (by decide +kernel)
set_option maxRecDepth 20000 in
theorem gX6_remove_X0_has : GoodIn wsX6_remove (wsV RX6 80 RX0 yX0_has wsX0_has) := goodIn_app (goodIn_of _ (by decide +kernel)) ggX6_remove_X0_has
set_option maxRecDepth 20000 in
theorem ggX6_remove_X1_push : GoodIn wsX6_remove wsX1_push := goodIn_r _ [19, 20, 21, 22, 23, 6, 24, 25, 26, 27, 28, 29, 30, 31, 12, 8, 32, 33, 34, 35, 36, 37, 38, 39, 40, 41, 42, 43, 44, 45, 46, 47, 48, 49, 50, 51, 52, 53, 54, 55, 56, 57, 58, 59, 60, 61, 62, 14, 63, 64, 65, 66, 67, 68, 103, 104, 105, 95, 96, 97, 98, 99, 100, 101, 102, 106, 107] (by decide +kernel) (by decide +kernel)
set_option maxRecDepth 20000 in
theorem gX6_remove_X1_push : GoodIn wsX6_remove (wsV RX6 60 RX1 yX1_push wsX1_push) := goodIn_app (goodIn_of _ (by decide +kernel)) ggX6_remove_X1_push
set_option maxRecDepth 20000 in
theorem ggX6_remove_X4_deleteConstraint : GoodIn wsX6_remove wsX4_deleteConstraint := goodIn_r _ [72, 8, 73, 74, 75, 12, 76, 14, 43, 45, 77, 10, 11, 13, 78, 79, 80, 6, 81, 35, 36, 38, 82, 83, 84, 34, 85, 68, 95, 96, 97, 98, 99, 100, 101, 102, 106, 107] (by decide +kernel) (by decide +kernel)
set_option maxRecDepth 20000 in
theorem gX6_remove_X4_deleteConstraint : GoodIn wsX6_remove (wsV RX6 84 RX4 yX4_deleteConstraint wsX4_deleteConstraint) := goodIn_app (goodIn_of _ (by decide +kernel)) ggX6_remove_X4_deleteConstraint
set_option maxRecDepth 20000 in
theorem ggX6_remove_X0_size : GoodIn wsX6_remove wsX0_size := goodIn_r _ [89, 14, 100, 101, 102] (by decide +kernel) (by decide +kernel)
set_option maxRecDepth 20000 in
theorem gX6_remove_X0_size : GoodIn wsX6_remove (wsV RX6 75 RX0 yX0_size wsX0_size) := goodIn_app (goodIn_of _ (by decide +kernel)) ggX6_remove_X0_size
theorem dX6_remove_0 : decode cX6_remove 0 = .ok (.aload_n 0, 1) := by decide +kernel
theorem dX6_remove_1 : decode cX6_remove 1 = .ok (.getfield 26, 3) := by decide +kernel
theorem dX6_remove_4 : decode cX6_remove 4 = .ok (.invokevirtual 72, 3) := by decide +kernel
theorem dX6_remove_7 : decode cX6_remove 7 = .ok (.iload_n 1, 1) := by decide +kernel
theorem dX6_remove_8 : decode cX6_remove 8 = .ok (.invokevirtual 80, 3) := by decide +kernel
theorem dX6_remove_11 : decode cX6_remove 11 = .ok (.ifCond .ne 5, 3) := by decide +kernel
theorem dX6_remove_14 : decode cX6_remove 14 = .ok (.iconst (-1), 1) := by decide +kernel
theorem dX6_remove_15 : decode cX6_remove 15 = .ok (.ireturn, 1) := by decide +kernel
theorem dX6_remove_16 : decode cX6_remove 16 = .ok (.aload_n 0, 1) := by decide +kernel
theorem dX6_remove_17 : decode cX6_remove 17 = .ok (.getfield 33, 3) := by decide +kernel
theorem dX6_remove_20 : decode cX6_remove 20 = .ok (.aload_n 0, 1) := by decide +kernel
theorem dX6_remove_21 : decode cX6_remove 21 = .ok (.getfield 26, 3) := by decide +kernel
theorem dX6_remove_24 : decode cX6_remove 24 = .ok (.invokevirtual 60, 3) := by decide +kernel
theorem dX6_remove_27 : decode cX6_remove 27 = .ok (.aload_n 0, 1) := by decide +kernel
theorem dX6_remove_28 : decode cX6_remove 28 = .ok (.getfield 26, 3) := by decide +kernel
theorem dX6_remove_31 : decode cX6_remove 31 = .ok (.iload_n 1, 1) := by decide +kernel
theorem dX6_remove_32 : decode cX6_remove 32 = .ok (.invokevirtual 84, 3) := by decide +kernel
theorem dX6_remove_35 : decode cX6_remove 35 = .ok (.aload_n 0, 1) := by decide +kernel
theorem dX6_remove_36 : decode cX6_remove 36 = .ok (.getfield 26, 3) := by decide +kernel
theorem dX6_remove_39 : decode cX6_remove 39 = .ok (.invokevirtual 72, 3) := by decide +kernel
theorem dX6_remove_42 : decode cX6_remove 42 = .ok (.invokevirtual 75, 3) := by decide +kernel
theorem dX6_remove_45 : decode cX6_remove 45 = .ok (.ireturn, 1) := by decide +kernel
set_option maxRecDepth 20000 in
theorem ggX6_setHard_X4_system : GoodIn wsX6_setHard wsX4_system := goodIn_r _ [7, 8, 110, 111, 112, 113, 114] (by decide +kernel) (by decide +kernel)
set_option maxRecDepth 20000 in
theorem gX6_setHard_X4_system : GoodIn wsX6_setHard (wsV RX6 72 RX4 yX4_system wsX4_system) := goodIn_app (goodIn_of _ (by decide +kernel)) ggX6_setHard_X4_system
set_option maxRecDepth 20000 in
theorem ggX6_setHard_X0_has : GoodIn wsX6_setHard wsX0_has := goodIn_r _ [13, 14, 115, 116, 117] (by decide +kernel) (by decide +kernel)
set_option maxRecDepth 20000 in
theorem gX6_setHard_X0_has : GoodIn wsX6_setHard (wsV RX6 80 RX0 yX0_has wsX0_has) := goodIn_app (goodIn_of _ (by decide +kernel)) ggX6_setHard_X0_has
set_option maxRecDepth 20000 in
theorem ggX6_setHard_X0_isHard : GoodIn wsX6_setHard wsX0_isHard := goodIn_r _ [18, 19, 20, 21, 12, 22, 23, 24, 10, 11, 13, 14, 115, 116, 117] (by decide +kernel) (by decide +kernel)
set_option maxRecDepth 20000 in
theorem gX6_setHard_X0_isHard : GoodIn wsX6_setHard (wsV RX6 87 RX0 yX0_isHard wsX0_isHard) := goodIn_app (goodIn_of _ (by decide +kernel)) ggX6_setHard_X0_isHard
set_option maxRecDepth 20000 in
theorem ggX6_setHard_X1_push : GoodIn wsX6_setHard wsX1_push := goodIn_r _ [29, 30, 31, 32, 33, 6, 34, 35, 36, 37, 38, 39, 40, 41, 12, 8, 42, 43, 44, 45, 46, 47, 48, 49, 50, 51, 52, 53, 54, 23, 55, 56, 57, 58, 59, 60, 61, 62, 63, 64, 65, 66, 67, 68, 69, 70, 71, 14, 72, 73, 74, 75, 76, 77, 118, 119, 120, 110, 111, 112, 113, 114, 115, 116, 117, 121, 122] (by decide +kernel) (by decide +kernel)
set_option maxRecDepth 20000 in
theorem gX6_setHard_X1_push : GoodIn wsX6_setHard (wsV RX6 60 RX1 yX1_push wsX1_push) := goodIn_app (goodIn_of _ (by decide +kernel)) ggX6_setHard_X1_push
set_option maxRecDepth 20000 in
theorem ggX6_setHard_X4_changeHardness : GoodIn wsX6_setHard wsX4_changeHardness := goodIn_r _ [81, 8, 82, 83, 84, 12, 85, 23, 24, 10, 11, 13, 14, 86, 87, 88, 6, 89, 45, 46, 48, 90, 91, 92, 44, 93, 77, 110, 111, 112, 113, 114, 115, 116, 117, 121, 122] (by decide +kernel) (by decide +kernel)
set_option maxRecDepth 20000 in
theorem gX6_setHard_X4_changeHardness : GoodIn wsX6_setHard (wsV RX6 90 RX4 yX4_changeHardness wsX4_changeHardness) := goodIn_app (goodIn_of _ (by decide +kernel)) ggX6_setHard_X4_changeHardness
set_option maxRecDepth 20000 in
theorem ggX6_setHard_X0_softMask : GoodIn wsX6_setHard wsX0_softMask := goodIn_r _ [97, 14, 23, 115, 116, 117] (by decide +kernel) (by decide +kernel)
set_option maxRecDepth 20000 in
theorem gX6_setHard_X0_softMask : GoodIn wsX6_setHard (wsV RX6 94 RX0 yX0_softMask wsX0_softMask) := goodIn_app (goodIn_of _ (by decide +kernel)) ggX6_setHard_X0_softMask
set_option maxRecDepth 20000 in
theorem ggX6_setHard_J6_bitCount_0f7a4 : GoodIn wsX6_setHard wsJ6_bitCount_0f7a4 := goodIn_r _ [101, 102, 103, 104] (by decide +kernel) (by decide +kernel)
set_option maxRecDepth 20000 in
theorem gX6_setHard_J6_bitCount_0f7a4 : GoodIn wsX6_setHard (va_wsS RX6 97 yJ6_bitCount_0f7a4 wsJ6_bitCount_0f7a4) := goodIn_app (goodIn_of _ (by decide +kernel)) ggX6_setHard_J6_bitCount_0f7a4
theorem dX6_setHard_0 : decode cX6_setHard 0 = .ok (.aload_n 0, 1) := by decide +kernel
theorem dX6_setHard_1 : decode cX6_setHard 1 = .ok (.getfield 26, 3) := by decide +kernel
theorem dX6_setHard_4 : decode cX6_setHard 4 = .ok (.invokevirtual 72, 3) := by decide +kernel
theorem dX6_setHard_7 : decode cX6_setHard 7 = .ok (.iload_n 1, 1) := by decide +kernel
theorem dX6_setHard_8 : decode cX6_setHard 8 = .ok (.invokevirtual 80, 3) := by decide +kernel
theorem dX6_setHard_11 : decode cX6_setHard 11 = .ok (.ifCond .eq 12, 3) := by decide +kernel
theorem dX6_setHard_14 : decode cX6_setHard 14 = .ok (.iload_n 2, 1) := by decide +kernel
theorem dX6_setHard_15 : decode cX6_setHard 15 = .ok (.ifCond .lt 8, 3) := by decide +kernel
theorem dX6_setHard_18 : decode cX6_setHard 18 = .ok (.iload_n 2, 1) := by decide +kernel
theorem dX6_setHard_19 : decode cX6_setHard 19 = .ok (.iconst 1, 1) := by decide +kernel
theorem dX6_setHard_20 : decode cX6_setHard 20 = .ok (.if_icmp .le 5, 3) := by decide +kernel
theorem dX6_setHard_23 : decode cX6_setHard 23 = .ok (.iconst (-1), 1) := by decide +kernel
theorem dX6_setHard_24 : decode cX6_setHard 24 = .ok (.ireturn, 1) := by decide +kernel
theorem dX6_setHard_25 : decode cX6_setHard 25 = .ok (.iload_n 2, 1) := by decide +kernel
theorem dX6_setHard_26 : decode cX6_setHard 26 = .ok (.iconst 1, 1) := by decide +kernel
theorem dX6_setHard_27 : decode cX6_setHard 27 = .ok (.if_icmp .ne 7, 3) := by decide +kernel
theorem dX6_setHard_30 : decode cX6_setHard 30 = .ok (.iconst 1, 1) := by decide +kernel
theorem dX6_setHard_31 : decode cX6_setHard 31 = .ok (.goto 4, 3) := by decide +kernel
theorem dX6_setHard_34 : decode cX6_setHard 34 = .ok (.iconst 0, 1) := by decide +kernel
theorem dX6_setHard_35 : decode cX6_setHard 35 = .ok (.istore_n 3, 1) := by decide +kernel
theorem dX6_setHard_36 : decode cX6_setHard 36 = .ok (.aload_n 0, 1) := by decide +kernel
theorem dX6_setHard_37 : decode cX6_setHard 37 = .ok (.getfield 26, 3) := by decide +kernel
theorem dX6_setHard_40 : decode cX6_setHard 40 = .ok (.invokevirtual 72, 3) := by decide +kernel
theorem dX6_setHard_43 : decode cX6_setHard 43 = .ok (.iload_n 1, 1) := by decide +kernel
theorem dX6_setHard_44 : decode cX6_setHard 44 = .ok (.invokevirtual 87, 3) := by decide +kernel
theorem dX6_setHard_47 : decode cX6_setHard 47 = .ok (.iload_n 3, 1) := by decide +kernel
theorem dX6_setHard_48 : decode cX6_setHard 48 = .ok (.if_icmp .ne 6, 3) := by decide +kernel
theorem dX6_setHard_51 : decode cX6_setHard 51 = .ok (.bipush (-2), 2) := by decide +kernel
theorem dX6_setHard_53 : decode cX6_setHard 53 = .ok (.ireturn, 1) := by decide +kernel
theorem dX6_setHard_54 : decode cX6_setHard 54 = .ok (.aload_n 0, 1) := by decide +kernel
theorem dX6_setHard_55 : decode cX6_setHard 55 = .ok (.getfield 33, 3) := by decide +kernel
theorem dX6_setHard_58 : decode cX6_setHard 58 = .ok (.aload_n 0, 1) := by decide +kernel
theorem dX6_setHard_59 : decode cX6_setHard 59 = .ok (.getfield 26, 3) := by decide +kernel
theorem dX6_setHard_62 : decode cX6_setHard 62 = .ok (.invokevirtual 60, 3) := by decide +kernel
theorem dX6_setHard_65 : decode cX6_setHard 65 = .ok (.aload_n 0, 1) := by decide +kernel
theorem dX6_setHard_66 : decode cX6_setHard 66 = .ok (.getfield 26, 3) := by decide +kernel
theorem dX6_setHard_69 : decode cX6_setHard 69 = .ok (.iload_n 1, 1) := by decide +kernel
theorem dX6_setHard_70 : decode cX6_setHard 70 = .ok (.iload_n 3, 1) := by decide +kernel
theorem dX6_setHard_71 : decode cX6_setHard 71 = .ok (.invokevirtual 90, 3) := by decide +kernel
theorem dX6_setHard_74 : decode cX6_setHard 74 = .ok (.aload_n 0, 1) := by decide +kernel
theorem dX6_setHard_75 : decode cX6_setHard 75 = .ok (.getfield 26, 3) := by decide +kernel
theorem dX6_setHard_78 : decode cX6_setHard 78 = .ok (.invokevirtual 72, 3) := by decide +kernel
theorem dX6_setHard_81 : decode cX6_setHard 81 = .ok (.invokevirtual 94, 3) := by decide +kernel
theorem dX6_setHard_84 : decode cX6_setHard 84 = .ok (.invokestatic 97, 3) := by decide +kernel
theorem dX6_setHard_87 : decode cX6_setHard 87 = .ok (.ireturn, 1) := by decide +kernel
set_option maxRecDepth 20000 in
theorem ggX6_setWeight_X4_system : GoodIn wsX6_setWeight wsX4_system := goodIn_r _ [7, 8, 83, 84, 85, 86, 87] (by decide +kernel) (by decide +kernel)
set_option maxRecDepth 20000 in
theorem gX6_setWeight_X4_system : GoodIn wsX6_setWeight (wsV RX6 72 RX4 yX4_system wsX4_system) := goodIn_app (goodIn_of _ (by decide +kernel)) ggX6_setWeight_X4_system
set_option maxRecDepth 20000 in
theorem ggX6_setWeight_X0_has : GoodIn wsX6_setWeight wsX0_has := goodIn_r _ [13, 14, 88, 89, 90] (by decide +kernel) (by decide +kernel)
set_option maxRecDepth 20000 in
theorem gX6_setWeight_X0_has : GoodIn wsX6_setWeight (wsV RX6 80 RX0 yX0_has wsX0_has) := goodIn_app (goodIn_of _ (by decide +kernel)) ggX6_setWeight_X0_has
set_option maxRecDepth 20000 in
theorem ggX6_setWeight_X0_weightOf : GoodIn wsX6_setWeight wsX0_weightOf := goodIn_r _ [18, 19, 20, 10, 11, 12, 13, 14, 88, 89, 90] (by decide +kernel) (by decide +kernel)
set_option maxRecDepth 20000 in
theorem gX6_setWeight_X0_weightOf : GoodIn wsX6_setWeight (wsV RX6 103 RX0 yX0_weightOf wsX0_weightOf) := goodIn_app (goodIn_of _ (by decide +kernel)) ggX6_setWeight_X0_weightOf
set_option maxRecDepth 20000 in
theorem ggX6_setWeight_X1_push : GoodIn wsX6_setWeight wsX1_push := goodIn_r _ [25, 26, 27, 28, 29, 6, 30, 31, 32, 33, 34, 35, 36, 37, 12, 8, 38, 39, 40, 41, 42, 43, 44, 45, 46, 47, 48, 49, 50, 19, 51, 52, 53, 54, 55, 56, 57, 58, 59, 60, 61, 62, 63, 64, 65, 66, 67, 14, 68, 69, 70, 71, 72, 73, 91, 92, 93, 83, 84, 85, 86, 87, 88, 89, 90, 94, 95] (by decide +kernel) (by decide +kernel)
set_option maxRecDepth 20000 in
theorem gX6_setWeight_X1_push : GoodIn wsX6_setWeight (wsV RX6 60 RX1 yX1_push wsX1_push) := goodIn_app (goodIn_of _ (by decide +kernel)) ggX6_setWeight_X1_push
set_option maxRecDepth 20000 in
theorem ggX6_setWeight_X0_changeWeight : GoodIn wsX6_setWeight wsX0_changeWeight := goodIn_r _ [77, 19, 20, 10, 11, 12, 13, 14, 88, 89, 90] (by decide +kernel) (by decide +kernel)
set_option maxRecDepth 20000 in
theorem gX6_setWeight_X0_changeWeight : GoodIn wsX6_setWeight (wsV RX6 106 RX0 yX0_changeWeight wsX0_changeWeight) := goodIn_app (goodIn_of _ (by decide +kernel)) ggX6_setWeight_X0_changeWeight
theorem dX6_setWeight_0 : decode cX6_setWeight 0 = .ok (.aload_n 0, 1) := by decide +kernel
theorem dX6_setWeight_1 : decode cX6_setWeight 1 = .ok (.getfield 26, 3) := by decide +kernel
theorem dX6_setWeight_4 : decode cX6_setWeight 4 = .ok (.invokevirtual 72, 3) := by decide +kernel
theorem dX6_setWeight_7 : decode cX6_setWeight 7 = .ok (.iload_n 1, 1) := by decide +kernel
theorem dX6_setWeight_8 : decode cX6_setWeight 8 = .ok (.invokevirtual 80, 3) := by decide +kernel
theorem dX6_setWeight_11 : decode cX6_setWeight 11 = .ok (.ifCond .eq 14, 3) := by decide +kernel
theorem dX6_setWeight_14 : decode cX6_setWeight 14 = .ok (.iload_n 2, 1) := by decide +kernel
theorem dX6_setWeight_15 : decode cX6_setWeight 15 = .ok (.iconst 1, 1) := by decide +kernel
theorem dX6_setWeight_16 : decode cX6_setWeight 16 = .ok (.if_icmp .lt 9, 3) := by decide +kernel
theorem dX6_setWeight_19 : decode cX6_setWeight 19 = .ok (.iload_n 2, 1) := by decide +kernel
theorem dX6_setWeight_20 : decode cX6_setWeight 20 = .ok (.bipush 9, 2) := by decide +kernel
theorem dX6_setWeight_22 : decode cX6_setWeight 22 = .ok (.if_icmp .le 5, 3) := by decide +kernel
theorem dX6_setWeight_25 : decode cX6_setWeight 25 = .ok (.iconst (-1), 1) := by decide +kernel
theorem dX6_setWeight_26 : decode cX6_setWeight 26 = .ok (.ireturn, 1) := by decide +kernel
theorem dX6_setWeight_27 : decode cX6_setWeight 27 = .ok (.aload_n 0, 1) := by decide +kernel
theorem dX6_setWeight_28 : decode cX6_setWeight 28 = .ok (.getfield 26, 3) := by decide +kernel
theorem dX6_setWeight_31 : decode cX6_setWeight 31 = .ok (.invokevirtual 72, 3) := by decide +kernel
theorem dX6_setWeight_34 : decode cX6_setWeight 34 = .ok (.iload_n 1, 1) := by decide +kernel
theorem dX6_setWeight_35 : decode cX6_setWeight 35 = .ok (.invokevirtual 103, 3) := by decide +kernel
theorem dX6_setWeight_38 : decode cX6_setWeight 38 = .ok (.istore_n 3, 1) := by decide +kernel
theorem dX6_setWeight_39 : decode cX6_setWeight 39 = .ok (.iload_n 3, 1) := by decide +kernel
theorem dX6_setWeight_40 : decode cX6_setWeight 40 = .ok (.ifCond .eq 8, 3) := by decide +kernel
theorem dX6_setWeight_43 : decode cX6_setWeight 43 = .ok (.iload_n 3, 1) := by decide +kernel
theorem dX6_setWeight_44 : decode cX6_setWeight 44 = .ok (.iload_n 2, 1) := by decide +kernel
theorem dX6_setWeight_45 : decode cX6_setWeight 45 = .ok (.if_icmp .ne 6, 3) := by decide +kernel
theorem dX6_setWeight_48 : decode cX6_setWeight 48 = .ok (.bipush (-2), 2) := by decide +kernel
theorem dX6_setWeight_50 : decode cX6_setWeight 50 = .ok (.ireturn, 1) := by decide +kernel
theorem dX6_setWeight_51 : decode cX6_setWeight 51 = .ok (.aload_n 0, 1) := by decide +kernel
theorem dX6_setWeight_52 : decode cX6_setWeight 52 = .ok (.getfield 33, 3) := by decide +kernel
theorem dX6_setWeight_55 : decode cX6_setWeight 55 = .ok (.aload_n 0, 1) := by decide +kernel
theorem dX6_setWeight_56 : decode cX6_setWeight 56 = .ok (.getfield 26, 3) := by decide +kernel
theorem dX6_setWeight_59 : decode cX6_setWeight 59 = .ok (.invokevirtual 60, 3) := by decide +kernel
theorem dX6_setWeight_62 : decode cX6_setWeight 62 = .ok (.aload_n 0, 1) := by decide +kernel
theorem dX6_setWeight_63 : decode cX6_setWeight 63 = .ok (.getfield 26, 3) := by decide +kernel
theorem dX6_setWeight_66 : decode cX6_setWeight 66 = .ok (.invokevirtual 72, 3) := by decide +kernel
theorem dX6_setWeight_69 : decode cX6_setWeight 69 = .ok (.iload_n 1, 1) := by decide +kernel
theorem dX6_setWeight_70 : decode cX6_setWeight 70 = .ok (.iload_n 2, 1) := by decide +kernel
theorem dX6_setWeight_71 : decode cX6_setWeight 71 = .ok (.invokevirtual 106, 3) := by decide +kernel
theorem dX6_setWeight_74 : decode cX6_setWeight 74 = .ok (.iload_n 3, 1) := by decide +kernel
theorem dX6_setWeight_75 : decode cX6_setWeight 75 = .ok (.ireturn, 1) := by decide +kernel
set_option maxRecDepth 20000 in
theorem ggX6_setStrategy_X4_strategy : GoodIn wsX6_setStrategy wsX4_strategy := goodIn_r _ [7, 8, 74, 75, 76, 77, 78] (by decide +kernel) (by decide +kernel)
set_option maxRecDepth 20000 in
theorem gX6_setStrategy_X4_strategy : GoodIn wsX6_setStrategy (wsV RX6 110 RX4 yX4_strategy wsX4_strategy) := goodIn_app (goodIn_of _ (by decide +kernel)) ggX6_setStrategy_X4_strategy
set_option maxRecDepth 20000 in
theorem ggX6_setStrategy_X1_push : GoodIn wsX6_setStrategy wsX1_push := goodIn_r _ [13, 14, 15, 16, 17, 6, 18, 19, 20, 21, 22, 23, 24, 25, 26, 27, 28, 29, 30, 31, 32, 33, 34, 8, 35, 36, 37, 38, 39, 40, 41, 42, 43, 44, 45, 46, 47, 48, 49, 50, 51, 52, 53, 54, 55, 56, 57, 58, 59, 60, 61, 62, 63, 64, 79, 80, 81, 74, 75, 76, 77, 78, 82, 83, 84, 85, 86] (by decide +kernel) (by decide +kernel)
set_option maxRecDepth 20000 in
theorem gX6_setStrategy_X1_push : GoodIn wsX6_setStrategy (wsV RX6 60 RX1 yX1_push wsX1_push) := goodIn_app (goodIn_of _ (by decide +kernel)) ggX6_setStrategy_X1_push
set_option maxRecDepth 20000 in
theorem ggX6_setStrategy_X4_changeStrategy : GoodIn wsX6_setStrategy wsX4_changeStrategy := goodIn_r _ [68, 8, 74, 75, 76, 77, 78] (by decide +kernel) (by decide +kernel)
set_option maxRecDepth 20000 in
theorem gX6_setStrategy_X4_changeStrategy : GoodIn wsX6_setStrategy (wsV RX6 113 RX4 yX4_changeStrategy wsX4_changeStrategy) := goodIn_app (goodIn_of _ (by decide +kernel)) ggX6_setStrategy_X4_changeStrategy
theorem dX6_setStrategy_0 : decode cX6_setStrategy 0 = .ok (.iload_n 1, 1) := by decide +kernel
theorem dX6_setStrategy_1 : decode cX6_setStrategy 1 = .ok (.ifCond .eq 10, 3) := by decide +kernel
theorem dX6_setStrategy_4 : decode cX6_setStrategy 4 = .ok (.iload_n 1, 1) := by decide +kernel
theorem dX6_setStrategy_5 : decode cX6_setStrategy 5 = .ok (.iconst 1, 1) := by decide +kernel
theorem dX6_setStrategy_6 : decode cX6_setStrategy 6 = .ok (.if_icmp .eq 5, 3) := by decide +kernel
theorem dX6_setStrategy_9 : decode cX6_setStrategy 9 = .ok (.iconst (-1), 1) := by decide +kernel
theorem dX6_setStrategy_10 : decode cX6_setStrategy 10 = .ok (.ireturn, 1) := by decide +kernel
theorem dX6_setStrategy_11 : decode cX6_setStrategy 11 = .ok (.aload_n 0, 1) := by decide +kernel
theorem dX6_setStrategy_12 : decode cX6_setStrategy 12 = .ok (.getfield 26, 3) := by decide +kernel
theorem dX6_setStrategy_15 : decode cX6_setStrategy 15 = .ok (.invokevirtual 110, 3) := by decide +kernel
theorem dX6_setStrategy_18 : decode cX6_setStrategy 18 = .ok (.istore_n 2, 1) := by decide +kernel
theorem dX6_setStrategy_19 : decode cX6_setStrategy 19 = .ok (.iload_n 2, 1) := by decide +kernel
theorem dX6_setStrategy_20 : decode cX6_setStrategy 20 = .ok (.iload_n 1, 1) := by decide +kernel
theorem dX6_setStrategy_21 : decode cX6_setStrategy 21 = .ok (.if_icmp .ne 6, 3) := by decide +kernel
theorem dX6_setStrategy_24 : decode cX6_setStrategy 24 = .ok (.bipush (-2), 2) := by decide +kernel
theorem dX6_setStrategy_26 : decode cX6_setStrategy 26 = .ok (.ireturn, 1) := by decide +kernel
theorem dX6_setStrategy_27 : decode cX6_setStrategy 27 = .ok (.aload_n 0, 1) := by decide +kernel
theorem dX6_setStrategy_28 : decode cX6_setStrategy 28 = .ok (.getfield 33, 3) := by decide +kernel
theorem dX6_setStrategy_31 : decode cX6_setStrategy 31 = .ok (.aload_n 0, 1) := by decide +kernel
theorem dX6_setStrategy_32 : decode cX6_setStrategy 32 = .ok (.getfield 26, 3) := by decide +kernel
theorem dX6_setStrategy_35 : decode cX6_setStrategy 35 = .ok (.invokevirtual 60, 3) := by decide +kernel
theorem dX6_setStrategy_38 : decode cX6_setStrategy 38 = .ok (.aload_n 0, 1) := by decide +kernel
theorem dX6_setStrategy_39 : decode cX6_setStrategy 39 = .ok (.getfield 26, 3) := by decide +kernel
theorem dX6_setStrategy_42 : decode cX6_setStrategy 42 = .ok (.iload_n 1, 1) := by decide +kernel
theorem dX6_setStrategy_43 : decode cX6_setStrategy 43 = .ok (.invokevirtual 113, 3) := by decide +kernel
theorem dX6_setStrategy_46 : decode cX6_setStrategy 46 = .ok (.iload_n 2, 1) := by decide +kernel
theorem dX6_setStrategy_47 : decode cX6_setStrategy 47 = .ok (.ireturn, 1) := by decide +kernel
set_option maxRecDepth 20000 in
theorem ggX6_step_X4_nextSeed : GoodIn wsX6_step wsX4_nextSeed := goodIn_r _ [7, 8, 9, 10, 11, 12, 13, 14, 15, 16, 17, 18, 19, 6, 20, 21, 22, 23, 24, 25, 26, 27, 28, 124, 125, 126, 127, 128, 129, 130, 131] (by decide +kernel) (by decide +kernel)
set_option maxRecDepth 20000 in
theorem gX6_step_X4_nextSeed : GoodIn wsX6_step (wsV RX6 116 RX4 yX4_nextSeed wsX4_nextSeed) := goodIn_app (goodIn_of _ (by decide +kernel)) ggX6_step_X4_nextSeed
set_option maxRecDepth 20000 in
theorem ggX6_step_X1_push : GoodIn wsX6_step wsX1_push := goodIn_r _ [33, 34, 35, 36, 37, 6, 38, 39, 40, 41, 42, 43, 44, 45, 13, 8, 46, 47, 48, 49, 50, 51, 21, 9, 52, 53, 54, 55, 56, 16, 57, 58, 59, 60, 61, 62, 63, 64, 65, 66, 67, 68, 69, 70, 71, 72, 73, 15, 74, 75, 76, 77, 78, 79, 132, 133, 134, 124, 125, 126, 127, 128, 129, 130, 131, 135, 136] (by decide +kernel) (by decide +kernel)
set_option maxRecDepth 20000 in
theorem gX6_step_X1_push : GoodIn wsX6_step (wsV RX6 60 RX1 yX1_push wsX1_push) := goodIn_app (goodIn_of _ (by decide +kernel)) ggX6_step_X1_push
set_option maxRecDepth 20000 in
theorem ggX6_step_X4_explore : GoodIn wsX6_step wsX4_explore := goodIn_r _ [83, 8, 84, 85, 86, 13, 87, 88, 89, 90, 91, 92, 15, 16, 55, 93, 94, 95, 96, 97, 11, 12, 14, 98, 99, 100, 101, 6, 102, 50, 103, 104, 105, 48, 106, 79, 60, 107, 108, 109, 110, 21, 111, 112, 113, 114, 115, 116, 117, 118, 49, 10, 124, 125, 126, 127, 128, 129, 130, 131, 135, 136] (by decide +kernel) (by decide +kernel)
set_option maxRecDepth 20000 in
theorem gX6_step_X4_explore : GoodIn wsX6_step (wsV RX6 119 RX4 yX4_explore wsX4_explore) := goodIn_app (goodIn_of _ (by decide +kernel)) ggX6_step_X4_explore
theorem dX6_step_0 : decode cX6_step 0 = .ok (.aload_n 0, 1) := by decide +kernel
theorem dX6_step_1 : decode cX6_step 1 = .ok (.getfield 26, 3) := by decide +kernel
theorem dX6_step_4 : decode cX6_step 4 = .ok (.invokevirtual 116, 3) := by decide +kernel
theorem dX6_step_7 : decode cX6_step 7 = .ok (.istore_n 1, 1) := by decide +kernel
theorem dX6_step_8 : decode cX6_step 8 = .ok (.iload_n 1, 1) := by decide +kernel
theorem dX6_step_9 : decode cX6_step 9 = .ok (.bipush (-9), 2) := by decide +kernel
theorem dX6_step_11 : decode cX6_step 11 = .ok (.if_icmp .ne 6, 3) := by decide +kernel
theorem dX6_step_14 : decode cX6_step 14 = .ok (.bipush (-2), 2) := by decide +kernel
theorem dX6_step_16 : decode cX6_step 16 = .ok (.ireturn, 1) := by decide +kernel
theorem dX6_step_17 : decode cX6_step 17 = .ok (.aload_n 0, 1) := by decide +kernel
theorem dX6_step_18 : decode cX6_step 18 = .ok (.getfield 33, 3) := by decide +kernel
theorem dX6_step_21 : decode cX6_step 21 = .ok (.aload_n 0, 1) := by decide +kernel
theorem dX6_step_22 : decode cX6_step 22 = .ok (.getfield 26, 3) := by decide +kernel
theorem dX6_step_25 : decode cX6_step 25 = .ok (.invokevirtual 60, 3) := by decide +kernel
theorem dX6_step_28 : decode cX6_step 28 = .ok (.aload_n 0, 1) := by decide +kernel
theorem dX6_step_29 : decode cX6_step 29 = .ok (.getfield 26, 3) := by decide +kernel
theorem dX6_step_32 : decode cX6_step 32 = .ok (.iload_n 1, 1) := by decide +kernel
theorem dX6_step_33 : decode cX6_step 33 = .ok (.invokevirtual 119, 3) := by decide +kernel
theorem dX6_step_36 : decode cX6_step 36 = .ok (.ireturn, 1) := by decide +kernel
set_option maxRecDepth 20000 in
theorem ggX6_finish_X4_nextSeed : GoodIn wsX6_finish wsX4_nextSeed := goodIn_r _ [7, 8, 9, 10, 11, 12, 13, 14, 15, 16, 17, 18, 19, 6, 20, 21, 22, 23, 24, 25, 26, 27, 28, 124, 125, 126, 127, 128, 129, 130, 131] (by decide +kernel) (by decide +kernel)
set_option maxRecDepth 20000 in
theorem gX6_finish_X4_nextSeed : GoodIn wsX6_finish (wsV RX6 116 RX4 yX4_nextSeed wsX4_nextSeed) := goodIn_app (goodIn_of _ (by decide +kernel)) ggX6_finish_X4_nextSeed
set_option maxRecDepth 20000 in
theorem ggX6_finish_X1_push : GoodIn wsX6_finish wsX1_push := goodIn_r _ [33, 34, 35, 36, 37, 6, 38, 39, 40, 41, 42, 43, 44, 45, 13, 8, 46, 47, 48, 49, 50, 51, 21, 9, 52, 53, 54, 55, 56, 16, 57, 58, 59, 60, 61, 62, 63, 64, 65, 66, 67, 68, 69, 70, 71, 72, 73, 15, 74, 75, 76, 77, 78, 79, 132, 133, 134, 124, 125, 126, 127, 128, 129, 130, 131, 135, 136] (by decide +kernel) (by decide +kernel)
set_option maxRecDepth 20000 in
theorem gX6_finish_X1_push : GoodIn wsX6_finish (wsV RX6 60 RX1 yX1_push wsX1_push) := goodIn_app (goodIn_of _ (by decide +kernel)) ggX6_finish_X1_push
set_option maxRecDepth 20000 in
theorem ggX6_finish_X4_explore : GoodIn wsX6_finish wsX4_explore := goodIn_r _ [83, 8, 84, 85, 86, 13, 87, 88, 89, 90, 91, 92, 15, 16, 55, 93, 94, 95, 96, 97, 11, 12, 14, 98, 99, 100, 101, 6, 102, 50, 103, 104, 105, 48, 106, 79, 60, 107, 108, 109, 110, 21, 111, 112, 113, 114, 115, 116, 117, 118, 49, 10, 124, 125, 126, 127, 128, 129, 130, 131, 135, 136] (by decide +kernel) (by decide +kernel)
set_option maxRecDepth 20000 in
theorem gX6_finish_X4_explore : GoodIn wsX6_finish (wsV RX6 119 RX4 yX4_explore wsX4_explore) := goodIn_app (goodIn_of _ (by decide +kernel)) ggX6_finish_X4_explore
theorem dX6_finish_0 : decode cX6_finish 0 = .ok (.aload_n 0, 1) := by decide +kernel
theorem dX6_finish_1 : decode cX6_finish 1 = .ok (.getfield 26, 3) := by decide +kernel
theorem dX6_finish_4 : decode cX6_finish 4 = .ok (.invokevirtual 116, 3) := by decide +kernel
theorem dX6_finish_7 : decode cX6_finish 7 = .ok (.istore_n 1, 1) := by decide +kernel
theorem dX6_finish_8 : decode cX6_finish 8 = .ok (.iload_n 1, 1) := by decide +kernel
theorem dX6_finish_9 : decode cX6_finish 9 = .ok (.bipush (-9), 2) := by decide +kernel
theorem dX6_finish_11 : decode cX6_finish 11 = .ok (.if_icmp .ne 6, 3) := by decide +kernel
theorem dX6_finish_14 : decode cX6_finish 14 = .ok (.bipush (-2), 2) := by decide +kernel
theorem dX6_finish_16 : decode cX6_finish 16 = .ok (.ireturn, 1) := by decide +kernel
theorem dX6_finish_17 : decode cX6_finish 17 = .ok (.aload_n 0, 1) := by decide +kernel
theorem dX6_finish_18 : decode cX6_finish 18 = .ok (.getfield 33, 3) := by decide +kernel
theorem dX6_finish_21 : decode cX6_finish 21 = .ok (.aload_n 0, 1) := by decide +kernel
theorem dX6_finish_22 : decode cX6_finish 22 = .ok (.getfield 26, 3) := by decide +kernel
theorem dX6_finish_25 : decode cX6_finish 25 = .ok (.invokevirtual 60, 3) := by decide +kernel
theorem dX6_finish_28 : decode cX6_finish 28 = .ok (.iconst 0, 1) := by decide +kernel
theorem dX6_finish_29 : decode cX6_finish 29 = .ok (.istore_n 2, 1) := by decide +kernel
theorem dX6_finish_30 : decode cX6_finish 30 = .ok (.iload_n 1, 1) := by decide +kernel
theorem dX6_finish_31 : decode cX6_finish 31 = .ok (.bipush (-9), 2) := by decide +kernel
theorem dX6_finish_33 : decode cX6_finish 33 = .ok (.if_icmp .eq 33, 3) := by decide +kernel
theorem dX6_finish_36 : decode cX6_finish 36 = .ok (.iload_n 2, 1) := by decide +kernel
theorem dX6_finish_37 : decode cX6_finish 37 = .ok (.sipush 504, 3) := by decide +kernel
theorem dX6_finish_40 : decode cX6_finish 40 = .ok (.if_icmp .ge 26, 3) := by decide +kernel
theorem dX6_finish_43 : decode cX6_finish 43 = .ok (.aload_n 0, 1) := by decide +kernel
theorem dX6_finish_44 : decode cX6_finish 44 = .ok (.getfield 26, 3) := by decide +kernel
theorem dX6_finish_47 : decode cX6_finish 47 = .ok (.iload_n 1, 1) := by decide +kernel
theorem dX6_finish_48 : decode cX6_finish 48 = .ok (.invokevirtual 119, 3) := by decide +kernel
theorem dX6_finish_51 : decode cX6_finish 51 = .ok (.pop, 1) := by decide +kernel
theorem dX6_finish_52 : decode cX6_finish 52 = .ok (.iinc 2 1, 3) := by decide +kernel
theorem dX6_finish_55 : decode cX6_finish 55 = .ok (.aload_n 0, 1) := by decide +kernel
theorem dX6_finish_56 : decode cX6_finish 56 = .ok (.getfield 26, 3) := by decide +kernel
theorem dX6_finish_59 : decode cX6_finish 59 = .ok (.invokevirtual 116, 3) := by decide +kernel
theorem dX6_finish_62 : decode cX6_finish 62 = .ok (.istore_n 1, 1) := by decide +kernel
theorem dX6_finish_63 : decode cX6_finish 63 = .ok (.goto (-33), 3) := by decide +kernel
theorem dX6_finish_66 : decode cX6_finish 66 = .ok (.iload_n 2, 1) := by decide +kernel
theorem dX6_finish_67 : decode cX6_finish 67 = .ok (.ireturn, 1) := by decide +kernel
set_option maxRecDepth 20000 in
theorem ggX6_undo_X1_pop : GoodIn wsX6_undo wsX1_pop := goodIn_r _ [7, 8, 9, 10, 11, 12, 13, 14, 15, 16, 17, 18, 19, 20, 21, 22, 23, 24, 25, 26, 27, 28, 29, 30, 31, 32, 33, 34, 35, 36, 37, 38, 39, 40, 41, 51, 52, 53, 54, 55, 56, 57, 58, 59, 60, 61, 62, 63] (by decide +kernel) (by decide +kernel)
set_option maxRecDepth 20000 in
theorem gX6_undo_X1_pop : GoodIn wsX6_undo (wsV RX6 122 RX1 yX1_pop wsX1_pop) := goodIn_app (goodIn_of _ (by decide +kernel)) ggX6_undo_X1_pop
set_option maxRecDepth 20000 in
theorem ggX6_undo_X1_depth : GoodIn wsX6_undo wsX1_depth := goodIn_r _ [45, 10, 51, 52, 53] (by decide +kernel) (by decide +kernel)
set_option maxRecDepth 20000 in
theorem gX6_undo_X1_depth : GoodIn wsX6_undo (wsV RX6 126 RX1 yX1_depth wsX1_depth) := goodIn_app (goodIn_of _ (by decide +kernel)) ggX6_undo_X1_depth
theorem dX6_undo_0 : decode cX6_undo 0 = .ok (.aload_n 0, 1) := by decide +kernel
theorem dX6_undo_1 : decode cX6_undo 1 = .ok (.getfield 33, 3) := by decide +kernel
theorem dX6_undo_4 : decode cX6_undo 4 = .ok (.aload_n 0, 1) := by decide +kernel
theorem dX6_undo_5 : decode cX6_undo 5 = .ok (.getfield 26, 3) := by decide +kernel
theorem dX6_undo_8 : decode cX6_undo 8 = .ok (.invokevirtual 122, 3) := by decide +kernel
theorem dX6_undo_11 : decode cX6_undo 11 = .ok (.ifCond .ne 6, 3) := by decide +kernel
theorem dX6_undo_14 : decode cX6_undo 14 = .ok (.bipush (-2), 2) := by decide +kernel
theorem dX6_undo_16 : decode cX6_undo 16 = .ok (.ireturn, 1) := by decide +kernel
theorem dX6_undo_17 : decode cX6_undo 17 = .ok (.aload_n 0, 1) := by decide +kernel
theorem dX6_undo_18 : decode cX6_undo 18 = .ok (.getfield 33, 3) := by decide +kernel
theorem dX6_undo_21 : decode cX6_undo 21 = .ok (.invokevirtual 126, 3) := by decide +kernel
theorem dX6_undo_24 : decode cX6_undo 24 = .ok (.ireturn, 1) := by decide +kernel
set_option maxRecDepth 20000 in
theorem ggX6_seed_X4_nextSeed : GoodIn wsX6_seed wsX4_nextSeed := goodIn_r _ [6, 7, 8, 9, 10, 11, 12, 13, 14, 15, 16, 17, 18, 5, 19, 20, 21, 22, 23, 24, 25, 26, 27, 33, 34, 35, 36, 37, 38, 39, 40] (by decide +kernel) (by decide +kernel)
set_option maxRecDepth 20000 in
theorem gX6_seed_X4_nextSeed : GoodIn wsX6_seed (wsV RX6 116 RX4 yX4_nextSeed wsX4_nextSeed) := goodIn_app (goodIn_of _ (by decide +kernel)) ggX6_seed_X4_nextSeed
theorem dX6_seed_0 : decode cX6_seed 0 = .ok (.aload_n 0, 1) := by decide +kernel
theorem dX6_seed_1 : decode cX6_seed 1 = .ok (.getfield 26, 3) := by decide +kernel
theorem dX6_seed_4 : decode cX6_seed 4 = .ok (.invokevirtual 116, 3) := by decide +kernel
theorem dX6_seed_7 : decode cX6_seed 7 = .ok (.ireturn, 1) := by decide +kernel
set_option maxRecDepth 20000 in
theorem ggX6_unexploredCount_X4_countUnexplored : GoodIn wsX6_unexploredCount wsX4_countUnexplored := goodIn_r _ [6, 7, 8, 9, 10, 11, 12, 13, 14, 15, 16, 17, 5, 18, 19, 25, 26, 27, 28, 29, 30, 31, 32] (by decide +kernel) (by decide +kernel)
set_option maxRecDepth 20000 in
theorem gX6_unexploredCount_X4_countUnexplored : GoodIn wsX6_unexploredCount (wsV RX6 129 RX4 yX4_countUnexplored wsX4_countUnexplored) := goodIn_app (goodIn_of _ (by decide +kernel)) ggX6_unexploredCount_X4_countUnexplored
theorem dX6_unexploredCount_0 : decode cX6_unexploredCount 0 = .ok (.aload_n 0, 1) := by decide +kernel
theorem dX6_unexploredCount_1 : decode cX6_unexploredCount 1 = .ok (.getfield 26, 3) := by decide +kernel
theorem dX6_unexploredCount_4 : decode cX6_unexploredCount 4 = .ok (.invokevirtual 129, 3) := by decide +kernel
theorem dX6_unexploredCount_7 : decode cX6_unexploredCount 7 = .ok (.ireturn, 1) := by decide +kernel
set_option maxRecDepth 20000 in
theorem ggX6_musCount_X4_muses : GoodIn wsX6_musCount wsX4_muses := goodIn_r _ [6, 7, 19, 20, 21, 22, 23] (by decide +kernel) (by decide +kernel)
set_option maxRecDepth 20000 in
theorem gX6_musCount_X4_muses : GoodIn wsX6_musCount (wsV RX6 132 RX4 yX4_muses wsX4_muses) := goodIn_app (goodIn_of _ (by decide +kernel)) ggX6_musCount_X4_muses
set_option maxRecDepth 20000 in
theorem ggX6_musCount_X3_size : GoodIn wsX6_musCount wsX3_size := goodIn_r _ [12, 13, 24, 25] (by decide +kernel) (by decide +kernel)
set_option maxRecDepth 20000 in
theorem gX6_musCount_X3_size : GoodIn wsX6_musCount (wsV RX6 136 RX3 yX3_size wsX3_size) := goodIn_app (goodIn_of _ (by decide +kernel)) ggX6_musCount_X3_size
theorem dX6_musCount_0 : decode cX6_musCount 0 = .ok (.aload_n 0, 1) := by decide +kernel
theorem dX6_musCount_1 : decode cX6_musCount 1 = .ok (.getfield 26, 3) := by decide +kernel
theorem dX6_musCount_4 : decode cX6_musCount 4 = .ok (.invokevirtual 132, 3) := by decide +kernel
theorem dX6_musCount_7 : decode cX6_musCount 7 = .ok (.invokevirtual 136, 3) := by decide +kernel
theorem dX6_musCount_10 : decode cX6_musCount 10 = .ok (.ireturn, 1) := by decide +kernel
set_option maxRecDepth 20000 in
theorem ggX6_mus_X4_muses : GoodIn wsX6_mus wsX4_muses := goodIn_r _ [6, 7, 24, 25, 26, 27, 28] (by decide +kernel) (by decide +kernel)
set_option maxRecDepth 20000 in
theorem gX6_mus_X4_muses : GoodIn wsX6_mus (wsV RX6 132 RX4 yX4_muses wsX4_muses) := goodIn_app (goodIn_of _ (by decide +kernel)) ggX6_mus_X4_muses
set_option maxRecDepth 20000 in
theorem ggX6_mus_X6_entry : GoodIn wsX6_mus wsX6_entry := goodIn_r _ [11, 12, 13, 14, 15, 16, 17, 18, 29, 30] (by decide +kernel) (by decide +kernel)
set_option maxRecDepth 20000 in
theorem gX6_mus_X6_entry : GoodIn wsX6_mus (va_wsS RX6 139 yX6_entry wsX6_entry) := goodIn_app (goodIn_of _ (by decide +kernel)) ggX6_mus_X6_entry
theorem dX6_mus_0 : decode cX6_mus 0 = .ok (.aload_n 0, 1) := by decide +kernel
theorem dX6_mus_1 : decode cX6_mus 1 = .ok (.getfield 26, 3) := by decide +kernel
theorem dX6_mus_4 : decode cX6_mus 4 = .ok (.invokevirtual 132, 3) := by decide +kernel
theorem dX6_mus_7 : decode cX6_mus 7 = .ok (.iload_n 1, 1) := by decide +kernel
theorem dX6_mus_8 : decode cX6_mus 8 = .ok (.invokestatic 139, 3) := by decide +kernel
theorem dX6_mus_11 : decode cX6_mus 11 = .ok (.ireturn, 1) := by decide +kernel
set_option maxRecDepth 20000 in
theorem ggX6_mssCount_X4_msses : GoodIn wsX6_mssCount wsX4_msses := goodIn_r _ [6, 7, 19, 20, 21, 22, 23] (by decide +kernel) (by decide +kernel)
set_option maxRecDepth 20000 in
theorem gX6_mssCount_X4_msses : GoodIn wsX6_mssCount (wsV RX6 143 RX4 yX4_msses wsX4_msses) := goodIn_app (goodIn_of _ (by decide +kernel)) ggX6_mssCount_X4_msses
set_option maxRecDepth 20000 in
theorem ggX6_mssCount_X3_size : GoodIn wsX6_mssCount wsX3_size := goodIn_r _ [12, 13, 24, 25] (by decide +kernel) (by decide +kernel)
set_option maxRecDepth 20000 in
theorem gX6_mssCount_X3_size : GoodIn wsX6_mssCount (wsV RX6 136 RX3 yX3_size wsX3_size) := goodIn_app (goodIn_of _ (by decide +kernel)) ggX6_mssCount_X3_size
theorem dX6_mssCount_0 : decode cX6_mssCount 0 = .ok (.aload_n 0, 1) := by decide +kernel
theorem dX6_mssCount_1 : decode cX6_mssCount 1 = .ok (.getfield 26, 3) := by decide +kernel
theorem dX6_mssCount_4 : decode cX6_mssCount 4 = .ok (.invokevirtual 143, 3) := by decide +kernel
theorem dX6_mssCount_7 : decode cX6_mssCount 7 = .ok (.invokevirtual 136, 3) := by decide +kernel
theorem dX6_mssCount_10 : decode cX6_mssCount 10 = .ok (.ireturn, 1) := by decide +kernel
set_option maxRecDepth 20000 in
theorem ggX6_mss_X4_msses : GoodIn wsX6_mss wsX4_msses := goodIn_r _ [6, 7, 24, 25, 26, 27, 28] (by decide +kernel) (by decide +kernel)
set_option maxRecDepth 20000 in
theorem gX6_mss_X4_msses : GoodIn wsX6_mss (wsV RX6 143 RX4 yX4_msses wsX4_msses) := goodIn_app (goodIn_of _ (by decide +kernel)) ggX6_mss_X4_msses
set_option maxRecDepth 20000 in
theorem ggX6_mss_X6_entry : GoodIn wsX6_mss wsX6_entry := goodIn_r _ [11, 12, 13, 14, 15, 16, 17, 18, 29, 30] (by decide +kernel) (by decide +kernel)
set_option maxRecDepth 20000 in
theorem gX6_mss_X6_entry : GoodIn wsX6_mss (va_wsS RX6 139 yX6_entry wsX6_entry) := goodIn_app (goodIn_of _ (by decide +kernel)) ggX6_mss_X6_entry
theorem dX6_mss_0 : decode cX6_mss 0 = .ok (.aload_n 0, 1) := by decide +kernel
theorem dX6_mss_1 : decode cX6_mss 1 = .ok (.getfield 26, 3) := by decide +kernel
theorem dX6_mss_4 : decode cX6_mss 4 = .ok (.invokevirtual 143, 3) := by decide +kernel
theorem dX6_mss_7 : decode cX6_mss 7 = .ok (.iload_n 1, 1) := by decide +kernel
theorem dX6_mss_8 : decode cX6_mss 8 = .ok (.invokestatic 139, 3) := by decide +kernel
theorem dX6_mss_11 : decode cX6_mss 11 = .ok (.ireturn, 1) := by decide +kernel
set_option maxRecDepth 20000 in
theorem ggX6_entry_X3_get : GoodIn wsX6_entry wsX3_get := goodIn_r _ [5, 6, 7, 8, 9] (by decide +kernel) (by decide +kernel)
set_option maxRecDepth 20000 in
theorem gX6_entry_X3_get : GoodIn wsX6_entry (wsV RX6 146 RX3 yX3_get wsX3_get) := goodIn_app (goodIn_of _ (by decide +kernel)) ggX6_entry_X3_get
