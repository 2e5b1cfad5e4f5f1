set_option maxRecDepth 20000 in
theorem gX7_append_X7_in : GoodIn wsX7_append (va_wsS RX7 59 yX7_in wsX7_in) := goodIn_app (goodIn_of _ (by decide +kernel)) ggX7_append_X7_in
theorem dX7_append_0 : decode cX7_append 0 = .ok (.aload_n 0, 1) := by decide +kernel
theorem dX7_append_1 : decode cX7_append 1 = .ok (.iconst 0, 1) := by decide +kernel
theorem dX7_append_2 : decode cX7_append 2 = .ok (.putfield 35, 3) := by decide +kernel
theorem dX7_append_5 : decode cX7_append 5 = .ok (.iload_n 1, 1) := by decide +kernel
theorem dX7_append_6 : decode cX7_append 6 = .ok (.iconst 0, 1) := by decide +kernel
theorem dX7_append_7 : decode cX7_append 7 = .ok (.sipush 255, 3) := by decide +kernel
theorem dX7_append_10 : decode cX7_append 10 = .ok (.invokestatic 59, 3) := by decide +kernel
theorem dX7_append_13 : decode cX7_append 13 = .ok (.ifCond .ne 5, 3) := by decide +kernel
theorem dX7_append_16 : decode cX7_append 16 = .ok (.iconst (-1), 1) := by decide +kernel
theorem dX7_append_17 : decode cX7_append 17 = .ok (.ireturn, 1) := by decide +kernel
theorem dX7_append_18 : decode cX7_append 18 = .ok (.aload_n 0, 1) := by decide +kernel
theorem dX7_append_19 : decode cX7_append 19 = .ok (.getfield 39, 3) := by decide +kernel
theorem dX7_append_22 : decode cX7_append 22 = .ok (.bipush 120, 2) := by decide +kernel
theorem dX7_append_24 : decode cX7_append 24 = .ok (.if_icmp .ne 6, 3) := by decide +kernel
theorem dX7_append_27 : decode cX7_append 27 = .ok (.bipush (-3), 2) := by decide +kernel
theorem dX7_append_29 : decode cX7_append 29 = .ok (.ireturn, 1) := by decide +kernel
theorem dX7_append_30 : decode cX7_append 30 = .ok (.aload_n 0, 1) := by decide +kernel
theorem dX7_append_31 : decode cX7_append 31 = .ok (.getfield 26, 3) := by decide +kernel
theorem dX7_append_34 : decode cX7_append 34 = .ok (.aload_n 0, 1) := by decide +kernel
theorem dX7_append_35 : decode cX7_append 35 = .ok (.getfield 39, 3) := by decide +kernel
theorem dX7_append_38 : decode cX7_append 38 = .ok (.iload_n 1, 1) := by decide +kernel
theorem dX7_append_39 : decode cX7_append 39 = .ok (.iastore, 1) := by decide +kernel
theorem dX7_append_40 : decode cX7_append 40 = .ok (.aload_n 0, 1) := by decide +kernel
theorem dX7_append_41 : decode cX7_append 41 = .ok (.dup, 1) := by decide +kernel
theorem dX7_append_42 : decode cX7_append 42 = .ok (.getfield 39, 3) := by decide +kernel
theorem dX7_append_45 : decode cX7_append 45 = .ok (.iconst 1, 1) := by decide +kernel
theorem dX7_append_46 : decode cX7_append 46 = .ok (.iadd, 1) := by decide +kernel
theorem dX7_append_47 : decode cX7_append 47 = .ok (.putfield 39, 3) := by decide +kernel
theorem dX7_append_50 : decode cX7_append 50 = .ok (.aload_n 0, 1) := by decide +kernel
theorem dX7_append_51 : decode cX7_append 51 = .ok (.getfield 39, 3) := by decide +kernel
theorem dX7_append_54 : decode cX7_append 54 = .ok (.ireturn, 1) := by decide +kernel
theorem dX7_clearText_0 : decode cX7_clearText 0 = .ok (.aload_n 0, 1) := by decide +kernel
theorem dX7_clearText_1 : decode cX7_clearText 1 = .ok (.iconst 0, 1) := by decide +kernel
theorem dX7_clearText_2 : decode cX7_clearText 2 = .ok (.putfield 35, 3) := by decide +kernel
theorem dX7_clearText_5 : decode cX7_clearText 5 = .ok (.aload_n 0, 1) := by decide +kernel
theorem dX7_clearText_6 : decode cX7_clearText 6 = .ok (.getfield 39, 3) := by decide +kernel
theorem dX7_clearText_9 : decode cX7_clearText 9 = .ok (.istore_n 1, 1) := by decide +kernel
theorem dX7_clearText_10 : decode cX7_clearText 10 = .ok (.aload_n 0, 1) := by decide +kernel
theorem dX7_clearText_11 : decode cX7_clearText 11 = .ok (.iconst 0, 1) := by decide +kernel
theorem dX7_clearText_12 : decode cX7_clearText 12 = .ok (.putfield 39, 3) := by decide +kernel
theorem dX7_clearText_15 : decode cX7_clearText 15 = .ok (.iload_n 1, 1) := by decide +kernel
theorem dX7_clearText_16 : decode cX7_clearText 16 = .ok (.ireturn, 1) := by decide +kernel
set_option maxRecDepth 20000 in
theorem ggX7_load_X7_readSystem : GoodIn wsX7_load wsX7_readSystem := goodIn_r _ [11, 4, 2, 12, 13, 14, 15, 16, 10, 17, 18, 19, 20, 21, 22, 23, 5, 24, 25, 26, 27, 28, 29, 30, 31, 32, 33, 34, 35, 36, 37, 38, 39, 40, 41, 42, 43, 44, 45, 46, 47, 48, 49, 50, 51, 52, 53, 54, 55, 56, 57, 58, 59, 60, 61, 62, 63, 64, 65, 66, 77, 78, 79, 80, 81, 82, 83, 84, 85, 86, 87, 88, 89, 90, 91, 92, 93] (by decide +kernel) (by decide +kernel)
set_option maxRecDepth 20000 in
theorem gX7_load_X7_readSystem : GoodIn wsX7_load (wsV RX7 106 RX7 yX7_readSystem wsX7_readSystem) := goodIn_app (goodIn_of _ (by decide +kernel)) ggX7_load_X7_readSystem
set_option maxRecDepth 20000 in
theorem ggX7_load_X7_isFine : GoodIn wsX7_load wsX7_isFine := goodIn_r _ [39, 2, 77, 78, 79, 80, 81, 82, 83, 84, 85, 86, 87, 88, 89, 90, 91, 92, 93] (by decide +kernel) (by decide +kernel)
set_option maxRecDepth 20000 in
theorem gX7_load_X7_isFine : GoodIn wsX7_load (wsV RX7 73 RX7 yX7_isFine wsX7_isFine) := goodIn_app (goodIn_of _ (by decide +kernel)) ggX7_load_X7_isFine
set_option maxRecDepth 20000 in
theorem ggX7_load_X7_saveForUndo : GoodIn wsX7_load wsX7_saveForUndo := goodIn_r _ [70, 71, 72, 3, 77, 78, 79, 80, 81, 82, 83, 84, 85, 86, 87, 88, 89, 90, 91, 92, 93] (by decide +kernel) (by decide +kernel)
set_option maxRecDepth 20000 in
theorem gX7_load_X7_saveForUndo : GoodIn wsX7_load (wsV RX7 109 RX7 yX7_saveForUndo wsX7_saveForUndo) := goodIn_app (goodIn_of _ (by decide +kernel)) ggX7_load_X7_saveForUndo
set_option maxRecDepth 20000 in
theorem ggX7_load_X7_emptyLists : GoodIn wsX7_load wsX7_emptyLists := goodIn_r _ [76, 3, 77, 78, 79, 80, 81, 82, 83, 84, 85, 86, 87, 88, 89, 90, 91, 92, 93] (by decide +kernel) (by decide +kernel)
set_option maxRecDepth 20000 in
theorem gX7_load_X7_emptyLists : GoodIn wsX7_load (wsV RX7 112 RX7 yX7_emptyLists wsX7_emptyLists) := goodIn_app (goodIn_of _ (by decide +kernel)) ggX7_load_X7_emptyLists
theorem dX7_load_0 : decode cX7_load 0 = .ok (.aload_n 0, 1) := by decide +kernel
theorem dX7_load_1 : decode cX7_load 1 = .ok (.iconst 0, 1) := by decide +kernel
theorem dX7_load_2 : decode cX7_load 2 = .ok (.putfield 35, 3) := by decide +kernel
theorem dX7_load_5 : decode cX7_load 5 = .ok (.aload_n 0, 1) := by decide +kernel
theorem dX7_load_6 : decode cX7_load 6 = .ok (.invokevirtual 106, 3) := by decide +kernel
theorem dX7_load_9 : decode cX7_load 9 = .ok (.aload_n 0, 1) := by decide +kernel
theorem dX7_load_10 : decode cX7_load 10 = .ok (.invokevirtual 73, 3) := by decide +kernel
theorem dX7_load_13 : decode cX7_load 13 = .ok (.ifCond .ne 11, 3) := by decide +kernel
theorem dX7_load_16 : decode cX7_load 16 = .ok (.bipush (-10), 2) := by decide +kernel
theorem dX7_load_18 : decode cX7_load 18 = .ok (.aload_n 0, 1) := by decide +kernel
theorem dX7_load_19 : decode cX7_load 19 = .ok (.getfield 70, 3) := by decide +kernel
theorem dX7_load_22 : decode cX7_load 22 = .ok (.isub, 1) := by decide +kernel
theorem dX7_load_23 : decode cX7_load 23 = .ok (.ireturn, 1) := by decide +kernel
theorem dX7_load_24 : decode cX7_load 24 = .ok (.aload_n 0, 1) := by decide +kernel
theorem dX7_load_25 : decode cX7_load 25 = .ok (.invokevirtual 109, 3) := by decide +kernel
theorem dX7_load_28 : decode cX7_load 28 = .ok (.aload_n 0, 1) := by decide +kernel
theorem dX7_load_29 : decode cX7_load 29 = .ok (.getfield 7, 3) := by decide +kernel
theorem dX7_load_32 : decode cX7_load 32 = .ok (.iconst 1, 1) := by decide +kernel
theorem dX7_load_33 : decode cX7_load 33 = .ok (.iaload, 1) := by decide +kernel
theorem dX7_load_34 : decode cX7_load 34 = .ok (.istore_n 1, 1) := by decide +kernel
theorem dX7_load_35 : decode cX7_load 35 = .ok (.iconst 0, 1) := by decide +kernel
theorem dX7_load_36 : decode cX7_load 36 = .ok (.istore_n 2, 1) := by decide +kernel
theorem dX7_load_37 : decode cX7_load 37 = .ok (.iload_n 2, 1) := by decide +kernel
theorem dX7_load_38 : decode cX7_load 38 = .ok (.bipush 64, 2) := by decide +kernel
theorem dX7_load_40 : decode cX7_load 40 = .ok (.if_icmp .ge 21, 3) := by decide +kernel
theorem dX7_load_43 : decode cX7_load 43 = .ok (.aload_n 0, 1) := by decide +kernel
theorem dX7_load_44 : decode cX7_load 44 = .ok (.getfield 7, 3) := by decide +kernel
theorem dX7_load_47 : decode cX7_load 47 = .ok (.iload_n 2, 1) := by decide +kernel
theorem dX7_load_48 : decode cX7_load 48 = .ok (.aload_n 0, 1) := by decide +kernel
theorem dX7_load_49 : decode cX7_load 49 = .ok (.getfield 13, 3) := by decide +kernel
theorem dX7_load_52 : decode cX7_load 52 = .ok (.iload_n 2, 1) := by decide +kernel
theorem dX7_load_53 : decode cX7_load 53 = .ok (.iaload, 1) := by decide +kernel
theorem dX7_load_54 : decode cX7_load 54 = .ok (.iastore, 1) := by decide +kernel
theorem dX7_load_55 : decode cX7_load 55 = .ok (.iinc 2 1, 3) := by decide +kernel
theorem dX7_load_58 : decode cX7_load 58 = .ok (.goto (-21), 3) := by decide +kernel
theorem dX7_load_61 : decode cX7_load 61 = .ok (.aload_n 0, 1) := by decide +kernel
theorem dX7_load_62 : decode cX7_load 62 = .ok (.getfield 7, 3) := by decide +kernel
theorem dX7_load_65 : decode cX7_load 65 = .ok (.iconst 1, 1) := by decide +kernel
theorem dX7_load_66 : decode cX7_load 66 = .ok (.iload_n 1, 1) := by decide +kernel
theorem dX7_load_67 : decode cX7_load 67 = .ok (.iastore, 1) := by decide +kernel
theorem dX7_load_68 : decode cX7_load 68 = .ok (.aload_n 0, 1) := by decide +kernel
theorem dX7_load_69 : decode cX7_load 69 = .ok (.invokevirtual 112, 3) := by decide +kernel
theorem dX7_load_72 : decode cX7_load 72 = .ok (.aload_n 0, 1) := by decide +kernel
theorem dX7_load_73 : decode cX7_load 73 = .ok (.iconst 0, 1) := by decide +kernel
theorem dX7_load_74 : decode cX7_load 74 = .ok (.putfield 39, 3) := by decide +kernel
theorem dX7_load_77 : decode cX7_load 77 = .ok (.aload_n 0, 1) := by decide +kernel
theorem dX7_load_78 : decode cX7_load 78 = .ok (.getfield 22, 3) := by decide +kernel
theorem dX7_load_81 : decode cX7_load 81 = .ok (.iconst 0, 1) := by decide +kernel
theorem dX7_load_82 : decode cX7_load 82 = .ok (.iconst 0, 1) := by decide +kernel
theorem dX7_load_83 : decode cX7_load 83 = .ok (.bastore, 1) := by decide +kernel
theorem dX7_load_84 : decode cX7_load 84 = .ok (.aload_n 0, 1) := by decide +kernel
theorem dX7_load_85 : decode cX7_load 85 = .ok (.getfield 22, 3) := by decide +kernel
theorem dX7_load_88 : decode cX7_load 88 = .ok (.iconst 1, 1) := by decide +kernel
theorem dX7_load_89 : decode cX7_load 89 = .ok (.iconst 0, 1) := by decide +kernel
theorem dX7_load_90 : decode cX7_load 90 = .ok (.bastore, 1) := by decide +kernel
theorem dX7_load_91 : decode cX7_load 91 = .ok (.aload_n 0, 1) := by decide +kernel
theorem dX7_load_92 : decode cX7_load 92 = .ok (.getfield 7, 3) := by decide +kernel
theorem dX7_load_95 : decode cX7_load 95 = .ok (.iconst 0, 1) := by decide +kernel
theorem dX7_load_96 : decode cX7_load 96 = .ok (.iaload, 1) := by decide +kernel
theorem dX7_load_97 : decode cX7_load 97 = .ok (.ireturn, 1) := by decide +kernel
theorem dX7_saveForUndo_0 : decode cX7_saveForUndo 0 = .ok (.aload_n 0, 1) := by decide +kernel
theorem dX7_saveForUndo_1 : decode cX7_saveForUndo 1 = .ok (.getfield 115, 3) := by decide +kernel
theorem dX7_saveForUndo_4 : decode cX7_saveForUndo 4 = .ok (.iconst 5, 1) := by decide +kernel
theorem dX7_saveForUndo_5 : decode cX7_saveForUndo 5 = .ok (.if_icmp .ne 44, 3) := by decide +kernel
theorem dX7_saveForUndo_8 : decode cX7_saveForUndo 8 = .ok (.iconst 0, 1) := by decide +kernel
theorem dX7_saveForUndo_9 : decode cX7_saveForUndo 9 = .ok (.istore_n 1, 1) := by decide +kernel
theorem dX7_saveForUndo_10 : decode cX7_saveForUndo 10 = .ok (.iload_n 1, 1) := by decide +kernel
theorem dX7_saveForUndo_11 : decode cX7_saveForUndo 11 = .ok (.sipush 2272, 3) := by decide +kernel
theorem dX7_saveForUndo_14 : decode cX7_saveForUndo 14 = .ok (.if_icmp .ge 25, 3) := by decide +kernel
theorem dX7_saveForUndo_17 : decode cX7_saveForUndo 17 = .ok (.aload_n 0, 1) := by decide +kernel
theorem dX7_saveForUndo_18 : decode cX7_saveForUndo 18 = .ok (.getfield 16, 3) := by decide +kernel
theorem dX7_saveForUndo_21 : decode cX7_saveForUndo 21 = .ok (.iload_n 1, 1) := by decide +kernel
theorem dX7_saveForUndo_22 : decode cX7_saveForUndo 22 = .ok (.aload_n 0, 1) := by decide +kernel
theorem dX7_saveForUndo_23 : decode cX7_saveForUndo 23 = .ok (.getfield 16, 3) := by decide +kernel
theorem dX7_saveForUndo_26 : decode cX7_saveForUndo 26 = .ok (.sipush 568, 3) := by decide +kernel
theorem dX7_saveForUndo_29 : decode cX7_saveForUndo 29 = .ok (.iload_n 1, 1) := by decide +kernel
theorem dX7_saveForUndo_30 : decode cX7_saveForUndo 30 = .ok (.iadd, 1) := by decide +kernel
theorem dX7_saveForUndo_31 : decode cX7_saveForUndo 31 = .ok (.iaload, 1) := by decide +kernel
theorem dX7_saveForUndo_32 : decode cX7_saveForUndo 32 = .ok (.iastore, 1) := by decide +kernel
theorem dX7_saveForUndo_33 : decode cX7_saveForUndo 33 = .ok (.iinc 1 1, 3) := by decide +kernel
theorem dX7_saveForUndo_36 : decode cX7_saveForUndo 36 = .ok (.goto (-26), 3) := by decide +kernel
theorem dX7_saveForUndo_39 : decode cX7_saveForUndo 39 = .ok (.aload_n 0, 1) := by decide +kernel
theorem dX7_saveForUndo_40 : decode cX7_saveForUndo 40 = .ok (.dup, 1) := by decide +kernel
theorem dX7_saveForUndo_41 : decode cX7_saveForUndo 41 = .ok (.getfield 115, 3) := by decide +kernel
theorem dX7_saveForUndo_44 : decode cX7_saveForUndo 44 = .ok (.iconst 1, 1) := by decide +kernel
theorem dX7_saveForUndo_45 : decode cX7_saveForUndo 45 = .ok (.isub, 1) := by decide +kernel
theorem dX7_saveForUndo_46 : decode cX7_saveForUndo 46 = .ok (.putfield 115, 3) := by decide +kernel
theorem dX7_saveForUndo_49 : decode cX7_saveForUndo 49 = .ok (.iconst 0, 1) := by decide +kernel
theorem dX7_saveForUndo_50 : decode cX7_saveForUndo 50 = .ok (.istore_n 1, 1) := by decide +kernel
theorem dX7_saveForUndo_51 : decode cX7_saveForUndo 51 = .ok (.iload_n 1, 1) := by decide +kernel
theorem dX7_saveForUndo_52 : decode cX7_saveForUndo 52 = .ok (.sipush 568, 3) := by decide +kernel
theorem dX7_saveForUndo_55 : decode cX7_saveForUndo 55 = .ok (.if_icmp .ge 30, 3) := by decide +kernel
theorem dX7_saveForUndo_58 : decode cX7_saveForUndo 58 = .ok (.aload_n 0, 1) := by decide +kernel
theorem dX7_saveForUndo_59 : decode cX7_saveForUndo 59 = .ok (.getfield 16, 3) := by decide +kernel
theorem dX7_saveForUndo_62 : decode cX7_saveForUndo 62 = .ok (.sipush 568, 3) := by decide +kernel
theorem dX7_saveForUndo_65 : decode cX7_saveForUndo 65 = .ok (.aload_n 0, 1) := by decide +kernel
theorem dX7_saveForUndo_66 : decode cX7_saveForUndo 66 = .ok (.getfield 115, 3) := by decide +kernel
theorem dX7_saveForUndo_69 : decode cX7_saveForUndo 69 = .ok (.imul, 1) := by decide +kernel
theorem dX7_saveForUndo_70 : decode cX7_saveForUndo 70 = .ok (.iload_n 1, 1) := by decide +kernel
theorem dX7_saveForUndo_71 : decode cX7_saveForUndo 71 = .ok (.iadd, 1) := by decide +kernel
theorem dX7_saveForUndo_72 : decode cX7_saveForUndo 72 = .ok (.aload_n 0, 1) := by decide +kernel
theorem dX7_saveForUndo_73 : decode cX7_saveForUndo 73 = .ok (.getfield 7, 3) := by decide +kernel
theorem dX7_saveForUndo_76 : decode cX7_saveForUndo 76 = .ok (.iload_n 1, 1) := by decide +kernel
theorem dX7_saveForUndo_77 : decode cX7_saveForUndo 77 = .ok (.iaload, 1) := by decide +kernel
theorem dX7_saveForUndo_78 : decode cX7_saveForUndo 78 = .ok (.iastore, 1) := by decide +kernel
theorem dX7_saveForUndo_79 : decode cX7_saveForUndo 79 = .ok (.iinc 1 1, 3) := by decide +kernel
theorem dX7_saveForUndo_82 : decode cX7_saveForUndo 82 = .ok (.goto (-31), 3) := by decide +kernel
theorem dX7_saveForUndo_85 : decode cX7_saveForUndo 85 = .ok (.aload_n 0, 1) := by decide +kernel
theorem dX7_saveForUndo_86 : decode cX7_saveForUndo 86 = .ok (.dup, 1) := by decide +kernel
theorem dX7_saveForUndo_87 : decode cX7_saveForUndo 87 = .ok (.getfield 115, 3) := by decide +kernel
theorem dX7_saveForUndo_90 : decode cX7_saveForUndo 90 = .ok (.iconst 1, 1) := by decide +kernel
theorem dX7_saveForUndo_91 : decode cX7_saveForUndo 91 = .ok (.iadd, 1) := by decide +kernel
theorem dX7_saveForUndo_92 : decode cX7_saveForUndo 92 = .ok (.putfield 115, 3) := by decide +kernel
theorem dX7_saveForUndo_95 : decode cX7_saveForUndo 95 = .ok (.return_, 1) := by decide +kernel
theorem dX7_emptyLists_0 : decode cX7_emptyLists 0 = .ok (.aload_n 0, 1) := by decide +kernel
theorem dX7_emptyLists_1 : decode cX7_emptyLists 1 = .ok (.getfield 7, 3) := by decide +kernel
theorem dX7_emptyLists_4 : decode cX7_emptyLists 4 = .ok (.iconst 2, 1) := by decide +kernel
theorem dX7_emptyLists_5 : decode cX7_emptyLists 5 = .ok (.iconst 0, 1) := by decide +kernel
theorem dX7_emptyLists_6 : decode cX7_emptyLists 6 = .ok (.iastore, 1) := by decide +kernel
theorem dX7_emptyLists_7 : decode cX7_emptyLists 7 = .ok (.aload_n 0, 1) := by decide +kernel
theorem dX7_emptyLists_8 : decode cX7_emptyLists 8 = .ok (.getfield 7, 3) := by decide +kernel
theorem dX7_emptyLists_11 : decode cX7_emptyLists 11 = .ok (.iconst 3, 1) := by decide +kernel
theorem dX7_emptyLists_12 : decode cX7_emptyLists 12 = .ok (.iconst 0, 1) := by decide +kernel
theorem dX7_emptyLists_13 : decode cX7_emptyLists 13 = .ok (.iastore, 1) := by decide +kernel
theorem dX7_emptyLists_14 : decode cX7_emptyLists 14 = .ok (.return_, 1) := by decide +kernel
set_option maxRecDepth 20000 in
theorem ggX7_isConstraint_X7_in : GoodIn wsX7_isConstraint wsX7_in := goodIn_r _ [5] (by decide +kernel) (by decide +kernel)
set_option maxRecDepth 20000 in
theorem gX7_isConstraint_X7_in : GoodIn wsX7_isConstraint (va_wsS RX7 59 yX7_in wsX7_in) := goodIn_app (goodIn_of _ (by decide +kernel)) ggX7_isConstraint_X7_in
theorem dX7_isConstraint_0 : decode cX7_isConstraint 0 = .ok (.iload_n 1, 1) := by decide +kernel
theorem dX7_isConstraint_1 : decode cX7_isConstraint 1 = .ok (.iconst 0, 1) := by decide +kernel
theorem dX7_isConstraint_2 : decode cX7_isConstraint 2 = .ok (.aload_n 0, 1) := by decide +kernel
theorem dX7_isConstraint_3 : decode cX7_isConstraint 3 = .ok (.getfield 7, 3) := by decide +kernel
theorem dX7_isConstraint_6 : decode cX7_isConstraint 6 = .ok (.iconst 0, 1) := by decide +kernel
theorem dX7_isConstraint_7 : decode cX7_isConstraint 7 = .ok (.iaload, 1) := by decide +kernel
theorem dX7_isConstraint_8 : decode cX7_isConstraint 8 = .ok (.iconst 1, 1) := by decide +kernel
theorem dX7_isConstraint_9 : decode cX7_isConstraint 9 = .ok (.isub, 1) := by decide +kernel
theorem dX7_isConstraint_10 : decode cX7_isConstraint 10 = .ok (.invokestatic 59, 3) := by decide +kernel
theorem dX7_isConstraint_13 : decode cX7_isConstraint 13 = .ok (.ireturn, 1) := by decide +kernel
theorem dX7_of_0 : decode cX7_of 0 = .ok (.aload_n 0, 1) := by decide +kernel
theorem dX7_of_1 : decode cX7_of 1 = .ok (.getfield 7, 3) := by decide +kernel
theorem dX7_of_4 : decode cX7_of 4 = .ok (.iconst 4, 1) := by decide +kernel
theorem dX7_of_5 : decode cX7_of 5 = .ok (.bipush 6, 2) := by decide +kernel
theorem dX7_of_7 : decode cX7_of 7 = .ok (.iload_n 1, 1) := by decide +kernel
theorem dX7_of_8 : decode cX7_of 8 = .ok (.imul, 1) := by decide +kernel
theorem dX7_of_9 : decode cX7_of 9 = .ok (.iadd, 1) := by decide +kernel
theorem dX7_of_10 : decode cX7_of 10 = .ok (.iload_n 2, 1) := by decide +kernel
theorem dX7_of_11 : decode cX7_of 11 = .ok (.iadd, 1) := by decide +kernel
theorem dX7_of_12 : decode cX7_of 12 = .ok (.iaload, 1) := by decide +kernel
theorem dX7_of_13 : decode cX7_of 13 = .ok (.ireturn, 1) := by decide +kernel
set_option maxRecDepth 20000 in
theorem ggX7_remove_X7_isConstraint : GoodIn wsX7_remove wsX7_isConstraint := goodIn_r _ [7, 2, 8, 9, 6, 10, 21, 22, 23, 24, 25, 26, 27, 28, 29, 30, 31, 32, 33, 34, 35, 36, 37] (by decide +kernel) (by decide +kernel)
set_option maxRecDepth 20000 in
theorem gX7_remove_X7_isConstraint : GoodIn wsX7_remove (wsV RX7 118 RX7 yX7_isConstraint wsX7_isConstraint) := goodIn_app (goodIn_of _ (by decide +kernel)) ggX7_remove_X7_isConstraint
set_option maxRecDepth 20000 in
theorem ggX7_remove_X7_saveForUndo : GoodIn wsX7_remove wsX7_saveForUndo := goodIn_r _ [14, 15, 16, 2, 21, 22, 23, 24, 25, 26, 27, 28, 29, 30, 31, 32, 33, 34, 35, 36, 37] (by decide +kernel) (by decide +kernel)
set_option maxRecDepth 20000 in
theorem gX7_remove_X7_saveForUndo : GoodIn wsX7_remove (wsV RX7 109 RX7 yX7_saveForUndo wsX7_saveForUndo) := goodIn_app (goodIn_of _ (by decide +kernel)) ggX7_remove_X7_saveForUndo
set_option maxRecDepth 20000 in
theorem ggX7_remove_X7_emptyLists : GoodIn wsX7_remove wsX7_emptyLists := goodIn_r _ [20, 2, 21, 22, 23, 24, 25, 26, 27, 28, 29, 30, 31, 32, 33, 34, 35, 36, 37] (by decide +kernel) (by decide +kernel)
set_option maxRecDepth 20000 in
theorem gX7_remove_X7_emptyLists : GoodIn wsX7_remove (wsV RX7 112 RX7 yX7_emptyLists wsX7_emptyLists) := goodIn_app (goodIn_of _ (by decide +kernel)) ggX7_remove_X7_emptyLists
theorem dX7_remove_0 : decode cX7_remove 0 = .ok (.aload_n 0, 1) := by decide +kernel
theorem dX7_remove_1 : decode cX7_remove 1 = .ok (.iconst 0, 1) := by decide +kernel
theorem dX7_remove_2 : decode cX7_remove 2 = .ok (.putfield 35, 3) := by decide +kernel
theorem dX7_remove_5 : decode cX7_remove 5 = .ok (.aload_n 0, 1) := by decide +kernel
theorem dX7_remove_6 : decode cX7_remove 6 = .ok (.iload_n 1, 1) := by decide +kernel
theorem dX7_remove_7 : decode cX7_remove 7 = .ok (.invokevirtual 118, 3) := by decide +kernel
theorem dX7_remove_10 : decode cX7_remove 10 = .ok (.ifCond .ne 5, 3) := by decide +kernel
theorem dX7_remove_13 : decode cX7_remove 13 = .ok (.iconst (-1), 1) := by decide +kernel
theorem dX7_remove_14 : decode cX7_remove 14 = .ok (.ireturn, 1) := by decide +kernel
theorem dX7_remove_15 : decode cX7_remove 15 = .ok (.aload_n 0, 1) := by decide +kernel
theorem dX7_remove_16 : decode cX7_remove 16 = .ok (.invokevirtual 109, 3) := by decide +kernel
theorem dX7_remove_19 : decode cX7_remove 19 = .ok (.iconst 4, 1) := by decide +kernel
theorem dX7_remove_20 : decode cX7_remove 20 = .ok (.bipush 6, 2) := by decide +kernel
theorem dX7_remove_22 : decode cX7_remove 22 = .ok (.iload_n 1, 1) := by decide +kernel
theorem dX7_remove_23 : decode cX7_remove 23 = .ok (.imul, 1) := by decide +kernel
theorem dX7_remove_24 : decode cX7_remove 24 = .ok (.iadd, 1) := by decide +kernel
theorem dX7_remove_25 : decode cX7_remove 25 = .ok (.istore_n 2, 1) := by decide +kernel
theorem dX7_remove_26 : decode cX7_remove 26 = .ok (.iload_n 2, 1) := by decide +kernel
theorem dX7_remove_27 : decode cX7_remove 27 = .ok (.bipush 6, 2) := by decide +kernel
theorem dX7_remove_29 : decode cX7_remove 29 = .ok (.iadd, 1) := by decide +kernel
theorem dX7_remove_30 : decode cX7_remove 30 = .ok (.bipush 64, 2) := by decide +kernel
theorem dX7_remove_32 : decode cX7_remove 32 = .ok (.if_icmp .ge 24, 3) := by decide +kernel
theorem dX7_remove_35 : decode cX7_remove 35 = .ok (.aload_n 0, 1) := by decide +kernel
theorem dX7_remove_36 : decode cX7_remove 36 = .ok (.getfield 7, 3) := by decide +kernel
theorem dX7_remove_39 : decode cX7_remove 39 = .ok (.iload_n 2, 1) := by decide +kernel
theorem dX7_remove_40 : decode cX7_remove 40 = .ok (.aload_n 0, 1) := by decide +kernel
theorem dX7_remove_41 : decode cX7_remove 41 = .ok (.getfield 7, 3) := by decide +kernel
theorem dX7_remove_44 : decode cX7_remove 44 = .ok (.iload_n 2, 1) := by decide +kernel
theorem dX7_remove_45 : decode cX7_remove 45 = .ok (.bipush 6, 2) := by decide +kernel
theorem dX7_remove_47 : decode cX7_remove 47 = .ok (.iadd, 1) := by decide +kernel
theorem dX7_remove_48 : decode cX7_remove 48 = .ok (.iaload, 1) := by decide +kernel
theorem dX7_remove_49 : decode cX7_remove 49 = .ok (.iastore, 1) := by decide +kernel
theorem dX7_remove_50 : decode cX7_remove 50 = .ok (.iinc 2 1, 3) := by decide +kernel
theorem dX7_remove_53 : decode cX7_remove 53 = .ok (.goto (-27), 3) := by decide +kernel
theorem dX7_remove_56 : decode cX7_remove 56 = .ok (.aload_n 0, 1) := by decide +kernel
theorem dX7_remove_57 : decode cX7_remove 57 = .ok (.getfield 7, 3) := by decide +kernel
theorem dX7_remove_60 : decode cX7_remove 60 = .ok (.iconst 0, 1) := by decide +kernel
theorem dX7_remove_61 : decode cX7_remove 61 = .ok (.dup2, 1) := by decide +kernel
theorem dX7_remove_62 : decode cX7_remove 62 = .ok (.iaload, 1) := by decide +kernel
theorem dX7_remove_63 : decode cX7_remove 63 = .ok (.iconst 1, 1) := by decide +kernel
theorem dX7_remove_64 : decode cX7_remove 64 = .ok (.isub, 1) := by decide +kernel
theorem dX7_remove_65 : decode cX7_remove 65 = .ok (.iastore, 1) := by decide +kernel
theorem dX7_remove_66 : decode cX7_remove 66 = .ok (.aload_n 0, 1) := by decide +kernel
theorem dX7_remove_67 : decode cX7_remove 67 = .ok (.invokevirtual 112, 3) := by decide +kernel
theorem dX7_remove_70 : decode cX7_remove 70 = .ok (.aload_n 0, 1) := by decide +kernel
theorem dX7_remove_71 : decode cX7_remove 71 = .ok (.getfield 7, 3) := by decide +kernel
theorem dX7_remove_74 : decode cX7_remove 74 = .ok (.iconst 0, 1) := by decide +kernel
theorem dX7_remove_75 : decode cX7_remove 75 = .ok (.iaload, 1) := by decide +kernel
theorem dX7_remove_76 : decode cX7_remove 76 = .ok (.ireturn, 1) := by decide +kernel
set_option maxRecDepth 20000 in
theorem ggX7_setHard_X7_isConstraint : GoodIn wsX7_setHard wsX7_isConstraint := goodIn_r _ [7, 2, 8, 9, 6, 10, 32, 33, 34, 35, 36, 37, 38, 39, 40, 41, 42, 43, 44, 45, 46, 47, 48] (by decide +kernel) (by decide +kernel)
set_option maxRecDepth 20000 in
theorem gX7_setHard_X7_isConstraint : GoodIn wsX7_setHard (wsV RX7 118 RX7 yX7_isConstraint wsX7_isConstraint) := goodIn_app (goodIn_of _ (by decide +kernel)) ggX7_setHard_X7_isConstraint
set_option maxRecDepth 20000 in
theorem ggX7_setHard_X7_in : GoodIn wsX7_setHard wsX7_in := goodIn_r _ [10] (by decide +kernel) (by decide +kernel)
set_option maxRecDepth 20000 in
theorem gX7_setHard_X7_in : GoodIn wsX7_setHard (va_wsS RX7 59 yX7_in wsX7_in) := goodIn_app (goodIn_of _ (by decide +kernel)) ggX7_setHard_X7_in
set_option maxRecDepth 20000 in
theorem ggX7_setHard_X7_of : GoodIn wsX7_setHard wsX7_of := goodIn_r _ [14, 2, 32, 33, 34, 35, 36, 37, 38, 39, 40, 41, 42, 43, 44, 45, 46, 47, 48] (by decide +kernel) (by decide +kernel)
set_option maxRecDepth 20000 in
theorem gX7_setHard_X7_of : GoodIn wsX7_setHard (wsV RX7 121 RX7 yX7_of wsX7_of) := goodIn_app (goodIn_of _ (by decide +kernel)) ggX7_setHard_X7_of
set_option maxRecDepth 20000 in
theorem ggX7_setHard_X7_saveForUndo : GoodIn wsX7_setHard wsX7_saveForUndo := goodIn_r _ [18, 19, 20, 2, 32, 33, 34, 35, 36, 37, 38, 39, 40, 41, 42, 43, 44, 45, 46, 47, 48] (by decide +kernel) (by decide +kernel)
set_option maxRecDepth 20000 in
theorem gX7_setHard_X7_saveForUndo : GoodIn wsX7_setHard (wsV RX7 109 RX7 yX7_saveForUndo wsX7_saveForUndo) := goodIn_app (goodIn_of _ (by decide +kernel)) ggX7_setHard_X7_saveForUndo
set_option maxRecDepth 20000 in
theorem ggX7_setHard_X7_emptyLists : GoodIn wsX7_setHard wsX7_emptyLists := goodIn_r _ [24, 2, 32, 33, 34, 35, 36, 37, 38, 39, 40, 41, 42, 43, 44, 45, 46, 47, 48] (by decide +kernel) (by decide +kernel)
set_option maxRecDepth 20000 in
theorem gX7_setHard_X7_emptyLists : GoodIn wsX7_setHard (wsV RX7 112 RX7 yX7_emptyLists wsX7_emptyLists) := goodIn_app (goodIn_of _ (by decide +kernel)) ggX7_setHard_X7_emptyLists
set_option maxRecDepth 20000 in
theorem ggX7_setHard_X7_softSet : GoodIn wsX7_setHard wsX7_softSet := goodIn_r _ [28, 2, 11, 12, 13, 6, 14, 32, 33, 34, 35, 36, 37, 38, 39, 40, 41, 42, 43, 44, 45, 46, 47, 48] (by decide +kernel) (by decide +kernel)
set_option maxRecDepth 20000 in
theorem gX7_setHard_X7_softSet : GoodIn wsX7_setHard (wsV RX7 124 RX7 yX7_softSet wsX7_softSet) := goodIn_app (goodIn_of _ (by decide +kernel)) ggX7_setHard_X7_softSet
set_option maxRecDepth 20000 in
theorem ggX7_setHard_X7_bitCount : GoodIn wsX7_setHard wsX7_bitCount := goodIn_r _ [31] (by decide +kernel) (by decide +kernel)
set_option maxRecDepth 20000 in
theorem gX7_setHard_X7_bitCount : GoodIn wsX7_setHard (va_wsS RX7 127 yX7_bitCount wsX7_bitCount) := goodIn_app (goodIn_of _ (by decide +kernel)) ggX7_setHard_X7_bitCount
theorem dX7_setHard_0 : decode cX7_setHard 0 = .ok (.aload_n 0, 1) := by decide +kernel
theorem dX7_setHard_1 : decode cX7_setHard 1 = .ok (.iconst 0, 1) := by decide +kernel
theorem dX7_setHard_2 : decode cX7_setHard 2 = .ok (.putfield 35, 3) := by decide +kernel
theorem dX7_setHard_5 : decode cX7_setHard 5 = .ok (.aload_n 0, 1) := by decide +kernel
theorem dX7_setHard_6 : decode cX7_setHard 6 = .ok (.iload_n 1, 1) := by decide +kernel
theorem dX7_setHard_7 : decode cX7_setHard 7 = .ok (.invokevirtual 118, 3) := by decide +kernel
theorem dX7_setHard_10 : decode cX7_setHard 10 = .ok (.ifCond .eq 12, 3) := by decide +kernel
theorem dX7_setHard_13 : decode cX7_setHard 13 = .ok (.iload_n 2, 1) := by decide +kernel
theorem dX7_setHard_14 : decode cX7_setHard 14 = .ok (.iconst 0, 1) := by decide +kernel
theorem dX7_setHard_15 : decode cX7_setHard 15 = .ok (.iconst 1, 1) := by decide +kernel
theorem dX7_setHard_16 : decode cX7_setHard 16 = .ok (.invokestatic 59, 3) := by decide +kernel
theorem dX7_setHard_19 : decode cX7_setHard 19 = .ok (.ifCond .ne 5, 3) := by decide +kernel
theorem dX7_setHard_22 : decode cX7_setHard 22 = .ok (.iconst (-1), 1) := by decide +kernel
theorem dX7_setHard_23 : decode cX7_setHard 23 = .ok (.ireturn, 1) := by decide +kernel
theorem dX7_setHard_24 : decode cX7_setHard 24 = .ok (.aload_n 0, 1) := by decide +kernel
theorem dX7_setHard_25 : decode cX7_setHard 25 = .ok (.iload_n 1, 1) := by decide +kernel
theorem dX7_setHard_26 : decode cX7_setHard 26 = .ok (.iconst 4, 1) := by decide +kernel
theorem dX7_setHard_27 : decode cX7_setHard 27 = .ok (.invokevirtual 121, 3) := by decide +kernel
theorem dX7_setHard_30 : decode cX7_setHard 30 = .ok (.iload_n 2, 1) := by decide +kernel
theorem dX7_setHard_31 : decode cX7_setHard 31 = .ok (.if_icmp .ne 6, 3) := by decide +kernel
theorem dX7_setHard_34 : decode cX7_setHard 34 = .ok (.bipush (-2), 2) := by decide +kernel
theorem dX7_setHard_36 : decode cX7_setHard 36 = .ok (.ireturn, 1) := by decide +kernel
theorem dX7_setHard_37 : decode cX7_setHard 37 = .ok (.aload_n 0, 1) := by decide +kernel
theorem dX7_setHard_38 : decode cX7_setHard 38 = .ok (.invokevirtual 109, 3) := by decide +kernel
theorem dX7_setHard_41 : decode cX7_setHard 41 = .ok (.aload_n 0, 1) := by decide +kernel
theorem dX7_setHard_42 : decode cX7_setHard 42 = .ok (.getfield 7, 3) := by decide +kernel
theorem dX7_setHard_45 : decode cX7_setHard 45 = .ok (.iconst 4, 1) := by decide +kernel
theorem dX7_setHard_46 : decode cX7_setHard 46 = .ok (.bipush 6, 2) := by decide +kernel
theorem dX7_setHard_48 : decode cX7_setHard 48 = .ok (.iload_n 1, 1) := by decide +kernel
theorem dX7_setHard_49 : decode cX7_setHard 49 = .ok (.imul, 1) := by decide +kernel
theorem dX7_setHard_50 : decode cX7_setHard 50 = .ok (.iadd, 1) := by decide +kernel
theorem dX7_setHard_51 : decode cX7_setHard 51 = .ok (.iconst 4, 1) := by decide +kernel
theorem dX7_setHard_52 : decode cX7_setHard 52 = .ok (.iadd, 1) := by decide +kernel
theorem dX7_setHard_53 : decode cX7_setHard 53 = .ok (.iload_n 2, 1) := by decide +kernel
theorem dX7_setHard_54 : decode cX7_setHard 54 = .ok (.iastore, 1) := by decide +kernel
theorem dX7_setHard_55 : decode cX7_setHard 55 = .ok (.aload_n 0, 1) := by decide +kernel
theorem dX7_setHard_56 : decode cX7_setHard 56 = .ok (.getfield 7, 3) := by decide +kernel
theorem dX7_setHard_59 : decode cX7_setHard 59 = .ok (.iconst 4, 1) := by decide +kernel
theorem dX7_setHard_60 : decode cX7_setHard 60 = .ok (.bipush 6, 2) := by decide +kernel
theorem dX7_setHard_62 : decode cX7_setHard 62 = .ok (.iload_n 1, 1) := by decide +kernel
theorem dX7_setHard_63 : decode cX7_setHard 63 = .ok (.imul, 1) := by decide +kernel
theorem dX7_setHard_64 : decode cX7_setHard 64 = .ok (.iadd, 1) := by decide +kernel
theorem dX7_setHard_65 : decode cX7_setHard 65 = .ok (.iconst 5, 1) := by decide +kernel
theorem dX7_setHard_66 : decode cX7_setHard 66 = .ok (.iadd, 1) := by decide +kernel
theorem dX7_setHard_67 : decode cX7_setHard 67 = .ok (.iconst 1, 1) := by decide +kernel
theorem dX7_setHard_68 : decode cX7_setHard 68 = .ok (.iload_n 2, 1) := by decide +kernel
theorem dX7_setHard_69 : decode cX7_setHard 69 = .ok (.isub, 1) := by decide +kernel
theorem dX7_setHard_70 : decode cX7_setHard 70 = .ok (.iastore, 1) := by decide +kernel
theorem dX7_setHard_71 : decode cX7_setHard 71 = .ok (.aload_n 0, 1) := by decide +kernel
theorem dX7_setHard_72 : decode cX7_setHard 72 = .ok (.invokevirtual 112, 3) := by decide +kernel
theorem dX7_setHard_75 : decode cX7_setHard 75 = .ok (.aload_n 0, 1) := by decide +kernel
theorem dX7_setHard_76 : decode cX7_setHard 76 = .ok (.invokevirtual 124, 3) := by decide +kernel
theorem dX7_setHard_79 : decode cX7_setHard 79 = .ok (.invokestatic 127, 3) := by decide +kernel
theorem dX7_setHard_82 : decode cX7_setHard 82 = .ok (.ireturn, 1) := by decide +kernel
set_option maxRecDepth 20000 in
theorem ggX7_setWeight_X7_isConstraint : GoodIn wsX7_setWeight wsX7_isConstraint := goodIn_r _ [7, 2, 8, 9, 6, 10, 21, 22, 23, 24, 25, 26, 27, 28, 29, 30, 31, 32, 33, 34, 35, 36, 37] (by decide +kernel) (by decide +kernel)
set_option maxRecDepth 20000 in
theorem gX7_setWeight_X7_isConstraint : GoodIn wsX7_setWeight (wsV RX7 118 RX7 yX7_isConstraint wsX7_isConstraint) := goodIn_app (goodIn_of _ (by decide +kernel)) ggX7_setWeight_X7_isConstraint
set_option maxRecDepth 20000 in
theorem ggX7_setWeight_X7_in : GoodIn wsX7_setWeight wsX7_in := goodIn_r _ [10] (by decide +kernel) (by decide +kernel)
set_option maxRecDepth 20000 in
theorem gX7_setWeight_X7_in : GoodIn wsX7_setWeight (va_wsS RX7 59 yX7_in wsX7_in) := goodIn_app (goodIn_of _ (by decide +kernel)) ggX7_setWeight_X7_in
set_option maxRecDepth 20000 in
theorem ggX7_setWeight_X7_of : GoodIn wsX7_setWeight wsX7_of := goodIn_r _ [14, 2, 21, 22, 23, 24, 25, 26, 27, 28, 29, 30, 31, 32, 33, 34, 35, 36, 37] (by decide +kernel) (by decide +kernel)
set_option maxRecDepth 20000 in
theorem gX7_setWeight_X7_of : GoodIn wsX7_setWeight (wsV RX7 121 RX7 yX7_of wsX7_of) := goodIn_app (goodIn_of _ (by decide +kernel)) ggX7_setWeight_X7_of
set_option maxRecDepth 20000 in
theorem ggX7_setWeight_X7_saveForUndo : GoodIn wsX7_setWeight wsX7_saveForUndo := goodIn_r _ [18, 19, 20, 2, 21, 22, 23, 24, 25, 26, 27, 28, 29, 30, 31, 32, 33, 34, 35, 36, 37] (by decide +kernel) (by decide +kernel)
set_option maxRecDepth 20000 in
theorem gX7_setWeight_X7_saveForUndo : GoodIn wsX7_setWeight (wsV RX7 109 RX7 yX7_saveForUndo wsX7_saveForUndo) := goodIn_app (goodIn_of _ (by decide +kernel)) ggX7_setWeight_X7_saveForUndo
theorem dX7_setWeight_0 : decode cX7_setWeight 0 = .ok (.aload_n 0, 1) := by decide +kernel
theorem dX7_setWeight_1 : decode cX7_setWeight 1 = .ok (.iconst 0, 1) := by decide +kernel
theorem dX7_setWeight_2 : decode cX7_setWeight 2 = .ok (.putfield 35, 3) := by decide +kernel
theorem dX7_setWeight_5 : decode cX7_setWeight 5 = .ok (.aload_n 0, 1) := by decide +kernel
theorem dX7_setWeight_6 : decode cX7_setWeight 6 = .ok (.iload_n 1, 1) := by decide +kernel
theorem dX7_setWeight_7 : decode cX7_setWeight 7 = .ok (.invokevirtual 118, 3) := by decide +kernel
theorem dX7_setWeight_10 : decode cX7_setWeight 10 = .ok (.ifCond .eq 13, 3) := by decide +kernel
theorem dX7_setWeight_13 : decode cX7_setWeight 13 = .ok (.iload_n 2, 1) := by decide +kernel
theorem dX7_setWeight_14 : decode cX7_setWeight 14 = .ok (.iconst 1, 1) := by decide +kernel
theorem dX7_setWeight_15 : decode cX7_setWeight 15 = .ok (.bipush 9, 2) := by decide +kernel
theorem dX7_setWeight_17 : decode cX7_setWeight 17 = .ok (.invokestatic 59, 3) := by decide +kernel
theorem dX7_setWeight_20 : decode cX7_setWeight 20 = .ok (.ifCond .ne 5, 3) := by decide +kernel
theorem dX7_setWeight_23 : decode cX7_setWeight 23 = .ok (.iconst (-1), 1) := by decide +kernel
theorem dX7_setWeight_24 : decode cX7_setWeight 24 = .ok (.ireturn, 1) := by decide +kernel
theorem dX7_setWeight_25 : decode cX7_setWeight 25 = .ok (.aload_n 0, 1) := by decide +kernel
theorem dX7_setWeight_26 : decode cX7_setWeight 26 = .ok (.iload_n 1, 1) := by decide +kernel
theorem dX7_setWeight_27 : decode cX7_setWeight 27 = .ok (.iconst 5, 1) := by decide +kernel
theorem dX7_setWeight_28 : decode cX7_setWeight 28 = .ok (.invokevirtual 121, 3) := by decide +kernel
theorem dX7_setWeight_31 : decode cX7_setWeight 31 = .ok (.istore_n 3, 1) := by decide +kernel
theorem dX7_setWeight_32 : decode cX7_setWeight 32 = .ok (.aload_n 0, 1) := by decide +kernel
theorem dX7_setWeight_33 : decode cX7_setWeight 33 = .ok (.iload_n 1, 1) := by decide +kernel
theorem dX7_setWeight_34 : decode cX7_setWeight 34 = .ok (.iconst 4, 1) := by decide +kernel
theorem dX7_setWeight_35 : decode cX7_setWeight 35 = .ok (.invokevirtual 121, 3) := by decide +kernel
theorem dX7_setWeight_38 : decode cX7_setWeight 38 = .ok (.iconst 1, 1) := by decide +kernel
theorem dX7_setWeight_39 : decode cX7_setWeight 39 = .ok (.if_icmp .eq 8, 3) := by decide +kernel
theorem dX7_setWeight_42 : decode cX7_setWeight 42 = .ok (.iload_n 3, 1) := by decide +kernel
theorem dX7_setWeight_43 : decode cX7_setWeight 43 = .ok (.iload_n 2, 1) := by decide +kernel
theorem dX7_setWeight_44 : decode cX7_setWeight 44 = .ok (.if_icmp .ne 6, 3) := by decide +kernel
theorem dX7_setWeight_47 : decode cX7_setWeight 47 = .ok (.bipush (-2), 2) := by decide +kernel
theorem dX7_setWeight_49 : decode cX7_setWeight 49 = .ok (.ireturn, 1) := by decide +kernel
theorem dX7_setWeight_50 : decode cX7_setWeight 50 = .ok (.aload_n 0, 1) := by decide +kernel
theorem dX7_setWeight_51 : decode cX7_setWeight 51 = .ok (.invokevirtual 109, 3) := by decide +kernel
theorem dX7_setWeight_54 : decode cX7_setWeight 54 = .ok (.aload_n 0, 1) := by decide +kernel
theorem dX7_setWeight_55 : decode cX7_setWeight 55 = .ok (.getfield 7, 3) := by decide +kernel
theorem dX7_setWeight_58 : decode cX7_setWeight 58 = .ok (.iconst 4, 1) := by decide +kernel
theorem dX7_setWeight_59 : decode cX7_setWeight 59 = .ok (.bipush 6, 2) := by decide +kernel
theorem dX7_setWeight_61 : decode cX7_setWeight 61 = .ok (.iload_n 1, 1) := by decide +kernel
theorem dX7_setWeight_62 : decode cX7_setWeight 62 = .ok (.imul, 1) := by decide +kernel
theorem dX7_setWeight_63 : decode cX7_setWeight 63 = .ok (.iadd, 1) := by decide +kernel
theorem dX7_setWeight_64 : decode cX7_setWeight 64 = .ok (.iconst 5, 1) := by decide +kernel
theorem dX7_setWeight_65 : decode cX7_setWeight 65 = .ok (.iadd, 1) := by decide +kernel
theorem dX7_setWeight_66 : decode cX7_setWeight 66 = .ok (.iload_n 2, 1) := by decide +kernel
theorem dX7_setWeight_67 : decode cX7_setWeight 67 = .ok (.iastore, 1) := by decide +kernel
theorem dX7_setWeight_68 : decode cX7_setWeight 68 = .ok (.iload_n 3, 1) := by decide +kernel
theorem dX7_setWeight_69 : decode cX7_setWeight 69 = .ok (.ireturn, 1) := by decide +kernel
set_option maxRecDepth 20000 in
theorem ggX7_setStrategy_X7_in : GoodIn wsX7_setStrategy wsX7_in := goodIn_r _ [6] (by decide +kernel) (by decide +kernel)
set_option maxRecDepth 20000 in
theorem gX7_setStrategy_X7_in : GoodIn wsX7_setStrategy (va_wsS RX7 59 yX7_in wsX7_in) := goodIn_app (goodIn_of _ (by decide +kernel)) ggX7_setStrategy_X7_in
set_option maxRecDepth 20000 in
theorem ggX7_setStrategy_X7_saveForUndo : GoodIn wsX7_setStrategy wsX7_saveForUndo := goodIn_r _ [10, 11, 12, 2, 13, 14, 15, 16, 17, 18, 19, 20, 21, 22, 23, 24, 25, 26, 27, 28, 29] (by decide +kernel) (by decide +kernel)
set_option maxRecDepth 20000 in
theorem gX7_setStrategy_X7_saveForUndo : GoodIn wsX7_setStrategy (wsV RX7 109 RX7 yX7_saveForUndo wsX7_saveForUndo) := goodIn_app (goodIn_of _ (by decide +kernel)) ggX7_setStrategy_X7_saveForUndo
theorem dX7_setStrategy_0 : decode cX7_setStrategy 0 = .ok (.aload_n 0, 1) := by decide +kernel
theorem dX7_setStrategy_1 : decode cX7_setStrategy 1 = .ok (.iconst 0, 1) := by decide +kernel
theorem dX7_setStrategy_2 : decode cX7_setStrategy 2 = .ok (.putfield 35, 3) := by decide +kernel
theorem dX7_setStrategy_5 : decode cX7_setStrategy 5 = .ok (.iload_n 1, 1) := by decide +kernel
theorem dX7_setStrategy_6 : decode cX7_setStrategy 6 = .ok (.iconst 0, 1) := by decide +kernel
theorem dX7_setStrategy_7 : decode cX7_setStrategy 7 = .ok (.iconst 1, 1) := by decide +kernel
theorem dX7_setStrategy_8 : decode cX7_setStrategy 8 = .ok (.invokestatic 59, 3) := by decide +kernel
theorem dX7_setStrategy_11 : decode cX7_setStrategy 11 = .ok (.ifCond .ne 5, 3) := by decide +kernel
theorem dX7_setStrategy_14 : decode cX7_setStrategy 14 = .ok (.iconst (-1), 1) := by decide +kernel
theorem dX7_setStrategy_15 : decode cX7_setStrategy 15 = .ok (.ireturn, 1) := by decide +kernel
theorem dX7_setStrategy_16 : decode cX7_setStrategy 16 = .ok (.aload_n 0, 1) := by decide +kernel
theorem dX7_setStrategy_17 : decode cX7_setStrategy 17 = .ok (.getfield 7, 3) := by decide +kernel
theorem dX7_setStrategy_20 : decode cX7_setStrategy 20 = .ok (.iconst 1, 1) := by decide +kernel
theorem dX7_setStrategy_21 : decode cX7_setStrategy 21 = .ok (.iaload, 1) := by decide +kernel
theorem dX7_setStrategy_22 : decode cX7_setStrategy 22 = .ok (.istore_n 2, 1) := by decide +kernel
theorem dX7_setStrategy_23 : decode cX7_setStrategy 23 = .ok (.iload_n 2, 1) := by decide +kernel
theorem dX7_setStrategy_24 : decode cX7_setStrategy 24 = .ok (.iload_n 1, 1) := by decide +kernel
theorem dX7_setStrategy_25 : decode cX7_setStrategy 25 = .ok (.if_icmp .ne 6, 3) := by decide +kernel
theorem dX7_setStrategy_28 : decode cX7_setStrategy 28 = .ok (.bipush (-2), 2) := by decide +kernel
theorem dX7_setStrategy_30 : decode cX7_setStrategy 30 = .ok (.ireturn, 1) := by decide +kernel
theorem dX7_setStrategy_31 : decode cX7_setStrategy 31 = .ok (.aload_n 0, 1) := by decide +kernel
theorem dX7_setStrategy_32 : decode cX7_setStrategy 32 = .ok (.invokevirtual 109, 3) := by decide +kernel
theorem dX7_setStrategy_35 : decode cX7_setStrategy 35 = .ok (.aload_n 0, 1) := by decide +kernel
theorem dX7_setStrategy_36 : decode cX7_setStrategy 36 = .ok (.getfield 7, 3) := by decide +kernel
theorem dX7_setStrategy_39 : decode cX7_setStrategy 39 = .ok (.iconst 1, 1) := by decide +kernel
theorem dX7_setStrategy_40 : decode cX7_setStrategy 40 = .ok (.iload_n 1, 1) := by decide +kernel
theorem dX7_setStrategy_41 : decode cX7_setStrategy 41 = .ok (.iastore, 1) := by decide +kernel
theorem dX7_setStrategy_42 : decode cX7_setStrategy 42 = .ok (.iload_n 2, 1) := by decide +kernel
theorem dX7_setStrategy_43 : decode cX7_setStrategy 43 = .ok (.ireturn, 1) := by decide +kernel
set_option maxRecDepth 20000 in
theorem ggX7_softSet_X7_of : GoodIn wsX7_softSet wsX7_of := goodIn_r _ [6, 1, 7, 8, 9, 10, 11, 12, 13, 14, 15, 16, 17, 18, 19, 20, 21, 22, 23] (by decide +kernel) (by decide +kernel)
set_option maxRecDepth 20000 in
theorem gX7_softSet_X7_of : GoodIn wsX7_softSet (wsV RX7 121 RX7 yX7_of wsX7_of) := goodIn_app (goodIn_of _ (by decide +kernel)) ggX7_softSet_X7_of
theorem dX7_softSet_0 : decode cX7_softSet 0 = .ok (.iconst 0, 1) := by decide +kernel
theorem dX7_softSet_1 : decode cX7_softSet 1 = .ok (.istore_n 1, 1) := by decide +kernel
theorem dX7_softSet_2 : decode cX7_softSet 2 = .ok (.iconst 0, 1) := by decide +kernel
theorem dX7_softSet_3 : decode cX7_softSet 3 = .ok (.istore_n 2, 1) := by decide +kernel
theorem dX7_softSet_4 : decode cX7_softSet 4 = .ok (.iload_n 2, 1) := by decide +kernel
theorem dX7_softSet_5 : decode cX7_softSet 5 = .ok (.aload_n 0, 1) := by decide +kernel
theorem dX7_softSet_6 : decode cX7_softSet 6 = .ok (.getfield 7, 3) := by decide +kernel
theorem dX7_softSet_9 : decode cX7_softSet 9 = .ok (.iconst 0, 1) := by decide +kernel
theorem dX7_softSet_10 : decode cX7_softSet 10 = .ok (.iaload, 1) := by decide +kernel
theorem dX7_softSet_11 : decode cX7_softSet 11 = .ok (.if_icmp .ge 28, 3) := by decide +kernel
theorem dX7_softSet_14 : decode cX7_softSet 14 = .ok (.iload_n 1, 1) := by decide +kernel
theorem dX7_softSet_15 : decode cX7_softSet 15 = .ok (.aload_n 0, 1) := by decide +kernel
theorem dX7_softSet_16 : decode cX7_softSet 16 = .ok (.iload_n 2, 1) := by decide +kernel
theorem dX7_softSet_17 : decode cX7_softSet 17 = .ok (.iconst 4, 1) := by decide +kernel
theorem dX7_softSet_18 : decode cX7_softSet 18 = .ok (.invokevirtual 121, 3) := by decide +kernel
theorem dX7_softSet_21 : decode cX7_softSet 21 = .ok (.ifCond .ne 9, 3) := by decide +kernel
theorem dX7_softSet_24 : decode cX7_softSet 24 = .ok (.iconst 1, 1) := by decide +kernel
theorem dX7_softSet_25 : decode cX7_softSet 25 = .ok (.iload_n 2, 1) := by decide +kernel
theorem dX7_softSet_26 : decode cX7_softSet 26 = .ok (.ishl, 1) := by decide +kernel
theorem dX7_softSet_27 : decode cX7_softSet 27 = .ok (.goto 4, 3) := by decide +kernel
theorem dX7_softSet_30 : decode cX7_softSet 30 = .ok (.iconst 0, 1) := by decide +kernel
theorem dX7_softSet_31 : decode cX7_softSet 31 = .ok (.ior, 1) := by decide +kernel
theorem dX7_softSet_32 : decode cX7_softSet 32 = .ok (.istore_n 1, 1) := by decide +kernel
theorem dX7_softSet_33 : decode cX7_softSet 33 = .ok (.iinc 2 1, 3) := by decide +kernel
theorem dX7_softSet_36 : decode cX7_softSet 36 = .ok (.goto (-32), 3) := by decide +kernel
theorem dX7_softSet_39 : decode cX7_softSet 39 = .ok (.iload_n 1, 1) := by decide +kernel
theorem dX7_softSet_40 : decode cX7_softSet 40 = .ok (.ireturn, 1) := by decide +kernel
set_option maxRecDepth 20000 in
theorem ggX7_hardSet_X7_softSet : GoodIn wsX7_hardSet wsX7_softSet := goodIn_r _ [6, 1, 7, 8, 9, 5, 10, 11, 12, 13, 14, 15, 16, 17, 18, 19, 20, 21, 22, 23, 24, 25, 26, 27] (by decide +kernel) (by decide +kernel)
set_option maxRecDepth 20000 in
theorem gX7_hardSet_X7_softSet : GoodIn wsX7_hardSet (wsV RX7 124 RX7 yX7_softSet wsX7_softSet) := goodIn_app (goodIn_of _ (by decide +kernel)) ggX7_hardSet_X7_softSet
theorem dX7_hardSet_0 : decode cX7_hardSet 0 = .ok (.iconst 1, 1) := by decide +kernel
theorem dX7_hardSet_1 : decode cX7_hardSet 1 = .ok (.aload_n 0, 1) := by decide +kernel
theorem dX7_hardSet_2 : decode cX7_hardSet 2 = .ok (.getfield 7, 3) := by decide +kernel
theorem dX7_hardSet_5 : decode cX7_hardSet 5 = .ok (.iconst 0, 1) := by decide +kernel
theorem dX7_hardSet_6 : decode cX7_hardSet 6 = .ok (.iaload, 1) := by decide +kernel
theorem dX7_hardSet_7 : decode cX7_hardSet 7 = .ok (.ishl, 1) := by decide +kernel
theorem dX7_hardSet_8 : decode cX7_hardSet 8 = .ok (.iconst 1, 1) := by decide +kernel
theorem dX7_hardSet_9 : decode cX7_hardSet 9 = .ok (.isub, 1) := by decide +kernel
theorem dX7_hardSet_10 : decode cX7_hardSet 10 = .ok (.aload_n 0, 1) := by decide +kernel
theorem dX7_hardSet_11 : decode cX7_hardSet 11 = .ok (.invokevirtual 124, 3) := by decide +kernel
theorem dX7_hardSet_14 : decode cX7_hardSet 14 = .ok (.iconst (-1), 1) := by decide +kernel
theorem dX7_hardSet_15 : decode cX7_hardSet 15 = .ok (.ixor, 1) := by decide +kernel
theorem dX7_hardSet_16 : decode cX7_hardSet 16 = .ok (.iand, 1) := by decide +kernel
theorem dX7_hardSet_17 : decode cX7_hardSet 17 = .ok (.ireturn, 1) := by decide +kernel
set_option maxRecDepth 20000 in
theorem ggX7_holds_X7_has : GoodIn wsX7_holds wsX7_has := goodIn_r _ [4] (by decide +kernel) (by decide +kernel)
set_option maxRecDepth 20000 in
theorem gX7_holds_X7_has : GoodIn wsX7_holds (va_wsS RX7 96 yX7_has wsX7_has) := goodIn_app (goodIn_of _ (by decide +kernel)) ggX7_holds_X7_has
set_option maxRecDepth 20000 in
theorem ggX7_holds_X7_of : GoodIn wsX7_holds wsX7_of := goodIn_r _ [8, 9, 10, 11, 12, 13, 14, 15, 16, 17, 18, 19, 20, 21, 22, 23, 24, 25, 26] (by decide +kernel) (by decide +kernel)
set_option maxRecDepth 20000 in
theorem gX7_holds_X7_of : GoodIn wsX7_holds (wsV RX7 121 RX7 yX7_of wsX7_of) := goodIn_app (goodIn_of _ (by decide +kernel)) ggX7_holds_X7_of
theorem dX7_holds_0 : decode cX7_holds 0 = .ok (.iconst 0, 1) := by decide +kernel
theorem dX7_holds_1 : decode cX7_holds 1 = .ok (.istore_n 3, 1) := by decide +kernel
theorem dX7_holds_2 : decode cX7_holds 2 = .ok (.iconst 1, 1) := by decide +kernel
theorem dX7_holds_3 : decode cX7_holds 3 = .ok (.istore 4, 2) := by decide +kernel
theorem dX7_holds_5 : decode cX7_holds 5 = .ok (.iload 4, 2) := by decide +kernel
theorem dX7_holds_7 : decode cX7_holds 7 = .ok (.bipush 7, 2) := by decide +kernel
theorem dX7_holds_9 : decode cX7_holds 9 = .ok (.if_icmp .ge 65, 3) := by decide +kernel
theorem dX7_holds_12 : decode cX7_holds 12 = .ok (.iload_n 2, 1) := by decide +kernel
theorem dX7_holds_13 : decode cX7_holds 13 = .ok (.iload 4, 2) := by decide +kernel
theorem dX7_holds_15 : decode cX7_holds 15 = .ok (.iconst 1, 1) := by decide +kernel
theorem dX7_holds_16 : decode cX7_holds 16 = .ok (.isub, 1) := by decide +kernel
theorem dX7_holds_17 : decode cX7_holds 17 = .ok (.invokestatic 96, 3) := by decide +kernel
theorem dX7_holds_20 : decode cX7_holds 20 = .ok (.aload_n 0, 1) := by decide +kernel
theorem dX7_holds_21 : decode cX7_holds 21 = .ok (.iload_n 1, 1) := by decide +kernel
theorem dX7_holds_22 : decode cX7_holds 22 = .ok (.iconst 3, 1) := by decide +kernel
theorem dX7_holds_23 : decode cX7_holds 23 = .ok (.invokevirtual 121, 3) := by decide +kernel
theorem dX7_holds_26 : decode cX7_holds 26 = .ok (.iload 4, 2) := by decide +kernel
theorem dX7_holds_28 : decode cX7_holds 28 = .ok (.invokestatic 96, 3) := by decide +kernel
theorem dX7_holds_31 : decode cX7_holds 31 = .ok (.if_icmp .eq 7, 3) := by decide +kernel
theorem dX7_holds_34 : decode cX7_holds 34 = .ok (.iconst 1, 1) := by decide +kernel
theorem dX7_holds_35 : decode cX7_holds 35 = .ok (.goto 4, 3) := by decide +kernel
theorem dX7_holds_38 : decode cX7_holds 38 = .ok (.iconst 0, 1) := by decide +kernel
theorem dX7_holds_39 : decode cX7_holds 39 = .ok (.istore 5, 2) := by decide +kernel
theorem dX7_holds_41 : decode cX7_holds 41 = .ok (.iload_n 3, 1) := by decide +kernel
theorem dX7_holds_42 : decode cX7_holds 42 = .ok (.aload_n 0, 1) := by decide +kernel
theorem dX7_holds_43 : decode cX7_holds 43 = .ok (.iload_n 1, 1) := by decide +kernel
theorem dX7_holds_44 : decode cX7_holds 44 = .ok (.iconst 2, 1) := by decide +kernel
theorem dX7_holds_45 : decode cX7_holds 45 = .ok (.invokevirtual 121, 3) := by decide +kernel
theorem dX7_holds_48 : decode cX7_holds 48 = .ok (.iload 4, 2) := by decide +kernel
theorem dX7_holds_50 : decode cX7_holds 50 = .ok (.invokestatic 96, 3) := by decide +kernel
theorem dX7_holds_53 : decode cX7_holds 53 = .ok (.ifCond .eq 12, 3) := by decide +kernel
theorem dX7_holds_56 : decode cX7_holds 56 = .ok (.iload 5, 2) := by decide +kernel
theorem dX7_holds_58 : decode cX7_holds 58 = .ok (.ifCond .eq 7, 3) := by decide +kernel
theorem dX7_holds_61 : decode cX7_holds 61 = .ok (.iconst 1, 1) := by decide +kernel
theorem dX7_holds_62 : decode cX7_holds 62 = .ok (.goto 4, 3) := by decide +kernel
theorem dX7_holds_65 : decode cX7_holds 65 = .ok (.iconst 0, 1) := by decide +kernel
theorem dX7_holds_66 : decode cX7_holds 66 = .ok (.iadd, 1) := by decide +kernel
theorem dX7_holds_67 : decode cX7_holds 67 = .ok (.istore_n 3, 1) := by decide +kernel
theorem dX7_holds_68 : decode cX7_holds 68 = .ok (.iinc 4 1, 3) := by decide +kernel
theorem dX7_holds_71 : decode cX7_holds 71 = .ok (.goto (-66), 3) := by decide +kernel
theorem dX7_holds_74 : decode cX7_holds 74 = .ok (.aload_n 0, 1) := by decide +kernel
theorem dX7_holds_75 : decode cX7_holds 75 = .ok (.iload_n 1, 1) := by decide +kernel
theorem dX7_holds_76 : decode cX7_holds 76 = .ok (.iconst 0, 1) := by decide +kernel
theorem dX7_holds_77 : decode cX7_holds 77 = .ok (.invokevirtual 121, 3) := by decide +kernel
theorem dX7_holds_80 : decode cX7_holds 80 = .ok (.istore 4, 2) := by decide +kernel
theorem dX7_holds_82 : decode cX7_holds 82 = .ok (.iload 4, 2) := by decide +kernel
theorem dX7_holds_84 : decode cX7_holds 84 = .ok (.ifCond .ne 15, 3) := by decide +kernel
theorem dX7_holds_87 : decode cX7_holds 87 = .ok (.iload_n 3, 1) := by decide +kernel
theorem dX7_holds_88 : decode cX7_holds 88 = .ok (.ifCond .le 7, 3) := by decide +kernel
theorem dX7_holds_91 : decode cX7_holds 91 = .ok (.iconst 1, 1) := by decide +kernel
theorem dX7_holds_92 : decode cX7_holds 92 = .ok (.goto 43, 3) := by decide +kernel
theorem dX7_holds_95 : decode cX7_holds 95 = .ok (.iconst 0, 1) := by decide +kernel
theorem dX7_holds_96 : decode cX7_holds 96 = .ok (.goto 39, 3) := by decide +kernel
theorem dX7_holds_99 : decode cX7_holds 99 = .ok (.iload 4, 2) := by decide +kernel
theorem dX7_holds_101 : decode cX7_holds 101 = .ok (.iconst 1, 1) := by decide +kernel
theorem dX7_holds_102 : decode cX7_holds 102 = .ok (.if_icmp .ne 18, 3) := by decide +kernel
theorem dX7_holds_105 : decode cX7_holds 105 = .ok (.iload_n 3, 1) := by decide +kernel
theorem dX7_holds_106 : decode cX7_holds 106 = .ok (.iconst 2, 1) := by decide +kernel
theorem dX7_holds_107 : decode cX7_holds 107 = .ok (.irem, 1) := by decide +kernel
theorem dX7_holds_108 : decode cX7_holds 108 = .ok (.iconst 1, 1) := by decide +kernel
theorem dX7_holds_109 : decode cX7_holds 109 = .ok (.if_icmp .ne 7, 3) := by decide +kernel
theorem dX7_holds_112 : decode cX7_holds 112 = .ok (.iconst 1, 1) := by decide +kernel
theorem dX7_holds_113 : decode cX7_holds 113 = .ok (.goto 22, 3) := by decide +kernel
theorem dX7_holds_116 : decode cX7_holds 116 = .ok (.iconst 0, 1) := by decide +kernel
theorem dX7_holds_117 : decode cX7_holds 117 = .ok (.goto 18, 3) := by decide +kernel
theorem dX7_holds_120 : decode cX7_holds 120 = .ok (.iload_n 3, 1) := by decide +kernel
theorem dX7_holds_121 : decode cX7_holds 121 = .ok (.aload_n 0, 1) := by decide +kernel
theorem dX7_holds_122 : decode cX7_holds 122 = .ok (.iload_n 1, 1) := by decide +kernel
theorem dX7_holds_123 : decode cX7_holds 123 = .ok (.iconst 1, 1) := by decide +kernel
theorem dX7_holds_124 : decode cX7_holds 124 = .ok (.invokevirtual 121, 3) := by decide +kernel
theorem dX7_holds_127 : decode cX7_holds 127 = .ok (.if_icmp .gt 7, 3) := by decide +kernel
theorem dX7_holds_130 : decode cX7_holds 130 = .ok (.iconst 1, 1) := by decide +kernel
theorem dX7_holds_131 : decode cX7_holds 131 = .ok (.goto 4, 3) := by decide +kernel
theorem dX7_holds_134 : decode cX7_holds 134 = .ok (.iconst 0, 1) := by decide +kernel
theorem dX7_holds_135 : decode cX7_holds 135 = .ok (.ireturn, 1) := by decide +kernel
set_option maxRecDepth 20000 in
theorem ggX7_violatedBy_X7_holds : GoodIn wsX7_violatedBy wsX7_holds := goodIn_r _ [6, 7, 8, 5, 9, 10, 11, 12, 13, 1, 14, 15, 16, 17, 18, 19, 20, 21, 22, 23, 24, 25, 26, 27, 28, 29, 30] (by decide +kernel) (by decide +kernel)
set_option maxRecDepth 20000 in
theorem gX7_violatedBy_X7_holds : GoodIn wsX7_violatedBy (wsV RX7 130 RX7 yX7_holds wsX7_holds) := goodIn_app (goodIn_of _ (by decide +kernel)) ggX7_violatedBy_X7_holds
theorem dX7_violatedBy_0 : decode cX7_violatedBy 0 = .ok (.iconst 0, 1) := by decide +kernel
theorem dX7_violatedBy_1 : decode cX7_violatedBy 1 = .ok (.istore_n 2, 1) := by decide +kernel
theorem dX7_violatedBy_2 : decode cX7_violatedBy 2 = .ok (.iconst 0, 1) := by decide +kernel
theorem dX7_violatedBy_3 : decode cX7_violatedBy 3 = .ok (.istore_n 3, 1) := by decide +kernel
theorem dX7_violatedBy_4 : decode cX7_violatedBy 4 = .ok (.iload_n 3, 1) := by decide +kernel
theorem dX7_violatedBy_5 : decode cX7_violatedBy 5 = .ok (.aload_n 0, 1) := by decide +kernel
theorem dX7_violatedBy_6 : decode cX7_violatedBy 6 = .ok (.getfield 7, 3) := by decide +kernel
theorem dX7_violatedBy_9 : decode cX7_violatedBy 9 = .ok (.iconst 0, 1) := by decide +kernel
theorem dX7_violatedBy_10 : decode cX7_violatedBy 10 = .ok (.iaload, 1) := by decide +kernel
theorem dX7_violatedBy_11 : decode cX7_violatedBy 11 = .ok (.if_icmp .ge 28, 3) := by decide +kernel
theorem dX7_violatedBy_14 : decode cX7_violatedBy 14 = .ok (.iload_n 2, 1) := by decide +kernel
theorem dX7_violatedBy_15 : decode cX7_violatedBy 15 = .ok (.aload_n 0, 1) := by decide +kernel
theorem dX7_violatedBy_16 : decode cX7_violatedBy 16 = .ok (.iload_n 3, 1) := by decide +kernel
theorem dX7_violatedBy_17 : decode cX7_violatedBy 17 = .ok (.iload_n 1, 1) := by decide +kernel
theorem dX7_violatedBy_18 : decode cX7_violatedBy 18 = .ok (.invokevirtual 130, 3) := by decide +kernel
theorem dX7_violatedBy_21 : decode cX7_violatedBy 21 = .ok (.ifCond .eq 7, 3) := by decide +kernel
theorem dX7_violatedBy_24 : decode cX7_violatedBy 24 = .ok (.iconst 0, 1) := by decide +kernel
theorem dX7_violatedBy_25 : decode cX7_violatedBy 25 = .ok (.goto 6, 3) := by decide +kernel
theorem dX7_violatedBy_28 : decode cX7_violatedBy 28 = .ok (.iconst 1, 1) := by decide +kernel
theorem dX7_violatedBy_29 : decode cX7_violatedBy 29 = .ok (.iload_n 3, 1) := by decide +kernel
theorem dX7_violatedBy_30 : decode cX7_violatedBy 30 = .ok (.ishl, 1) := by decide +kernel
theorem dX7_violatedBy_31 : decode cX7_violatedBy 31 = .ok (.ior, 1) := by decide +kernel
theorem dX7_violatedBy_32 : decode cX7_violatedBy 32 = .ok (.istore_n 2, 1) := by decide +kernel
theorem dX7_violatedBy_33 : decode cX7_violatedBy 33 = .ok (.iinc 3 1, 3) := by decide +kernel
theorem dX7_violatedBy_36 : decode cX7_violatedBy 36 = .ok (.goto (-32), 3) := by decide +kernel
theorem dX7_violatedBy_39 : decode cX7_violatedBy 39 = .ok (.iload_n 2, 1) := by decide +kernel
theorem dX7_violatedBy_40 : decode cX7_violatedBy 40 = .ok (.ireturn, 1) := by decide +kernel
set_option maxRecDepth 20000 in
theorem ggX7_prepare_X7_violatedBy : GoodIn wsX7_prepare wsX7_violatedBy := goodIn_r _ [7, 8, 9, 10, 11, 6, 12, 13, 14, 15, 16, 17, 18, 19, 28, 29, 30, 31, 32, 33, 34, 35, 36, 37, 38, 39, 40, 41, 42, 43, 44] (by decide +kernel) (by decide +kernel)
set_option maxRecDepth 20000 in
theorem gX7_prepare_X7_violatedBy : GoodIn wsX7_prepare (wsV RX7 133 RX7 yX7_violatedBy wsX7_violatedBy) := goodIn_app (goodIn_of _ (by decide +kernel)) ggX7_prepare_X7_violatedBy
set_option maxRecDepth 20000 in
theorem ggX7_prepare_X7_hardSet : GoodIn wsX7_prepare wsX7_hardSet := goodIn_r _ [23, 8, 24, 25, 26, 6, 27, 16, 17, 18, 19, 28, 29, 30, 31, 32, 33, 34, 35, 36, 37, 38, 39, 40, 41, 42, 43, 44] (by decide +kernel) (by decide +kernel)
set_option maxRecDepth 20000 in
theorem gX7_prepare_X7_hardSet : GoodIn wsX7_prepare (wsV RX7 136 RX7 yX7_hardSet wsX7_hardSet) := goodIn_app (goodIn_of _ (by decide +kernel)) ggX7_prepare_X7_hardSet
theorem dX7_prepare_0 : decode cX7_prepare 0 = .ok (.iconst 0, 1) := by decide +kernel
theorem dX7_prepare_1 : decode cX7_prepare 1 = .ok (.istore_n 1, 1) := by decide +kernel
theorem dX7_prepare_2 : decode cX7_prepare 2 = .ok (.iload_n 1, 1) := by decide +kernel
theorem dX7_prepare_3 : decode cX7_prepare 3 = .ok (.bipush 64, 2) := by decide +kernel
theorem dX7_prepare_5 : decode cX7_prepare 5 = .ok (.if_icmp .ge 20, 3) := by decide +kernel
theorem dX7_prepare_8 : decode cX7_prepare 8 = .ok (.aload_n 0, 1) := by decide +kernel
theorem dX7_prepare_9 : decode cX7_prepare 9 = .ok (.getfield 29, 3) := by decide +kernel
theorem dX7_prepare_12 : decode cX7_prepare 12 = .ok (.iload_n 1, 1) := by decide +kernel
theorem dX7_prepare_13 : decode cX7_prepare 13 = .ok (.aload_n 0, 1) := by decide +kernel
theorem dX7_prepare_14 : decode cX7_prepare 14 = .ok (.iload_n 1, 1) := by decide +kernel
theorem dX7_prepare_15 : decode cX7_prepare 15 = .ok (.invokevirtual 133, 3) := by decide +kernel
theorem dX7_prepare_18 : decode cX7_prepare 18 = .ok (.iastore, 1) := by decide +kernel
theorem dX7_prepare_19 : decode cX7_prepare 19 = .ok (.iinc 1 1, 3) := by decide +kernel
theorem dX7_prepare_22 : decode cX7_prepare 22 = .ok (.goto (-20), 3) := by decide +kernel
theorem dX7_prepare_25 : decode cX7_prepare 25 = .ok (.aload_n 0, 1) := by decide +kernel
theorem dX7_prepare_26 : decode cX7_prepare 26 = .ok (.aload_n 0, 1) := by decide +kernel
theorem dX7_prepare_27 : decode cX7_prepare 27 = .ok (.invokevirtual 136, 3) := by decide +kernel
theorem dX7_prepare_30 : decode cX7_prepare 30 = .ok (.putfield 139, 3) := by decide +kernel
theorem dX7_prepare_33 : decode cX7_prepare 33 = .ok (.return_, 1) := by decide +kernel
theorem dX7_modelOf_0 : decode cX7_modelOf 0 = .ok (.iconst 0, 1) := by decide +kernel
theorem dX7_modelOf_1 : decode cX7_modelOf 1 = .ok (.istore_n 2, 1) := by decide +kernel
theorem dX7_modelOf_2 : decode cX7_modelOf 2 = .ok (.iload_n 2, 1) := by decide +kernel
theorem dX7_modelOf_3 : decode cX7_modelOf 3 = .ok (.bipush 64, 2) := by decide +kernel
theorem dX7_modelOf_5 : decode cX7_modelOf 5 = .ok (.if_icmp .ge 27, 3) := by decide +kernel
theorem dX7_modelOf_8 : decode cX7_modelOf 8 = .ok (.aload_n 0, 1) := by decide +kernel
theorem dX7_modelOf_9 : decode cX7_modelOf 9 = .ok (.getfield 29, 3) := by decide +kernel
theorem dX7_modelOf_12 : decode cX7_modelOf 12 = .ok (.iload_n 2, 1) := by decide +kernel
theorem dX7_modelOf_13 : decode cX7_modelOf 13 = .ok (.iaload, 1) := by decide +kernel
theorem dX7_modelOf_14 : decode cX7_modelOf 14 = .ok (.iload_n 1, 1) := by decide +kernel
theorem dX7_modelOf_15 : decode cX7_modelOf 15 = .ok (.aload_n 0, 1) := by decide +kernel
theorem dX7_modelOf_16 : decode cX7_modelOf 16 = .ok (.getfield 139, 3) := by decide +kernel
theorem dX7_modelOf_19 : decode cX7_modelOf 19 = .ok (.ior, 1) := by decide +kernel
theorem dX7_modelOf_20 : decode cX7_modelOf 20 = .ok (.iand, 1) := by decide +kernel
theorem dX7_modelOf_21 : decode cX7_modelOf 21 = .ok (.ifCond .ne 5, 3) := by decide +kernel
theorem dX7_modelOf_24 : decode cX7_modelOf 24 = .ok (.iload_n 2, 1) := by decide +kernel
theorem dX7_modelOf_25 : decode cX7_modelOf 25 = .ok (.ireturn, 1) := by decide +kernel
theorem dX7_modelOf_26 : decode cX7_modelOf 26 = .ok (.iinc 2 1, 3) := by decide +kernel
theorem dX7_modelOf_29 : decode cX7_modelOf 29 = .ok (.goto (-27), 3) := by decide +kernel
theorem dX7_modelOf_32 : decode cX7_modelOf 32 = .ok (.bipush (-9), 2) := by decide +kernel
theorem dX7_modelOf_34 : decode cX7_modelOf 34 = .ok (.ireturn, 1) := by decide +kernel
set_option maxRecDepth 20000 in
theorem ggX7_isSatisfiable_X7_modelOf : GoodIn wsX7_isSatisfiable wsX7_modelOf := goodIn_r _ [5, 6, 7, 8, 9, 10, 11, 12, 13, 14, 15, 16, 17, 18, 19, 20, 21, 22, 23, 24] (by decide +kernel) (by decide +kernel)
set_option maxRecDepth 20000 in
theorem gX7_isSatisfiable_X7_modelOf : GoodIn wsX7_isSatisfiable (wsV RX7 142 RX7 yX7_modelOf wsX7_modelOf) := goodIn_app (goodIn_of _ (by decide +kernel)) ggX7_isSatisfiable_X7_modelOf
theorem dX7_isSatisfiable_0 : decode cX7_isSatisfiable 0 = .ok (.aload_n 0, 1) := by decide +kernel
theorem dX7_isSatisfiable_1 : decode cX7_isSatisfiable 1 = .ok (.iload_n 1, 1) := by decide +kernel
theorem dX7_isSatisfiable_2 : decode cX7_isSatisfiable 2 = .ok (.invokevirtual 142, 3) := by decide +kernel
theorem dX7_isSatisfiable_5 : decode cX7_isSatisfiable 5 = .ok (.bipush (-9), 2) := by decide +kernel
theorem dX7_isSatisfiable_7 : decode cX7_isSatisfiable 7 = .ok (.if_icmp .eq 7, 3) := by decide +kernel
theorem dX7_isSatisfiable_10 : decode cX7_isSatisfiable 10 = .ok (.iconst 1, 1) := by decide +kernel
theorem dX7_isSatisfiable_11 : decode cX7_isSatisfiable 11 = .ok (.goto 4, 3) := by decide +kernel
theorem dX7_isSatisfiable_14 : decode cX7_isSatisfiable 14 = .ok (.iconst 0, 1) := by decide +kernel
theorem dX7_isSatisfiable_15 : decode cX7_isSatisfiable 15 = .ok (.ireturn, 1) := by decide +kernel
set_option maxRecDepth 20000 in
theorem ggX7_grow_X7_of : GoodIn wsX7_grow wsX7_of := goodIn_r _ [6, 1, 20, 21, 22, 23, 24, 25, 26, 27, 28, 29, 30, 31, 32, 33, 34, 35, 36] (by decide +kernel) (by decide +kernel)
set_option maxRecDepth 20000 in
theorem gX7_grow_X7_of : GoodIn wsX7_grow (wsV RX7 121 RX7 yX7_of wsX7_of) := goodIn_app (goodIn_of _ (by decide +kernel)) ggX7_grow_X7_of
set_option maxRecDepth 20000 in
theorem ggX7_grow_X7_has : GoodIn wsX7_grow wsX7_has := goodIn_r _ [9] (by decide +kernel) (by decide +kernel)
set_option maxRecDepth 20000 in
theorem gX7_grow_X7_has : GoodIn wsX7_grow (va_wsS RX7 96 yX7_has wsX7_has) := goodIn_app (goodIn_of _ (by decide +kernel)) ggX7_grow_X7_has
set_option maxRecDepth 20000 in
theorem ggX7_grow_X7_isSatisfiable : GoodIn wsX7_grow wsX7_isSatisfiable := goodIn_r _ [13, 14, 15, 16, 5, 17, 18, 19, 20, 21, 22, 23, 24, 25, 26, 27, 28, 29, 30, 31, 32, 33, 34, 35, 36] (by decide +kernel) (by decide +kernel)
set_option maxRecDepth 20000 in
theorem gX7_grow_X7_isSatisfiable : GoodIn wsX7_grow (wsV RX7 145 RX7 yX7_isSatisfiable wsX7_isSatisfiable) := goodIn_app (goodIn_of _ (by decide +kernel)) ggX7_grow_X7_isSatisfiable
theorem dX7_grow_0 : decode cX7_grow 0 = .ok (.iload_n 1, 1) := by decide +kernel
theorem dX7_grow_1 : decode cX7_grow 1 = .ok (.istore_n 2, 1) := by decide +kernel
theorem dX7_grow_2 : decode cX7_grow 2 = .ok (.iconst 0, 1) := by decide +kernel
theorem dX7_grow_3 : decode cX7_grow 3 = .ok (.istore_n 3, 1) := by decide +kernel
theorem dX7_grow_4 : decode cX7_grow 4 = .ok (.iload_n 3, 1) := by decide +kernel
theorem dX7_grow_5 : decode cX7_grow 5 = .ok (.aload_n 0, 1) := by decide +kernel
theorem dX7_grow_6 : decode cX7_grow 6 = .ok (.getfield 7, 3) := by decide +kernel
theorem dX7_grow_9 : decode cX7_grow 9 = .ok (.iconst 0, 1) := by decide +kernel
theorem dX7_grow_10 : decode cX7_grow 10 = .ok (.iaload, 1) := by decide +kernel
theorem dX7_grow_11 : decode cX7_grow 11 = .ok (.if_icmp .ge 60, 3) := by decide +kernel
theorem dX7_grow_14 : decode cX7_grow 14 = .ok (.aload_n 0, 1) := by decide +kernel
theorem dX7_grow_15 : decode cX7_grow 15 = .ok (.iload_n 3, 1) := by decide +kernel
theorem dX7_grow_16 : decode cX7_grow 16 = .ok (.iconst 4, 1) := by decide +kernel
theorem dX7_grow_17 : decode cX7_grow 17 = .ok (.invokevirtual 121, 3) := by decide +kernel
theorem dX7_grow_20 : decode cX7_grow 20 = .ok (.ifCond .ne 15, 3) := by decide +kernel
theorem dX7_grow_23 : decode cX7_grow 23 = .ok (.iload_n 2, 1) := by decide +kernel
theorem dX7_grow_24 : decode cX7_grow 24 = .ok (.iload_n 3, 1) := by decide +kernel
theorem dX7_grow_25 : decode cX7_grow 25 = .ok (.invokestatic 96, 3) := by decide +kernel
theorem dX7_grow_28 : decode cX7_grow 28 = .ok (.ifCond .ne 7, 3) := by decide +kernel
theorem dX7_grow_31 : decode cX7_grow 31 = .ok (.iconst 1, 1) := by decide +kernel
theorem dX7_grow_32 : decode cX7_grow 32 = .ok (.goto 4, 3) := by decide +kernel
theorem dX7_grow_35 : decode cX7_grow 35 = .ok (.iconst 0, 1) := by decide +kernel
theorem dX7_grow_36 : decode cX7_grow 36 = .ok (.istore 4, 2) := by decide +kernel
theorem dX7_grow_38 : decode cX7_grow 38 = .ok (.iload_n 2, 1) := by decide +kernel
theorem dX7_grow_39 : decode cX7_grow 39 = .ok (.iload 4, 2) := by decide +kernel
theorem dX7_grow_41 : decode cX7_grow 41 = .ok (.ifCond .eq 21, 3) := by decide +kernel
theorem dX7_grow_44 : decode cX7_grow 44 = .ok (.aload_n 0, 1) := by decide +kernel
theorem dX7_grow_45 : decode cX7_grow 45 = .ok (.iload_n 2, 1) := by decide +kernel
theorem dX7_grow_46 : decode cX7_grow 46 = .ok (.iconst 1, 1) := by decide +kernel
theorem dX7_grow_47 : decode cX7_grow 47 = .ok (.iload_n 3, 1) := by decide +kernel
theorem dX7_grow_48 : decode cX7_grow 48 = .ok (.ishl, 1) := by decide +kernel
theorem dX7_grow_49 : decode cX7_grow 49 = .ok (.ior, 1) := by decide +kernel
theorem dX7_grow_50 : decode cX7_grow 50 = .ok (.invokevirtual 145, 3) := by decide +kernel
theorem dX7_grow_53 : decode cX7_grow 53 = .ok (.ifCond .eq 9, 3) := by decide +kernel
theorem dX7_grow_56 : decode cX7_grow 56 = .ok (.iconst 1, 1) := by decide +kernel
theorem dX7_grow_57 : decode cX7_grow 57 = .ok (.iload_n 3, 1) := by decide +kernel
theorem dX7_grow_58 : decode cX7_grow 58 = .ok (.ishl, 1) := by decide +kernel
theorem dX7_grow_59 : decode cX7_grow 59 = .ok (.goto 4, 3) := by decide +kernel
theorem dX7_grow_62 : decode cX7_grow 62 = .ok (.iconst 0, 1) := by decide +kernel
theorem dX7_grow_63 : decode cX7_grow 63 = .ok (.ior, 1) := by decide +kernel
theorem dX7_grow_64 : decode cX7_grow 64 = .ok (.istore_n 2, 1) := by decide +kernel
theorem dX7_grow_65 : decode cX7_grow 65 = .ok (.iinc 3 1, 3) := by decide +kernel
theorem dX7_grow_68 : decode cX7_grow 68 = .ok (.goto (-64), 3) := by decide +kernel
theorem dX7_grow_71 : decode cX7_grow 71 = .ok (.iload_n 2, 1) := by decide +kernel
theorem dX7_grow_72 : decode cX7_grow 72 = .ok (.ireturn, 1) := by decide +kernel
set_option maxRecDepth 20000 in
theorem ggX7_shrink_X7_has : GoodIn wsX7_shrink wsX7_has := goodIn_r _ [5] (by decide +kernel) (by decide +kernel)
set_option maxRecDepth 20000 in
theorem gX7_shrink_X7_has : GoodIn wsX7_shrink (va_wsS RX7 96 yX7_has wsX7_has) := goodIn_app (goodIn_of _ (by decide +kernel)) ggX7_shrink_X7_has
set_option maxRecDepth 20000 in
theorem ggX7_shrink_X7_isSatisfiable : GoodIn wsX7_shrink wsX7_isSatisfiable := goodIn_r _ [9, 10, 11, 12, 4, 13, 14, 15, 16, 17, 18, 19, 20, 21, 22, 23, 24, 25, 26, 27, 28, 29, 30, 31, 32] (by decide +kernel) (by decide +kernel)
set_option maxRecDepth 20000 in
theorem gX7_shrink_X7_isSatisfiable : GoodIn wsX7_shrink (wsV RX7 145 RX7 yX7_isSatisfiable wsX7_isSatisfiable) := goodIn_app (goodIn_of _ (by decide +kernel)) ggX7_shrink_X7_isSatisfiable
theorem dX7_shrink_0 : decode cX7_shrink 0 = .ok (.iload_n 1, 1) := by decide +kernel
theorem dX7_shrink_1 : decode cX7_shrink 1 = .ok (.istore_n 2, 1) := by decide +kernel
theorem dX7_shrink_2 : decode cX7_shrink 2 = .ok (.iconst 0, 1) := by decide +kernel
theorem dX7_shrink_3 : decode cX7_shrink 3 = .ok (.istore_n 3, 1) := by decide +kernel
theorem dX7_shrink_4 : decode cX7_shrink 4 = .ok (.iload_n 3, 1) := by decide +kernel
theorem dX7_shrink_5 : decode cX7_shrink 5 = .ok (.aload_n 0, 1) := by decide +kernel
theorem dX7_shrink_6 : decode cX7_shrink 6 = .ok (.getfield 7, 3) := by decide +kernel
theorem dX7_shrink_9 : decode cX7_shrink 9 = .ok (.iconst 0, 1) := by decide +kernel
theorem dX7_shrink_10 : decode cX7_shrink 10 = .ok (.iaload, 1) := by decide +kernel
theorem dX7_shrink_11 : decode cX7_shrink 11 = .ok (.if_icmp .ge 55, 3) := by decide +kernel
theorem dX7_shrink_14 : decode cX7_shrink 14 = .ok (.iload_n 2, 1) := by decide +kernel
theorem dX7_shrink_15 : decode cX7_shrink 15 = .ok (.iload_n 3, 1) := by decide +kernel
theorem dX7_shrink_16 : decode cX7_shrink 16 = .ok (.invokestatic 96, 3) := by decide +kernel
theorem dX7_shrink_19 : decode cX7_shrink 19 = .ok (.ifCond .eq 21, 3) := by decide +kernel
theorem dX7_shrink_22 : decode cX7_shrink 22 = .ok (.aload_n 0, 1) := by decide +kernel
theorem dX7_shrink_23 : decode cX7_shrink 23 = .ok (.iload_n 2, 1) := by decide +kernel
theorem dX7_shrink_24 : decode cX7_shrink 24 = .ok (.iconst 1, 1) := by decide +kernel
theorem dX7_shrink_25 : decode cX7_shrink 25 = .ok (.iload_n 3, 1) := by decide +kernel
theorem dX7_shrink_26 : decode cX7_shrink 26 = .ok (.ishl, 1) := by decide +kernel
theorem dX7_shrink_27 : decode cX7_shrink 27 = .ok (.iconst (-1), 1) := by decide +kernel
theorem dX7_shrink_28 : decode cX7_shrink 28 = .ok (.ixor, 1) := by decide +kernel
theorem dX7_shrink_29 : decode cX7_shrink 29 = .ok (.iand, 1) := by decide +kernel
theorem dX7_shrink_30 : decode cX7_shrink 30 = .ok (.invokevirtual 145, 3) := by decide +kernel
theorem dX7_shrink_33 : decode cX7_shrink 33 = .ok (.ifCond .ne 7, 3) := by decide +kernel
theorem dX7_shrink_36 : decode cX7_shrink 36 = .ok (.iconst 1, 1) := by decide +kernel
theorem dX7_shrink_37 : decode cX7_shrink 37 = .ok (.goto 4, 3) := by decide +kernel
theorem dX7_shrink_40 : decode cX7_shrink 40 = .ok (.iconst 0, 1) := by decide +kernel
theorem dX7_shrink_41 : decode cX7_shrink 41 = .ok (.istore 4, 2) := by decide +kernel
theorem dX7_shrink_43 : decode cX7_shrink 43 = .ok (.iload_n 2, 1) := by decide +kernel
theorem dX7_shrink_44 : decode cX7_shrink 44 = .ok (.iload 4, 2) := by decide +kernel
theorem dX7_shrink_46 : decode cX7_shrink 46 = .ok (.ifCond .eq 11, 3) := by decide +kernel
theorem dX7_shrink_49 : decode cX7_shrink 49 = .ok (.iconst 1, 1) := by decide +kernel
theorem dX7_shrink_50 : decode cX7_shrink 50 = .ok (.iload_n 3, 1) := by decide +kernel
theorem dX7_shrink_51 : decode cX7_shrink 51 = .ok (.ishl, 1) := by decide +kernel
theorem dX7_shrink_52 : decode cX7_shrink 52 = .ok (.iconst (-1), 1) := by decide +kernel
theorem dX7_shrink_53 : decode cX7_shrink 53 = .ok (.ixor, 1) := by decide +kernel
theorem dX7_shrink_54 : decode cX7_shrink 54 = .ok (.goto 4, 3) := by decide +kernel
theorem dX7_shrink_57 : decode cX7_shrink 57 = .ok (.iconst (-1), 1) := by decide +kernel
theorem dX7_shrink_58 : decode cX7_shrink 58 = .ok (.iand, 1) := by decide +kernel
theorem dX7_shrink_59 : decode cX7_shrink 59 = .ok (.istore_n 2, 1) := by decide +kernel
theorem dX7_shrink_60 : decode cX7_shrink 60 = .ok (.iinc 3 1, 3) := by decide +kernel
theorem dX7_shrink_63 : decode cX7_shrink 63 = .ok (.goto (-59), 3) := by decide +kernel
theorem dX7_shrink_66 : decode cX7_shrink 66 = .ok (.iload_n 2, 1) := by decide +kernel
theorem dX7_shrink_67 : decode cX7_shrink 67 = .ok (.ireturn, 1) := by decide +kernel
set_option maxRecDepth 20000 in
theorem ggX7_isSelection_X7_softSet : GoodIn wsX7_isSelection wsX7_softSet := goodIn_r _ [5, 6, 7, 8, 9, 4, 10, 11, 12, 13, 14, 15, 16, 17, 18, 19, 20, 21, 22, 23, 24, 25, 26, 27] (by decide +kernel) (by decide +kernel)
set_option maxRecDepth 20000 in
theorem gX7_isSelection_X7_softSet : GoodIn wsX7_isSelection (wsV RX7 124 RX7 yX7_softSet wsX7_softSet) := goodIn_app (goodIn_of _ (by decide +kernel)) ggX7_isSelection_X7_softSet
theorem dX7_isSelection_0 : decode cX7_isSelection 0 = .ok (.iload_n 1, 1) := by decide +kernel
theorem dX7_isSelection_1 : decode cX7_isSelection 1 = .ok (.ifCond .lt 18, 3) := by decide +kernel
theorem dX7_isSelection_4 : decode cX7_isSelection 4 = .ok (.iload_n 1, 1) := by decide +kernel
theorem dX7_isSelection_5 : decode cX7_isSelection 5 = .ok (.aload_n 0, 1) := by decide +kernel
theorem dX7_isSelection_6 : decode cX7_isSelection 6 = .ok (.invokevirtual 124, 3) := by decide +kernel
theorem dX7_isSelection_9 : decode cX7_isSelection 9 = .ok (.iconst (-1), 1) := by decide +kernel
theorem dX7_isSelection_10 : decode cX7_isSelection 10 = .ok (.ixor, 1) := by decide +kernel
theorem dX7_isSelection_11 : decode cX7_isSelection 11 = .ok (.iand, 1) := by decide +kernel
theorem dX7_isSelection_12 : decode cX7_isSelection 12 = .ok (.ifCond .ne 7, 3) := by decide +kernel
theorem dX7_isSelection_15 : decode cX7_isSelection 15 = .ok (.iconst 1, 1) := by decide +kernel
theorem dX7_isSelection_16 : decode cX7_isSelection 16 = .ok (.goto 4, 3) := by decide +kernel
theorem dX7_isSelection_19 : decode cX7_isSelection 19 = .ok (.iconst 0, 1) := by decide +kernel
theorem dX7_isSelection_20 : decode cX7_isSelection 20 = .ok (.ireturn, 1) := by decide +kernel
theorem dX7_markSubsets_0 : decode cX7_markSubsets 0 = .ok (.iconst 0, 1) := by decide +kernel
theorem dX7_markSubsets_1 : decode cX7_markSubsets 1 = .ok (.istore_n 2, 1) := by decide +kernel
theorem dX7_markSubsets_2 : decode cX7_markSubsets 2 = .ok (.iload_n 2, 1) := by decide +kernel
theorem dX7_markSubsets_3 : decode cX7_markSubsets 3 = .ok (.sipush 1024, 3) := by decide +kernel
theorem dX7_markSubsets_6 : decode cX7_markSubsets 6 = .ok (.if_icmp .ge 37, 3) := by decide +kernel
theorem dX7_markSubsets_9 : decode cX7_markSubsets 9 = .ok (.aload_n 0, 1) := by decide +kernel
theorem dX7_markSubsets_10 : decode cX7_markSubsets 10 = .ok (.getfield 32, 3) := by decide +kernel
theorem dX7_markSubsets_13 : decode cX7_markSubsets 13 = .ok (.iload_n 2, 1) := by decide +kernel
theorem dX7_markSubsets_14 : decode cX7_markSubsets 14 = .ok (.aload_n 0, 1) := by decide +kernel
theorem dX7_markSubsets_15 : decode cX7_markSubsets 15 = .ok (.getfield 32, 3) := by decide +kernel
theorem dX7_markSubsets_18 : decode cX7_markSubsets 18 = .ok (.iload_n 2, 1) := by decide +kernel
theorem dX7_markSubsets_19 : decode cX7_markSubsets 19 = .ok (.baload, 1) := by decide +kernel
theorem dX7_markSubsets_20 : decode cX7_markSubsets 20 = .ok (.ifCond .ne 11, 3) := by decide +kernel
theorem dX7_markSubsets_23 : decode cX7_markSubsets 23 = .ok (.iload_n 2, 1) := by decide +kernel
theorem dX7_markSubsets_24 : decode cX7_markSubsets 24 = .ok (.iload_n 1, 1) := by decide +kernel
theorem dX7_markSubsets_25 : decode cX7_markSubsets 25 = .ok (.iconst (-1), 1) := by decide +kernel
theorem dX7_markSubsets_26 : decode cX7_markSubsets 26 = .ok (.ixor, 1) := by decide +kernel
theorem dX7_markSubsets_27 : decode cX7_markSubsets 27 = .ok (.iand, 1) := by decide +kernel
theorem dX7_markSubsets_28 : decode cX7_markSubsets 28 = .ok (.ifCond .ne 7, 3) := by decide +kernel
theorem dX7_markSubsets_31 : decode cX7_markSubsets 31 = .ok (.iconst 1, 1) := by decide +kernel
theorem dX7_markSubsets_32 : decode cX7_markSubsets 32 = .ok (.goto 4, 3) := by decide +kernel
theorem dX7_markSubsets_35 : decode cX7_markSubsets 35 = .ok (.iconst 0, 1) := by decide +kernel
theorem dX7_markSubsets_36 : decode cX7_markSubsets 36 = .ok (.bastore, 1) := by decide +kernel
theorem dX7_markSubsets_37 : decode cX7_markSubsets 37 = .ok (.iinc 2 1, 3) := by decide +kernel
theorem dX7_markSubsets_40 : decode cX7_markSubsets 40 = .ok (.goto (-38), 3) := by decide +kernel
theorem dX7_markSubsets_43 : decode cX7_markSubsets 43 = .ok (.return_, 1) := by decide +kernel
theorem dX7_markSupersets_0 : decode cX7_markSupersets 0 = .ok (.iconst 0, 1) := by decide +kernel
theorem dX7_markSupersets_1 : decode cX7_markSupersets 1 = .ok (.istore_n 2, 1) := by decide +kernel
theorem dX7_markSupersets_2 : decode cX7_markSupersets 2 = .ok (.iload_n 2, 1) := by decide +kernel
theorem dX7_markSupersets_3 : decode cX7_markSupersets 3 = .ok (.sipush 1024, 3) := by decide +kernel
theorem dX7_markSupersets_6 : decode cX7_markSupersets 6 = .ok (.if_icmp .ge 37, 3) := by decide +kernel
theorem dX7_markSupersets_9 : decode cX7_markSupersets 9 = .ok (.aload_n 0, 1) := by decide +kernel
theorem dX7_markSupersets_10 : decode cX7_markSupersets 10 = .ok (.getfield 32, 3) := by decide +kernel
theorem dX7_markSupersets_13 : decode cX7_markSupersets 13 = .ok (.iload_n 2, 1) := by decide +kernel
theorem dX7_markSupersets_14 : decode cX7_markSupersets 14 = .ok (.aload_n 0, 1) := by decide +kernel
theorem dX7_markSupersets_15 : decode cX7_markSupersets 15 = .ok (.getfield 32, 3) := by decide +kernel
theorem dX7_markSupersets_18 : decode cX7_markSupersets 18 = .ok (.iload_n 2, 1) := by decide +kernel
theorem dX7_markSupersets_19 : decode cX7_markSupersets 19 = .ok (.baload, 1) := by decide +kernel
theorem dX7_markSupersets_20 : decode cX7_markSupersets 20 = .ok (.ifCond .ne 11, 3) := by decide +kernel
theorem dX7_markSupersets_23 : decode cX7_markSupersets 23 = .ok (.iload_n 1, 1) := by decide +kernel
theorem dX7_markSupersets_24 : decode cX7_markSupersets 24 = .ok (.iload_n 2, 1) := by decide +kernel
theorem dX7_markSupersets_25 : decode cX7_markSupersets 25 = .ok (.iconst (-1), 1) := by decide +kernel
theorem dX7_markSupersets_26 : decode cX7_markSupersets 26 = .ok (.ixor, 1) := by decide +kernel
theorem dX7_markSupersets_27 : decode cX7_markSupersets 27 = .ok (.iand, 1) := by decide +kernel
theorem dX7_markSupersets_28 : decode cX7_markSupersets 28 = .ok (.ifCond .ne 7, 3) := by decide +kernel
theorem dX7_markSupersets_31 : decode cX7_markSupersets 31 = .ok (.iconst 1, 1) := by decide +kernel
theorem dX7_markSupersets_32 : decode cX7_markSupersets 32 = .ok (.goto 4, 3) := by decide +kernel
theorem dX7_markSupersets_35 : decode cX7_markSupersets 35 = .ok (.iconst 0, 1) := by decide +kernel
theorem dX7_markSupersets_36 : decode cX7_markSupersets 36 = .ok (.bastore, 1) := by decide +kernel
theorem dX7_markSupersets_37 : decode cX7_markSupersets 37 = .ok (.iinc 2 1, 3) := by decide +kernel
theorem dX7_markSupersets_40 : decode cX7_markSupersets 40 = .ok (.goto (-38), 3) := by decide +kernel
theorem dX7_markSupersets_43 : decode cX7_markSupersets 43 = .ok (.return_, 1) := by decide +kernel
set_option maxRecDepth 20000 in
theorem ggX7_markAll_X7_softSet : GoodIn wsX7_markAll wsX7_softSet := goodIn_r _ [7, 2, 8, 9, 10, 6, 11, 20, 21, 22, 23, 24, 25, 26, 27, 28, 29, 30, 31, 32, 33, 34, 35, 36] (by decide +kernel) (by decide +kernel)
set_option maxRecDepth 20000 in
theorem gX7_markAll_X7_softSet : GoodIn wsX7_markAll (wsV RX7 124 RX7 yX7_softSet wsX7_softSet) := goodIn_app (goodIn_of _ (by decide +kernel)) ggX7_markAll_X7_softSet
set_option maxRecDepth 20000 in
theorem ggX7_markAll_X7_markSupersets : GoodIn wsX7_markAll wsX7_markSupersets := goodIn_r _ [15, 1, 20, 21, 22, 23, 24, 25, 26, 27, 28, 29, 30, 31, 32, 33, 34, 35, 36] (by decide +kernel) (by decide +kernel)
set_option maxRecDepth 20000 in
theorem gX7_markAll_X7_markSupersets : GoodIn wsX7_markAll (wsV RX7 148 RX7 yX7_markSupersets wsX7_markSupersets) := goodIn_app (goodIn_of _ (by decide +kernel)) ggX7_markAll_X7_markSupersets
set_option maxRecDepth 20000 in
theorem ggX7_markAll_X7_markSubsets : GoodIn wsX7_markAll wsX7_markSubsets := goodIn_r _ [19, 1, 20, 21, 22, 23, 24, 25, 26, 27, 28, 29, 30, 31, 32, 33, 34, 35, 36] (by decide +kernel) (by decide +kernel)
set_option maxRecDepth 20000 in
theorem gX7_markAll_X7_markSubsets : GoodIn wsX7_markAll (wsV RX7 151 RX7 yX7_markSubsets wsX7_markSubsets) := goodIn_app (goodIn_of _ (by decide +kernel)) ggX7_markAll_X7_markSubsets
theorem dX7_markAll_0 : decode cX7_markAll 0 = .ok (.aload_n 0, 1) := by decide +kernel
theorem dX7_markAll_1 : decode cX7_markAll 1 = .ok (.invokevirtual 124, 3) := by decide +kernel
theorem dX7_markAll_4 : decode cX7_markAll 4 = .ok (.istore_n 1, 1) := by decide +kernel
theorem dX7_markAll_5 : decode cX7_markAll 5 = .ok (.iconst 0, 1) := by decide +kernel
theorem dX7_markAll_6 : decode cX7_markAll 6 = .ok (.istore_n 2, 1) := by decide +kernel
theorem dX7_markAll_7 : decode cX7_markAll 7 = .ok (.iload_n 2, 1) := by decide +kernel
theorem dX7_markAll_8 : decode cX7_markAll 8 = .ok (.sipush 1024, 3) := by decide +kernel
theorem dX7_markAll_11 : decode cX7_markAll 11 = .ok (.if_icmp .ge 28, 3) := by decide +kernel
theorem dX7_markAll_14 : decode cX7_markAll 14 = .ok (.aload_n 0, 1) := by decide +kernel
theorem dX7_markAll_15 : decode cX7_markAll 15 = .ok (.getfield 32, 3) := by decide +kernel
theorem dX7_markAll_18 : decode cX7_markAll 18 = .ok (.iload_n 2, 1) := by decide +kernel
theorem dX7_markAll_19 : decode cX7_markAll 19 = .ok (.iload_n 2, 1) := by decide +kernel
theorem dX7_markAll_20 : decode cX7_markAll 20 = .ok (.iload_n 1, 1) := by decide +kernel
theorem dX7_markAll_21 : decode cX7_markAll 21 = .ok (.iconst (-1), 1) := by decide +kernel
theorem dX7_markAll_22 : decode cX7_markAll 22 = .ok (.ixor, 1) := by decide +kernel
theorem dX7_markAll_23 : decode cX7_markAll 23 = .ok (.iand, 1) := by decide +kernel
theorem dX7_markAll_24 : decode cX7_markAll 24 = .ok (.ifCond .eq 7, 3) := by decide +kernel
theorem dX7_markAll_27 : decode cX7_markAll 27 = .ok (.iconst 1, 1) := by decide +kernel
theorem dX7_markAll_28 : decode cX7_markAll 28 = .ok (.goto 4, 3) := by decide +kernel
theorem dX7_markAll_31 : decode cX7_markAll 31 = .ok (.iconst 0, 1) := by decide +kernel
theorem dX7_markAll_32 : decode cX7_markAll 32 = .ok (.bastore, 1) := by decide +kernel
theorem dX7_markAll_33 : decode cX7_markAll 33 = .ok (.iinc 2 1, 3) := by decide +kernel
theorem dX7_markAll_36 : decode cX7_markAll 36 = .ok (.goto (-29), 3) := by decide +kernel
theorem dX7_markAll_39 : decode cX7_markAll 39 = .ok (.iconst 0, 1) := by decide +kernel
theorem dX7_markAll_40 : decode cX7_markAll 40 = .ok (.istore_n 2, 1) := by decide +kernel
theorem dX7_markAll_41 : decode cX7_markAll 41 = .ok (.iload_n 2, 1) := by decide +kernel
theorem dX7_markAll_42 : decode cX7_markAll 42 = .ok (.aload_n 0, 1) := by decide +kernel
theorem dX7_markAll_43 : decode cX7_markAll 43 = .ok (.getfield 7, 3) := by decide +kernel
theorem dX7_markAll_46 : decode cX7_markAll 46 = .ok (.iconst 2, 1) := by decide +kernel
theorem dX7_markAll_47 : decode cX7_markAll 47 = .ok (.iaload, 1) := by decide +kernel
theorem dX7_markAll_48 : decode cX7_markAll 48 = .ok (.if_icmp .ge 22, 3) := by decide +kernel
theorem dX7_markAll_51 : decode cX7_markAll 51 = .ok (.aload_n 0, 1) := by decide +kernel
theorem dX7_markAll_52 : decode cX7_markAll 52 = .ok (.aload_n 0, 1) := by decide +kernel
theorem dX7_markAll_53 : decode cX7_markAll 53 = .ok (.getfield 7, 3) := by decide +kernel
theorem dX7_markAll_56 : decode cX7_markAll 56 = .ok (.bipush 64, 2) := by decide +kernel
theorem dX7_markAll_58 : decode cX7_markAll 58 = .ok (.iload_n 2, 1) := by decide +kernel
theorem dX7_markAll_59 : decode cX7_markAll 59 = .ok (.iadd, 1) := by decide +kernel
theorem dX7_markAll_60 : decode cX7_markAll 60 = .ok (.iaload, 1) := by decide +kernel
theorem dX7_markAll_61 : decode cX7_markAll 61 = .ok (.invokevirtual 148, 3) := by decide +kernel
theorem dX7_markAll_64 : decode cX7_markAll 64 = .ok (.iinc 2 1, 3) := by decide +kernel
theorem dX7_markAll_67 : decode cX7_markAll 67 = .ok (.goto (-26), 3) := by decide +kernel
theorem dX7_markAll_70 : decode cX7_markAll 70 = .ok (.iconst 0, 1) := by decide +kernel
theorem dX7_markAll_71 : decode cX7_markAll 71 = .ok (.istore_n 2, 1) := by decide +kernel
theorem dX7_markAll_72 : decode cX7_markAll 72 = .ok (.iload_n 2, 1) := by decide +kernel
theorem dX7_markAll_73 : decode cX7_markAll 73 = .ok (.aload_n 0, 1) := by decide +kernel
theorem dX7_markAll_74 : decode cX7_markAll 74 = .ok (.getfield 7, 3) := by decide +kernel
theorem dX7_markAll_77 : decode cX7_markAll 77 = .ok (.iconst 3, 1) := by decide +kernel
theorem dX7_markAll_78 : decode cX7_markAll 78 = .ok (.iaload, 1) := by decide +kernel
theorem dX7_markAll_79 : decode cX7_markAll 79 = .ok (.if_icmp .ge 23, 3) := by decide +kernel
theorem dX7_markAll_82 : decode cX7_markAll 82 = .ok (.aload_n 0, 1) := by decide +kernel
theorem dX7_markAll_83 : decode cX7_markAll 83 = .ok (.aload_n 0, 1) := by decide +kernel
theorem dX7_markAll_84 : decode cX7_markAll 84 = .ok (.getfield 7, 3) := by decide +kernel
theorem dX7_markAll_87 : decode cX7_markAll 87 = .ok (.sipush 316, 3) := by decide +kernel
theorem dX7_markAll_90 : decode cX7_markAll 90 = .ok (.iload_n 2, 1) := by decide +kernel
theorem dX7_markAll_91 : decode cX7_markAll 91 = .ok (.iadd, 1) := by decide +kernel
theorem dX7_markAll_92 : decode cX7_markAll 92 = .ok (.iaload, 1) := by decide +kernel
theorem dX7_markAll_93 : decode cX7_markAll 93 = .ok (.invokevirtual 151, 3) := by decide +kernel
theorem dX7_markAll_96 : decode cX7_markAll 96 = .ok (.iinc 2 1, 3) := by decide +kernel
theorem dX7_markAll_99 : decode cX7_markAll 99 = .ok (.goto (-27), 3) := by decide +kernel
theorem dX7_markAll_102 : decode cX7_markAll 102 = .ok (.return_, 1) := by decide +kernel
set_option maxRecDepth 20000 in
theorem ggX7_findSeed_X7_bitCount : GoodIn wsX7_findSeed wsX7_bitCount := goodIn_r _ [6] (by decide +kernel) (by decide +kernel)
set_option maxRecDepth 20000 in
theorem gX7_findSeed_X7_bitCount : GoodIn wsX7_findSeed (va_wsS RX7 127 yX7_bitCount wsX7_bitCount) := goodIn_app (goodIn_of _ (by decide +kernel)) ggX7_findSeed_X7_bitCount
theorem dX7_findSeed_0 : decode cX7_findSeed 0 = .ok (.bipush (-9), 2) := by decide +kernel
theorem dX7_findSeed_2 : decode cX7_findSeed 2 = .ok (.istore_n 1, 1) := by decide +kernel
theorem dX7_findSeed_3 : decode cX7_findSeed 3 = .ok (.iconst 0, 1) := by decide +kernel
theorem dX7_findSeed_4 : decode cX7_findSeed 4 = .ok (.istore_n 2, 1) := by decide +kernel
theorem dX7_findSeed_5 : decode cX7_findSeed 5 = .ok (.iload_n 2, 1) := by decide +kernel
theorem dX7_findSeed_6 : decode cX7_findSeed 6 = .ok (.sipush 1024, 3) := by decide +kernel
theorem dX7_findSeed_9 : decode cX7_findSeed 9 = .ok (.if_icmp .ge 92, 3) := by decide +kernel
theorem dX7_findSeed_12 : decode cX7_findSeed 12 = .ok (.aload_n 0, 1) := by decide +kernel
theorem dX7_findSeed_13 : decode cX7_findSeed 13 = .ok (.getfield 32, 3) := by decide +kernel
theorem dX7_findSeed_16 : decode cX7_findSeed 16 = .ok (.iload_n 2, 1) := by decide +kernel
theorem dX7_findSeed_17 : decode cX7_findSeed 17 = .ok (.baload, 1) := by decide +kernel
theorem dX7_findSeed_18 : decode cX7_findSeed 18 = .ok (.ifCond .ne 77, 3) := by decide +kernel
theorem dX7_findSeed_21 : decode cX7_findSeed 21 = .ok (.aload_n 0, 1) := by decide +kernel
theorem dX7_findSeed_22 : decode cX7_findSeed 22 = .ok (.getfield 7, 3) := by decide +kernel
theorem dX7_findSeed_25 : decode cX7_findSeed 25 = .ok (.iconst 1, 1) := by decide +kernel
theorem dX7_findSeed_26 : decode cX7_findSeed 26 = .ok (.iaload, 1) := by decide +kernel
theorem dX7_findSeed_27 : decode cX7_findSeed 27 = .ok (.ifCond .ne 10, 3) := by decide +kernel
theorem dX7_findSeed_30 : decode cX7_findSeed 30 = .ok (.iload_n 2, 1) := by decide +kernel
theorem dX7_findSeed_31 : decode cX7_findSeed 31 = .ok (.invokestatic 127, 3) := by decide +kernel
theorem dX7_findSeed_34 : decode cX7_findSeed 34 = .ok (.goto 8, 3) := by decide +kernel
theorem dX7_findSeed_37 : decode cX7_findSeed 37 = .ok (.iload_n 2, 1) := by decide +kernel
theorem dX7_findSeed_38 : decode cX7_findSeed 38 = .ok (.invokestatic 127, 3) := by decide +kernel
theorem dX7_findSeed_41 : decode cX7_findSeed 41 = .ok (.ineg, 1) := by decide +kernel
theorem dX7_findSeed_42 : decode cX7_findSeed 42 = .ok (.istore_n 3, 1) := by decide +kernel
theorem dX7_findSeed_43 : decode cX7_findSeed 43 = .ok (.iload_n 1, 1) := by decide +kernel
theorem dX7_findSeed_44 : decode cX7_findSeed 44 = .ok (.bipush (-9), 2) := by decide +kernel
theorem dX7_findSeed_46 : decode cX7_findSeed 46 = .ok (.if_icmp .ne 8, 3) := by decide +kernel
theorem dX7_findSeed_49 : decode cX7_findSeed 49 = .ok (.bipush (-9), 2) := by decide +kernel
theorem dX7_findSeed_51 : decode cX7_findSeed 51 = .ok (.goto 24, 3) := by decide +kernel
theorem dX7_findSeed_54 : decode cX7_findSeed 54 = .ok (.aload_n 0, 1) := by decide +kernel
theorem dX7_findSeed_55 : decode cX7_findSeed 55 = .ok (.getfield 7, 3) := by decide +kernel
theorem dX7_findSeed_58 : decode cX7_findSeed 58 = .ok (.iconst 1, 1) := by decide +kernel
theorem dX7_findSeed_59 : decode cX7_findSeed 59 = .ok (.iaload, 1) := by decide +kernel
theorem dX7_findSeed_60 : decode cX7_findSeed 60 = .ok (.ifCond .ne 10, 3) := by decide +kernel
theorem dX7_findSeed_63 : decode cX7_findSeed 63 = .ok (.iload_n 1, 1) := by decide +kernel
theorem dX7_findSeed_64 : decode cX7_findSeed 64 = .ok (.invokestatic 127, 3) := by decide +kernel
theorem dX7_findSeed_67 : decode cX7_findSeed 67 = .ok (.goto 8, 3) := by decide +kernel
theorem dX7_findSeed_70 : decode cX7_findSeed 70 = .ok (.iload_n 1, 1) := by decide +kernel
theorem dX7_findSeed_71 : decode cX7_findSeed 71 = .ok (.invokestatic 127, 3) := by decide +kernel
theorem dX7_findSeed_74 : decode cX7_findSeed 74 = .ok (.ineg, 1) := by decide +kernel
theorem dX7_findSeed_75 : decode cX7_findSeed 75 = .ok (.istore 4, 2) := by decide +kernel
theorem dX7_findSeed_77 : decode cX7_findSeed 77 = .ok (.iload_n 1, 1) := by decide +kernel
theorem dX7_findSeed_78 : decode cX7_findSeed 78 = .ok (.bipush (-9), 2) := by decide +kernel
theorem dX7_findSeed_80 : decode cX7_findSeed 80 = .ok (.if_icmp .eq 9, 3) := by decide +kernel
theorem dX7_findSeed_83 : decode cX7_findSeed 83 = .ok (.iload_n 3, 1) := by decide +kernel
theorem dX7_findSeed_84 : decode cX7_findSeed 84 = .ok (.iload 4, 2) := by decide +kernel
theorem dX7_findSeed_86 : decode cX7_findSeed 86 = .ok (.if_icmp .le 7, 3) := by decide +kernel
theorem dX7_findSeed_89 : decode cX7_findSeed 89 = .ok (.iload_n 2, 1) := by decide +kernel
theorem dX7_findSeed_90 : decode cX7_findSeed 90 = .ok (.goto 4, 3) := by decide +kernel
theorem dX7_findSeed_93 : decode cX7_findSeed 93 = .ok (.iload_n 1, 1) := by decide +kernel
theorem dX7_findSeed_94 : decode cX7_findSeed 94 = .ok (.istore_n 1, 1) := by decide +kernel
theorem dX7_findSeed_95 : decode cX7_findSeed 95 = .ok (.iinc 2 1, 3) := by decide +kernel
theorem dX7_findSeed_98 : decode cX7_findSeed 98 = .ok (.goto (-93), 3) := by decide +kernel
theorem dX7_findSeed_101 : decode cX7_findSeed 101 = .ok (.iload_n 1, 1) := by decide +kernel
theorem dX7_findSeed_102 : decode cX7_findSeed 102 = .ok (.ireturn, 1) := by decide +kernel
set_option maxRecDepth 20000 in
theorem ggX7_process_X7_isSatisfiable : GoodIn wsX7_process wsX7_isSatisfiable := goodIn_r _ [6, 7, 8, 9, 5, 10, 11, 12, 37, 38, 39, 40, 41, 42, 43, 44, 45, 46, 47, 48, 49, 50, 51, 52, 53] (by decide +kernel) (by decide +kernel)
set_option maxRecDepth 20000 in
theorem gX7_process_X7_isSatisfiable : GoodIn wsX7_process (wsV RX7 145 RX7 yX7_isSatisfiable wsX7_isSatisfiable) := goodIn_app (goodIn_of _ (by decide +kernel)) ggX7_process_X7_isSatisfiable
set_option maxRecDepth 20000 in
theorem ggX7_process_X7_grow : GoodIn wsX7_process wsX7_grow := goodIn_r _ [16, 1, 17, 18, 19, 5, 20, 21, 22, 23, 2, 3, 4, 6, 7, 8, 9, 10, 11, 12, 37, 38, 39, 40, 41, 42, 43, 44, 45, 46, 47, 48, 49, 50, 51, 52, 53] (by decide +kernel) (by decide +kernel)
set_option maxRecDepth 20000 in
theorem gX7_process_X7_grow : GoodIn wsX7_process (wsV RX7 154 RX7 yX7_grow wsX7_grow) := goodIn_app (goodIn_of _ (by decide +kernel)) ggX7_process_X7_grow
set_option maxRecDepth 20000 in
theorem ggX7_process_X7_markSubsets : GoodIn wsX7_process wsX7_markSubsets := goodIn_r _ [27, 28, 37, 38, 39, 40, 41, 42, 43, 44, 45, 46, 47, 48, 49, 50, 51, 52, 53] (by decide +kernel) (by decide +kernel)
set_option maxRecDepth 20000 in
theorem gX7_process_X7_markSubsets : GoodIn wsX7_process (wsV RX7 151 RX7 yX7_markSubsets wsX7_markSubsets) := goodIn_app (goodIn_of _ (by decide +kernel)) ggX7_process_X7_markSubsets
set_option maxRecDepth 20000 in
theorem ggX7_process_X7_shrink : GoodIn wsX7_process wsX7_shrink := goodIn_r _ [32, 1, 21, 22, 5, 23, 2, 3, 4, 6, 7, 8, 9, 10, 11, 12, 37, 38, 39, 40, 41, 42, 43, 44, 45, 46, 47, 48, 49, 50, 51, 52, 53] (by decide +kernel) (by decide +kernel)
set_option maxRecDepth 20000 in
theorem gX7_process_X7_shrink : GoodIn wsX7_process (wsV RX7 157 RX7 yX7_shrink wsX7_shrink) := goodIn_app (goodIn_of _ (by decide +kernel)) ggX7_process_X7_shrink
set_option maxRecDepth 20000 in
theorem ggX7_process_X7_markSupersets : GoodIn wsX7_process wsX7_markSupersets := goodIn_r _ [36, 28, 37, 38, 39, 40, 41, 42, 43, 44, 45, 46, 47, 48, 49, 50, 51, 52, 53] (by decide +kernel) (by decide +kernel)
set_option maxRecDepth 20000 in
theorem gX7_process_X7_markSupersets : GoodIn wsX7_process (wsV RX7 148 RX7 yX7_markSupersets wsX7_markSupersets) := goodIn_app (goodIn_of _ (by decide +kernel)) ggX7_process_X7_markSupersets
theorem dX7_process_0 : decode cX7_process 0 = .ok (.aload_n 0, 1) := by decide +kernel
theorem dX7_process_1 : decode cX7_process 1 = .ok (.iload_n 1, 1) := by decide +kernel
theorem dX7_process_2 : decode cX7_process 2 = .ok (.invokevirtual 145, 3) := by decide +kernel
theorem dX7_process_5 : decode cX7_process 5 = .ok (.ifCond .eq 42, 3) := by decide +kernel
theorem dX7_process_8 : decode cX7_process 8 = .ok (.aload_n 0, 1) := by decide +kernel
theorem dX7_process_9 : decode cX7_process 9 = .ok (.iload_n 1, 1) := by decide +kernel
theorem dX7_process_10 : decode cX7_process 10 = .ok (.invokevirtual 154, 3) := by decide +kernel
theorem dX7_process_13 : decode cX7_process 13 = .ok (.istore_n 2, 1) := by decide +kernel
theorem dX7_process_14 : decode cX7_process 14 = .ok (.aload_n 0, 1) := by decide +kernel
theorem dX7_process_15 : decode cX7_process 15 = .ok (.getfield 7, 3) := by decide +kernel
theorem dX7_process_18 : decode cX7_process 18 = .ok (.sipush 316, 3) := by decide +kernel
theorem dX7_process_21 : decode cX7_process 21 = .ok (.aload_n 0, 1) := by decide +kernel
theorem dX7_process_22 : decode cX7_process 22 = .ok (.getfield 7, 3) := by decide +kernel
theorem dX7_process_25 : decode cX7_process 25 = .ok (.iconst 3, 1) := by decide +kernel
theorem dX7_process_26 : decode cX7_process 26 = .ok (.iaload, 1) := by decide +kernel
theorem dX7_process_27 : decode cX7_process 27 = .ok (.iadd, 1) := by decide +kernel
theorem dX7_process_28 : decode cX7_process 28 = .ok (.iload_n 2, 1) := by decide +kernel
theorem dX7_process_29 : decode cX7_process 29 = .ok (.iastore, 1) := by decide +kernel
theorem dX7_process_30 : decode cX7_process 30 = .ok (.aload_n 0, 1) := by decide +kernel
theorem dX7_process_31 : decode cX7_process 31 = .ok (.getfield 7, 3) := by decide +kernel
theorem dX7_process_34 : decode cX7_process 34 = .ok (.iconst 3, 1) := by decide +kernel
theorem dX7_process_35 : decode cX7_process 35 = .ok (.dup2, 1) := by decide +kernel
theorem dX7_process_36 : decode cX7_process 36 = .ok (.iaload, 1) := by decide +kernel
theorem dX7_process_37 : decode cX7_process 37 = .ok (.iconst 1, 1) := by decide +kernel
theorem dX7_process_38 : decode cX7_process 38 = .ok (.iadd, 1) := by decide +kernel
theorem dX7_process_39 : decode cX7_process 39 = .ok (.iastore, 1) := by decide +kernel
theorem dX7_process_40 : decode cX7_process 40 = .ok (.aload_n 0, 1) := by decide +kernel
theorem dX7_process_41 : decode cX7_process 41 = .ok (.iload_n 2, 1) := by decide +kernel
theorem dX7_process_42 : decode cX7_process 42 = .ok (.invokevirtual 151, 3) := by decide +kernel
theorem dX7_process_45 : decode cX7_process 45 = .ok (.iconst 1, 1) := by decide +kernel
theorem dX7_process_46 : decode cX7_process 46 = .ok (.ireturn, 1) := by decide +kernel
theorem dX7_process_47 : decode cX7_process 47 = .ok (.aload_n 0, 1) := by decide +kernel
theorem dX7_process_48 : decode cX7_process 48 = .ok (.iload_n 1, 1) := by decide +kernel
theorem dX7_process_49 : decode cX7_process 49 = .ok (.invokevirtual 157, 3) := by decide +kernel
theorem dX7_process_52 : decode cX7_process 52 = .ok (.istore_n 2, 1) := by decide +kernel
theorem dX7_process_53 : decode cX7_process 53 = .ok (.aload_n 0, 1) := by decide +kernel
theorem dX7_process_54 : decode cX7_process 54 = .ok (.getfield 7, 3) := by decide +kernel
theorem dX7_process_57 : decode cX7_process 57 = .ok (.bipush 64, 2) := by decide +kernel
theorem dX7_process_59 : decode cX7_process 59 = .ok (.aload_n 0, 1) := by decide +kernel
theorem dX7_process_60 : decode cX7_process 60 = .ok (.getfield 7, 3) := by decide +kernel
theorem dX7_process_63 : decode cX7_process 63 = .ok (.iconst 2, 1) := by decide +kernel
theorem dX7_process_64 : decode cX7_process 64 = .ok (.iaload, 1) := by decide +kernel
theorem dX7_process_65 : decode cX7_process 65 = .ok (.iadd, 1) := by decide +kernel
theorem dX7_process_66 : decode cX7_process 66 = .ok (.iload_n 2, 1) := by decide +kernel
theorem dX7_process_67 : decode cX7_process 67 = .ok (.iastore, 1) := by decide +kernel
theorem dX7_process_68 : decode cX7_process 68 = .ok (.aload_n 0, 1) := by decide +kernel
theorem dX7_process_69 : decode cX7_process 69 = .ok (.getfield 7, 3) := by decide +kernel
theorem dX7_process_72 : decode cX7_process 72 = .ok (.iconst 2, 1) := by decide +kernel
theorem dX7_process_73 : decode cX7_process 73 = .ok (.dup2, 1) := by decide +kernel
theorem dX7_process_74 : decode cX7_process 74 = .ok (.iaload, 1) := by decide +kernel
theorem dX7_process_75 : decode cX7_process 75 = .ok (.iconst 1, 1) := by decide +kernel
theorem dX7_process_76 : decode cX7_process 76 = .ok (.iadd, 1) := by decide +kernel
theorem dX7_process_77 : decode cX7_process 77 = .ok (.iastore, 1) := by decide +kernel
theorem dX7_process_78 : decode cX7_process 78 = .ok (.aload_n 0, 1) := by decide +kernel
theorem dX7_process_79 : decode cX7_process 79 = .ok (.iload_n 2, 1) := by decide +kernel
theorem dX7_process_80 : decode cX7_process 80 = .ok (.invokevirtual 148, 3) := by decide +kernel
theorem dX7_process_83 : decode cX7_process 83 = .ok (.iconst 2, 1) := by decide +kernel
theorem dX7_process_84 : decode cX7_process 84 = .ok (.ireturn, 1) := by decide +kernel
set_option maxRecDepth 20000 in
theorem ggX7_step_X7_prepare : GoodIn wsX7_step wsX7_prepare := goodIn_r _ [6, 7, 8, 9, 10, 11, 5, 12, 13, 14, 15, 16, 17, 18, 19, 20, 21, 22, 23, 24, 25, 26, 27, 28, 29, 30, 31, 32, 79, 80, 81, 82, 83, 84, 85, 86, 87, 88, 89, 90, 91, 92, 93, 94, 95] (by decide +kernel) (by decide +kernel)
set_option maxRecDepth 20000 in
theorem gX7_step_X7_prepare : GoodIn wsX7_step (wsV RX7 160 RX7 yX7_prepare wsX7_prepare) := goodIn_app (goodIn_of _ (by decide +kernel)) ggX7_step_X7_prepare
set_option maxRecDepth 20000 in
theorem ggX7_step_X7_markAll : GoodIn wsX7_step wsX7_markAll := goodIn_r _ [36, 37, 13, 29, 30, 31, 5, 32, 21, 22, 23, 24, 38, 39, 40, 41, 42, 43, 44, 45, 79, 80, 81, 82, 83, 84, 85, 86, 87, 88, 89, 90, 91, 92, 93, 94, 95] (by decide +kernel) (by decide +kernel)
set_option maxRecDepth 20000 in
theorem gX7_step_X7_markAll : GoodIn wsX7_step (wsV RX7 163 RX7 yX7_markAll wsX7_markAll) := goodIn_app (goodIn_of _ (by decide +kernel)) ggX7_step_X7_markAll
set_option maxRecDepth 20000 in
theorem ggX7_step_X7_findSeed : GoodIn wsX7_step wsX7_findSeed := goodIn_r _ [49, 37, 13, 50, 51, 5, 52, 79, 80, 81, 82, 83, 84, 85, 86, 87, 88, 89, 90, 91, 92, 93, 94, 95] (by decide +kernel) (by decide +kernel)
set_option maxRecDepth 20000 in
theorem gX7_step_X7_findSeed : GoodIn wsX7_step (wsV RX7 166 RX7 yX7_findSeed wsX7_findSeed) := goodIn_app (goodIn_of _ (by decide +kernel)) ggX7_step_X7_findSeed
set_option maxRecDepth 20000 in
theorem ggX7_step_X7_saveForUndo : GoodIn wsX7_step wsX7_saveForUndo := goodIn_r _ [56, 57, 58, 13, 79, 80, 81, 82, 83, 84, 85, 86, 87, 88, 89, 90, 91, 92, 93, 94, 95] (by decide +kernel) (by decide +kernel)
set_option maxRecDepth 20000 in
theorem gX7_step_X7_saveForUndo : GoodIn wsX7_step (wsV RX7 109 RX7 yX7_saveForUndo wsX7_saveForUndo) := goodIn_app (goodIn_of _ (by decide +kernel)) ggX7_step_X7_saveForUndo
set_option maxRecDepth 20000 in
theorem ggX7_step_X7_process : GoodIn wsX7_step wsX7_process := goodIn_r _ [62, 13, 63, 64, 65, 5, 66, 67, 68, 69, 70, 7, 8, 71, 72, 73, 74, 21, 22, 23, 24, 18, 19, 20, 42, 43, 44, 45, 37, 75, 76, 77, 78, 38, 39, 40, 41, 79, 80, 81, 82, 83, 84, 85, 86, 87, 88, 89, 90, 91, 92, 93, 94, 95] (by decide +kernel) (by decide +kernel)
set_option maxRecDepth 20000 in
theorem gX7_step_X7_process : GoodIn wsX7_step (wsV RX7 169 RX7 yX7_process wsX7_process) := goodIn_app (goodIn_of _ (by decide +kernel)) ggX7_step_X7_process
theorem dX7_step_0 : decode cX7_step 0 = .ok (.aload_n 0, 1) := by decide +kernel
theorem dX7_step_1 : decode cX7_step 1 = .ok (.iconst 0, 1) := by decide +kernel
theorem dX7_step_2 : decode cX7_step 2 = .ok (.putfield 35, 3) := by decide +kernel
theorem dX7_step_5 : decode cX7_step 5 = .ok (.aload_n 0, 1) := by decide +kernel
theorem dX7_step_6 : decode cX7_step 6 = .ok (.invokevirtual 160, 3) := by decide +kernel
theorem dX7_step_9 : decode cX7_step 9 = .ok (.aload_n 0, 1) := by decide +kernel
theorem dX7_step_10 : decode cX7_step 10 = .ok (.invokevirtual 163, 3) := by decide +kernel
theorem dX7_step_13 : decode cX7_step 13 = .ok (.aload_n 0, 1) := by decide +kernel
theorem dX7_step_14 : decode cX7_step 14 = .ok (.invokevirtual 166, 3) := by decide +kernel
theorem dX7_step_17 : decode cX7_step 17 = .ok (.istore_n 1, 1) := by decide +kernel
theorem dX7_step_18 : decode cX7_step 18 = .ok (.iload_n 1, 1) := by decide +kernel
theorem dX7_step_19 : decode cX7_step 19 = .ok (.bipush (-9), 2) := by decide +kernel
theorem dX7_step_21 : decode cX7_step 21 = .ok (.if_icmp .ne 6, 3) := by decide +kernel
theorem dX7_step_24 : decode cX7_step 24 = .ok (.bipush (-2), 2) := by decide +kernel
theorem dX7_step_26 : decode cX7_step 26 = .ok (.ireturn, 1) := by decide +kernel
theorem dX7_step_27 : decode cX7_step 27 = .ok (.aload_n 0, 1) := by decide +kernel
theorem dX7_step_28 : decode cX7_step 28 = .ok (.invokevirtual 109, 3) := by decide +kernel
theorem dX7_step_31 : decode cX7_step 31 = .ok (.aload_n 0, 1) := by decide +kernel
theorem dX7_step_32 : decode cX7_step 32 = .ok (.iload_n 1, 1) := by decide +kernel
theorem dX7_step_33 : decode cX7_step 33 = .ok (.invokevirtual 169, 3) := by decide +kernel
theorem dX7_step_36 : decode cX7_step 36 = .ok (.ireturn, 1) := by decide +kernel
set_option maxRecDepth 20000 in
theorem ggX7_finish_X7_prepare : GoodIn wsX7_finish wsX7_prepare := goodIn_r _ [6, 7, 8, 9, 10, 11, 5, 12, 13, 14, 15, 16, 17, 18, 19, 20, 21, 22, 23, 24, 25, 26, 27, 28, 29, 30, 31, 32, 79, 80, 81, 82, 83, 84, 85, 86, 87, 88, 89, 90, 91, 92, 93, 94, 95] (by decide +kernel) (by decide +kernel)
set_option maxRecDepth 20000 in
theorem gX7_finish_X7_prepare : GoodIn wsX7_finish (wsV RX7 160 RX7 yX7_prepare wsX7_prepare) := goodIn_app (goodIn_of _ (by decide +kernel)) ggX7_finish_X7_prepare
set_option maxRecDepth 20000 in
theorem ggX7_finish_X7_markAll : GoodIn wsX7_finish wsX7_markAll := goodIn_r _ [36, 37, 13, 29, 30, 31, 5, 32, 21, 22, 23, 24, 38, 39, 40, 41, 42, 43, 44, 45, 79, 80, 81, 82, 83, 84, 85, 86, 87, 88, 89, 90, 91, 92, 93, 94, 95] (by decide +kernel) (by decide +kernel)
set_option maxRecDepth 20000 in
theorem gX7_finish_X7_markAll : GoodIn wsX7_finish (wsV RX7 163 RX7 yX7_markAll wsX7_markAll) := goodIn_app (goodIn_of _ (by decide +kernel)) ggX7_finish_X7_markAll
set_option maxRecDepth 20000 in
theorem ggX7_finish_X7_findSeed : GoodIn wsX7_finish wsX7_findSeed := goodIn_r _ [49, 37, 13, 50, 51, 5, 52, 79, 80, 81, 82, 83, 84, 85, 86, 87, 88, 89, 90, 91, 92, 93, 94, 95] (by decide +kernel) (by decide +kernel)
set_option maxRecDepth 20000 in
theorem gX7_finish_X7_findSeed : GoodIn wsX7_finish (wsV RX7 166 RX7 yX7_findSeed wsX7_findSeed) := goodIn_app (goodIn_of _ (by decide +kernel)) ggX7_finish_X7_findSeed
set_option maxRecDepth 20000 in
theorem ggX7_finish_X7_saveForUndo : GoodIn wsX7_finish wsX7_saveForUndo := goodIn_r _ [56, 57, 58, 13, 79, 80, 81, 82, 83, 84, 85, 86, 87, 88, 89, 90, 91, 92, 93, 94, 95] (by decide +kernel) (by decide +kernel)
set_option maxRecDepth 20000 in
theorem gX7_finish_X7_saveForUndo : GoodIn wsX7_finish (wsV RX7 109 RX7 yX7_saveForUndo wsX7_saveForUndo) := goodIn_app (goodIn_of _ (by decide +kernel)) ggX7_finish_X7_saveForUndo
set_option maxRecDepth 20000 in
theorem ggX7_finish_X7_process : GoodIn wsX7_finish wsX7_process := goodIn_r _ [62, 13, 63, 64, 65, 5, 66, 67, 68, 69, 70, 7, 8, 71, 72, 73, 74, 21, 22, 23, 24, 18, 19, 20, 42, 43, 44, 45, 37, 75, 76, 77, 78, 38, 39, 40, 41, 79, 80, 81, 82, 83, 84, 85, 86, 87, 88, 89, 90, 91, 92, 93, 94, 95] (by decide +kernel) (by decide +kernel)
set_option maxRecDepth 20000 in
theorem gX7_finish_X7_process : GoodIn wsX7_finish (wsV RX7 169 RX7 yX7_process wsX7_process) := goodIn_app (goodIn_of _ (by decide +kernel)) ggX7_finish_X7_process
theorem dX7_finish_0 : decode cX7_finish 0 = .ok (.aload_n 0, 1) := by decide +kernel
theorem dX7_finish_1 : decode cX7_finish 1 = .ok (.iconst 0, 1) := by decide +kernel
theorem dX7_finish_2 : decode cX7_finish 2 = .ok (.putfield 35, 3) := by decide +kernel
theorem dX7_finish_5 : decode cX7_finish 5 = .ok (.aload_n 0, 1) := by decide +kernel
theorem dX7_finish_6 : decode cX7_finish 6 = .ok (.invokevirtual 160, 3) := by decide +kernel
theorem dX7_finish_9 : decode cX7_finish 9 = .ok (.aload_n 0, 1) := by decide +kernel
theorem dX7_finish_10 : decode cX7_finish 10 = .ok (.invokevirtual 163, 3) := by decide +kernel
theorem dX7_finish_13 : decode cX7_finish 13 = .ok (.aload_n 0, 1) := by decide +kernel
theorem dX7_finish_14 : decode cX7_finish 14 = .ok (.invokevirtual 166, 3) := by decide +kernel
theorem dX7_finish_17 : decode cX7_finish 17 = .ok (.istore_n 1, 1) := by decide +kernel
theorem dX7_finish_18 : decode cX7_finish 18 = .ok (.iload_n 1, 1) := by decide +kernel
theorem dX7_finish_19 : decode cX7_finish 19 = .ok (.bipush (-9), 2) := by decide +kernel
theorem dX7_finish_21 : decode cX7_finish 21 = .ok (.if_icmp .ne 6, 3) := by decide +kernel
theorem dX7_finish_24 : decode cX7_finish 24 = .ok (.bipush (-2), 2) := by decide +kernel
theorem dX7_finish_26 : decode cX7_finish 26 = .ok (.ireturn, 1) := by decide +kernel
theorem dX7_finish_27 : decode cX7_finish 27 = .ok (.aload_n 0, 1) := by decide +kernel
theorem dX7_finish_28 : decode cX7_finish 28 = .ok (.invokevirtual 109, 3) := by decide +kernel
theorem dX7_finish_31 : decode cX7_finish 31 = .ok (.iconst 0, 1) := by decide +kernel
theorem dX7_finish_32 : decode cX7_finish 32 = .ok (.istore_n 2, 1) := by decide +kernel
theorem dX7_finish_33 : decode cX7_finish 33 = .ok (.iload_n 1, 1) := by decide +kernel
theorem dX7_finish_34 : decode cX7_finish 34 = .ok (.bipush (-9), 2) := by decide +kernel
theorem dX7_finish_36 : decode cX7_finish 36 = .ok (.if_icmp .eq 20, 3) := by decide +kernel
theorem dX7_finish_39 : decode cX7_finish 39 = .ok (.aload_n 0, 1) := by decide +kernel
theorem dX7_finish_40 : decode cX7_finish 40 = .ok (.iload_n 1, 1) := by decide +kernel
theorem dX7_finish_41 : decode cX7_finish 41 = .ok (.invokevirtual 169, 3) := by decide +kernel
theorem dX7_finish_44 : decode cX7_finish 44 = .ok (.pop, 1) := by decide +kernel
theorem dX7_finish_45 : decode cX7_finish 45 = .ok (.iinc 2 1, 3) := by decide +kernel
