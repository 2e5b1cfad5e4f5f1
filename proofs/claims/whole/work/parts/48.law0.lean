/-! the law's words are the tables' -/
set_option maxRecDepth 20000 in
theorem lin_1 : ∀ w ∈ wsL_law_r1, w ∈ lw_tbl := by decide +kernel
set_option maxRecDepth 20000 in
theorem lin_2 : ∀ w ∈ wsL_law_r2, w ∈ lw_tbl := by decide +kernel
set_option maxRecDepth 20000 in
theorem lin_3 : ∀ w ∈ wsL_law_r3, w ∈ lw_tbl := by decide +kernel
set_option maxRecDepth 20000 in
theorem lin_4 : ∀ w ∈ wsL_law_r4, w ∈ lw_tbl := by decide +kernel
set_option maxRecDepth 20000 in
theorem lin_5 : ∀ w ∈ wsL_law_r5, w ∈ lw_tbl := by decide +kernel
set_option maxRecDepth 20000 in
theorem lin_6 : ∀ w ∈ wsL_law_r6, w ∈ lw_tbl := by decide +kernel
set_option maxRecDepth 20000 in
theorem lin_7 : ∀ w ∈ wsL_law_r7, w ∈ lw_tbl := by decide +kernel
set_option maxRecDepth 20000 in
theorem lin_8 : ∀ w ∈ wsL_law_r8, w ∈ lw_tbl := by decide +kernel
set_option maxRecDepth 20000 in
theorem lin_9 : ∀ w ∈ wsL_law_r9, w ∈ lw_tbl := by decide +kernel
set_option maxRecDepth 20000 in
theorem lin_10 : ∀ w ∈ wsL_law_r10, w ∈ lw_tbl := by decide +kernel
set_option maxRecDepth 20000 in
theorem lin_11 : ∀ w ∈ wsL_law_r11, w ∈ lw_tbl := by decide +kernel
set_option maxRecDepth 20000 in
theorem lin_12 : ∀ w ∈ wsL_law_r12, w ∈ lw_tbl := by decide +kernel
set_option maxRecDepth 20000 in
theorem lin_13 : ∀ w ∈ wsL_law_r13, w ∈ lw_tbl := by decide +kernel
set_option maxRecDepth 20000 in
theorem lin_14 : ∀ w ∈ wsL_law_r14, w ∈ lw_tbl := by decide +kernel
set_option maxRecDepth 20000 in
theorem lin_15 : ∀ w ∈ wsL_law_r15, w ∈ lw_tbl := by decide +kernel
set_option maxRecDepth 20000 in
theorem lin_16 : ∀ w ∈ wsL_law_r16, w ∈ lw_tbl := by decide +kernel
set_option maxRecDepth 20000 in
theorem lin_17 : ∀ w ∈ wsL_law_r17, w ∈ lw_tbl := by decide +kernel
set_option maxRecDepth 20000 in
theorem lin_18 : ∀ w ∈ wsL_law_r18, w ∈ lw_tbl := by decide +kernel
set_option maxRecDepth 20000 in
theorem lin_19 : ∀ w ∈ wsL_law_r19, w ∈ lw_tbl := by decide +kernel
set_option maxRecDepth 20000 in
theorem lin_20 : ∀ w ∈ wsL_law_r20, w ∈ lw_tbl := by decide +kernel
set_option maxRecDepth 20000 in
theorem lin_21 : ∀ w ∈ wsL_law_r21, w ∈ lw_tbl := by decide +kernel
set_option maxRecDepth 20000 in
theorem lin_22 : ∀ w ∈ wsL_law_r22, w ∈ lw_tbl := by decide +kernel
set_option maxRecDepth 20000 in
theorem lin_23 : ∀ w ∈ wsL_law_r23, w ∈ lw_tbl := by decide +kernel
set_option maxRecDepth 20000 in
theorem lin_24 : ∀ w ∈ wsL_law_r24, w ∈ lw_tbl := by decide +kernel
set_option maxRecDepth 20000 in
theorem lin_25 : ∀ w ∈ wsL_law_r25, w ∈ lw_tbl := by decide +kernel
set_option maxRecDepth 20000 in
theorem lin_26 : ∀ w ∈ wsL_law_r26, w ∈ lw_tbl := by decide +kernel
set_option maxRecDepth 20000 in
theorem lin_27 : ∀ w ∈ wsL_law_r27, w ∈ lw_tbl := by decide +kernel
set_option maxRecDepth 20000 in
theorem lin_28 : ∀ w ∈ wsL_law_r28, w ∈ lw_tbl := by decide +kernel
set_option maxRecDepth 20000 in
theorem lin_29 : ∀ w ∈ wsL_law_r29, w ∈ lw_tbl := by decide +kernel
set_option maxRecDepth 20000 in
theorem lin_30 : ∀ w ∈ wsL_law_r30, w ∈ lw_tbl := by decide +kernel
set_option maxRecDepth 20000 in
theorem lin_31 : ∀ w ∈ wsL_law_r31, w ∈ lw_tbl := by decide +kernel
set_option maxRecDepth 20000 in
theorem lin_32 : ∀ w ∈ wsL_law_r32, w ∈ lw_tbl := by decide +kernel
set_option maxRecDepth 20000 in
theorem lin_33 : ∀ w ∈ wsL_law_r33, w ∈ lw_tbl := by decide +kernel
set_option maxRecDepth 20000 in
theorem lin_34 : ∀ w ∈ wsL_law_r34, w ∈ lw_tbl := by decide +kernel
set_option maxRecDepth 20000 in
theorem lin_35 : ∀ w ∈ wsL_law_r35, w ∈ lw_tbl := by decide +kernel
set_option maxRecDepth 20000 in
theorem lin_36 : ∀ w ∈ wsL_law_r36, w ∈ lw_tbl := by decide +kernel
set_option maxRecDepth 20000 in
theorem lin_37 : ∀ w ∈ wsL_law_r37, w ∈ lw_tbl := by decide +kernel
set_option maxRecDepth 20000 in
theorem linX0 : ∀ w ∈ wsX00, w ∈ lw_tbl := by decide +kernel
set_option maxRecDepth 20000 in
theorem linX1 : ∀ w ∈ wsX10, w ∈ lw_tbl := by decide +kernel
set_option maxRecDepth 20000 in
theorem linX2 : ∀ w ∈ wsX20, w ∈ lw_tbl := by decide +kernel
set_option maxRecDepth 20000 in
theorem linX3 : ∀ w ∈ wsX30, w ∈ lw_tbl := by decide +kernel
set_option maxRecDepth 20000 in
theorem linX4 : ∀ w ∈ wsX40, w ∈ lw_tbl := by decide +kernel
set_option maxRecDepth 20000 in
theorem linX5 : ∀ w ∈ wsX50, w ∈ lw_tbl := by decide +kernel
set_option maxRecDepth 20000 in
theorem linX6 : ∀ w ∈ wsX60, w ∈ lw_tbl := by decide +kernel
set_option maxRecDepth 20000 in
theorem linX7 : ∀ w ∈ wsX70, w ∈ lw_tbl := by decide +kernel
theorem lin_r : ∀ w ∈ (wsL_law_r1 ++ (wsL_law_r2 ++ (wsL_law_r3 ++ (wsL_law_r4 ++ (wsL_law_r5 ++ (wsL_law_r6 ++ (wsL_law_r7 ++ (wsL_law_r8 ++ (wsL_law_r9 ++ (wsL_law_r10 ++ (wsL_law_r11 ++ (wsL_law_r12 ++ (wsL_law_r13 ++ (wsL_law_r14 ++ (wsL_law_r15 ++ (wsL_law_r16 ++ (wsL_law_r17 ++ (wsL_law_r18 ++ (wsL_law_r19 ++ (wsL_law_r20 ++ (wsL_law_r21 ++ (wsL_law_r22 ++ (wsL_law_r23 ++ (wsL_law_r24 ++ (wsL_law_r25 ++ (wsL_law_r26 ++ (wsL_law_r27 ++ (wsL_law_r28 ++ (wsL_law_r29 ++ (wsL_law_r30 ++ (wsL_law_r31 ++ (wsL_law_r32 ++ (wsL_law_r33 ++ (wsL_law_r34 ++ (wsL_law_r35 ++ (wsL_law_r36 ++ (wsL_law_r37))))))))))))))))))))))))))))))))))))), w ∈ lw_tbl := List.forall_mem_append.mpr ⟨lin_1, List.forall_mem_append.mpr ⟨lin_2, List.forall_mem_append.mpr ⟨lin_3, List.forall_mem_append.mpr ⟨lin_4, List.forall_mem_append.mpr ⟨lin_5, List.forall_mem_append.mpr ⟨lin_6, List.forall_mem_append.mpr ⟨lin_7, List.forall_mem_append.mpr ⟨lin_8, List.forall_mem_append.mpr ⟨lin_9, List.forall_mem_append.mpr ⟨lin_10, List.forall_mem_append.mpr ⟨lin_11, List.forall_mem_append.mpr ⟨lin_12, List.forall_mem_append.mpr ⟨lin_13, List.forall_mem_append.mpr ⟨lin_14, List.forall_mem_append.mpr ⟨lin_15, List.forall_mem_append.mpr ⟨lin_16, List.forall_mem_append.mpr ⟨lin_17, List.forall_mem_append.mpr ⟨lin_18, List.forall_mem_append.mpr ⟨lin_19, List.forall_mem_append.mpr ⟨lin_20, List.forall_mem_append.mpr ⟨lin_21, List.forall_mem_append.mpr ⟨lin_22, List.forall_mem_append.mpr ⟨lin_23, List.forall_mem_append.mpr ⟨lin_24, List.forall_mem_append.mpr ⟨lin_25, List.forall_mem_append.mpr ⟨lin_26, List.forall_mem_append.mpr ⟨lin_27, List.forall_mem_append.mpr ⟨lin_28, List.forall_mem_append.mpr ⟨lin_29, List.forall_mem_append.mpr ⟨lin_30, List.forall_mem_append.mpr ⟨lin_31, List.forall_mem_append.mpr ⟨lin_32, List.forall_mem_append.mpr ⟨lin_33, List.forall_mem_append.mpr ⟨lin_34, List.forall_mem_append.mpr ⟨lin_35, List.forall_mem_append.mpr ⟨lin_36, lin_37⟩⟩⟩⟩⟩⟩⟩⟩⟩⟩⟩⟩⟩⟩⟩⟩⟩⟩⟩⟩⟩⟩⟩⟩⟩⟩⟩⟩⟩⟩⟩⟩⟩⟩⟩⟩
theorem lin_all : ∀ w ∈ wsL_law, w ∈ lw_tbl := List.forall_mem_append.mpr ⟨List.forall_mem_append.mpr ⟨List.forall_mem_append.mpr ⟨List.forall_mem_append.mpr ⟨List.forall_mem_append.mpr ⟨List.forall_mem_append.mpr ⟨List.forall_mem_append.mpr ⟨List.forall_mem_append.mpr ⟨List.forall_mem_append.mpr ⟨lin_r, linX6⟩, linX7⟩, linX5⟩, linX2⟩, linX4⟩, linX1⟩, linX0⟩, linX3⟩, fun _ h => absurd h List.not_mem_nil⟩
