theorem law_le {a r k d N : Nat} (h : r ≤ k) (hc : a + d ≤ N) (hd : k ≤ d := by decide) : a + r ≤ N := by omega
theorem law_le2 {a r q N : Nat} (h : r ≤ 9) (h2 : q ≤ 9) (hc : a + 18 ≤ N) : a + r + q ≤ N := by omega
theorem law_le3 {a r q N : Nat} (h : r ≤ 552) (h2 : q ≤ 552) (hc : a + 1104 ≤ N) : a + r + q ≤ N := by omega
theorem law_le4 {a r q : Nat} (h : r ≤ 9) (h2 : q ≤ 9) : a + r + q ≤ a + 18 := by omega
theorem law_le5 {a r q : Nat} (h : r ≤ 552) (h2 : q ≤ 552) : a + r + q ≤ a + 1104 := by omega
set_option maxHeartbeats 2000000 in
set_option maxRecDepth 20000 in
theorem law_c0 {p : Program} {l : Launch} {e : Env} {s : State} {m : MethodId} {below : List Frame} {meth : Method} {c : Code} {b L : Nat} {xs : Nat → Int32} {G : GT} {A : Nat → Prop} {x0 m0 i : Nat} {u : va_W} {H : Heap} {locs : List Loc} {cells slots : Nat} {Q : State → Prop} {ls : Array Slot} (C0 : lw_At p s m meth c b L xs) (hK : KK G s) (hN : NN s) (hSS : SS G.2.2.2.2.2 A s s.heap) (hA : ∀ q : Nat, s.heap.size ≤ q → A q) (hbA : ¬ A b) (hI : INV G x0 m0 u) (hP : va_P G.1 vwCl u H) (hD : va_D A u) (hS : va_S A s.heap H locs) (hl : lv_has ls 4 [(3, .int (nI i)), (2, .ref m0), (1, .ref x0), (0, .ref b)]) (hi : i + 2 < L) (hL : L ≤ 1536) (hc : cells + 18 ≤ 600000) (hs : slots + 1104 ≤ 7302250)
    (kk : ∀ (u : va_W) (H : Heap) (locs : List Loc), INV G x0 m0 u → va_P G.1 vwCl u H → va_D A u → va_S A s.heap H locs → W p l e room_1 s m #[Value.ref b] below meth c H locs (cells + 18) (slots + 1104) Q (F0 m 782 ls [])) : W p l e room_1 s m #[Value.ref b] below meth c H locs cells slots Q (F0 m 176 ls []) := by
  obtain ⟨hx, hb, hr, hml, hown, hts, hX, hbl, hlocks, hgv⟩ := id C0
  have hown : s.vm.findClass RL = some m.cls := hown
  have hLw : ∀ w ∈ wsL_law, w.before #[Value.ref b] s = true := fun w h => hts w (lin_all w h)
  obtain ⟨fs6, hm6⟩ := hI.cell
  obtain ⟨rm, hr1, hCX⟩ := bo_append l hI (xs (i + 1))
  refine lv_aload_n hx hb dL_law_176 rfl (lv_at hl 2 rfl) ?_
  refine lv_aload_n hx hb dL_law_177 rfl (lv_at hl 3 rfl) ?_
  refine lv_iload_n hx hb dL_law_178 rfl (lv_at hl 0 rfl) ?_
  refine lv_iconst (v := 1) hx hb dL_law_179 (by decide) ?_
  refine wn_iadd hx hb i 1 rfl rfl dL_law_180 ?_
  refine law_ld hx hb hX hbl hbA hS hL (j := i + 1) (by omega) dL_law_181 ?_
  refine callA_Vi (rest := []) (As := [.int (xs (i + 1))]) (c1 := cells + rm.cells) (s1 := slots + rm.slots) ⟨hx, hb, hml, hown, hLw⟩ hCX (cwV 1 hLw gL_law_X6_append rfl rfl rfl (by decide +kernel) ⟨Nat.le_trans (Nat.add_le_add_right hr1.1 1) (Nat.le_of_ble_eq_true rfl), Nat.le_trans (Nat.add_le_add_left hr1.2.1 _) (Nat.le_of_ble_eq_true rfl)⟩) hK hN hSS hP hD hS hA 6 hm6 rfl rfl rfl hl.1 rfl (Nat.le_of_ble_eq_true rfl) dL_law_182 ⟨law_le hr1.2.2.1 hc, law_le hr1.2.2.2 hs⟩ rfl rfl (fun r1 u1 H locs hpo hP hD hS => ?_)
  obtain ⟨⟨fs7, hm7⟩, rm2, hr2, hCM⟩ := hpo
  refine lv_aload_n hx hb dL_law_185 rfl (lv_at hl 1 rfl) ?_
  refine lv_aload_n hx hb dL_law_186 rfl (lv_at hl 3 rfl) ?_
  refine lv_iload_n hx hb dL_law_187 rfl (lv_at hl 0 rfl) ?_
  refine lv_iconst (v := 1) hx hb dL_law_188 (by decide) ?_
  refine wn_iadd hx hb i 1 rfl rfl dL_law_189 ?_
  refine law_ld hx hb hX hbl hbA hS hL (j := i + 1) (by omega) dL_law_190 ?_
  refine callA_Vi (rest := [.int r1]) (As := [.int (xs (i + 1))]) (c1 := cells + rm.cells + rm2.cells) (s1 := slots + rm.slots + rm2.slots) ⟨hx, hb, hml, hown, hLw⟩ hCM (cwV 1 hLw gL_law_X7_append rfl rfl rfl (by decide +kernel) ⟨Nat.le_trans (Nat.add_le_add_right hr2.1 1) (Nat.le_of_ble_eq_true rfl), Nat.le_trans (Nat.add_le_add_left hr2.2.1 _) (Nat.le_of_ble_eq_true rfl)⟩) hK hN hSS hP hD hS hA 7 hm7 rfl rfl rfl hl.1 rfl (Nat.le_of_ble_eq_true rfl) dL_law_191 ⟨law_le2 hr1.2.2.1 hr2.2.2.1 hc, law_le3 hr1.2.2.2 hr2.2.2.2 hs⟩ rfl rfl (fun r2 u2 H locs hpo hP hD hS => ?_)
  obtain ⟨hrr, hI2⟩ := hpo
  refine lv_icmp_eq (tgt := 782) hx hb dL_law_194 (by decide) (fun hq => ?_) (fun hq => absurd hrr.symm hq)
  exact W.widen (law_le4 hr1.2.2.1 hr2.2.2.1) (law_le5 hr1.2.2.2 hr2.2.2.2) (kk u2 H locs hI2 hP hD hS)
set_option maxHeartbeats 2000000 in
set_option maxRecDepth 20000 in
theorem law_c1 {p : Program} {l : Launch} {e : Env} {s : State} {m : MethodId} {below : List Frame} {meth : Method} {c : Code} {b L : Nat} {xs : Nat → Int32} {G : GT} {A : Nat → Prop} {x0 m0 i : Nat} {u : va_W} {H : Heap} {locs : List Loc} {cells slots : Nat} {Q : State → Prop} {ls : Array Slot} (C0 : lw_At p s m meth c b L xs) (hK : KK G s) (hN : NN s) (hSS : SS G.2.2.2.2.2 A s s.heap) (hA : ∀ q : Nat, s.heap.size ≤ q → A q) (hbA : ¬ A b) (hI : INV G x0 m0 u) (hP : va_P G.1 vwCl u H) (hD : va_D A u) (hS : va_S A s.heap H locs) (hl : lv_has ls 4 [(3, .int (nI i)), (2, .ref m0), (1, .ref x0), (0, .ref b)]) (hi : i + 2 < L) (hL : L ≤ 1536) (hc : cells + 18 ≤ 600000) (hs : slots + 1104 ≤ 7302250)
    (kk : ∀ (u : va_W) (H : Heap) (locs : List Loc), INV G x0 m0 u → va_P G.1 vwCl u H → va_D A u → va_S A s.heap H locs → W p l e room_1 s m #[Value.ref b] below meth c H locs (cells + 18) (slots + 1104) Q (F0 m 782 ls [])) : W p l e room_1 s m #[Value.ref b] below meth c H locs cells slots Q (F0 m 199 ls []) := by
  obtain ⟨hx, hb, hr, hml, hown, hts, hX, hbl, hlocks, hgv⟩ := id C0
  have hown : s.vm.findClass RL = some m.cls := hown
  have hLw : ∀ w ∈ wsL_law, w.before #[Value.ref b] s = true := fun w h => hts w (lin_all w h)
  obtain ⟨fs6, hm6⟩ := hI.cell
  obtain ⟨rm, hr1, hCX⟩ := bo_clearText l hI
  refine lv_aload_n hx hb dL_law_199 rfl (lv_at hl 2 rfl) ?_
  refine callA_Vi (rest := []) (As := []) (c1 := cells + rm.cells) (s1 := slots + rm.slots) ⟨hx, hb, hml, hown, hLw⟩ hCX (cwV 0 hLw gL_law_X6_clearText rfl rfl rfl (by decide +kernel) ⟨Nat.le_trans (Nat.add_le_add_right hr1.1 1) (Nat.le_of_ble_eq_true rfl), Nat.le_trans (Nat.add_le_add_left hr1.2.1 _) (Nat.le_of_ble_eq_true rfl)⟩) hK hN hSS hP hD hS hA 6 hm6 rfl rfl rfl hl.1 rfl (Nat.le_of_ble_eq_true rfl) dL_law_200 ⟨law_le hr1.2.2.1 hc, law_le hr1.2.2.2 hs⟩ rfl rfl (fun r1 u1 H locs hpo hP hD hS => ?_)
  obtain ⟨⟨fs7, hm7⟩, rm2, hr2, hCM⟩ := hpo
  refine lv_aload_n hx hb dL_law_203 rfl (lv_at hl 1 rfl) ?_
  refine callA_Vi (rest := [.int r1]) (As := []) (c1 := cells + rm.cells + rm2.cells) (s1 := slots + rm.slots + rm2.slots) ⟨hx, hb, hml, hown, hLw⟩ hCM (cwV 0 hLw gL_law_X7_clearText rfl rfl rfl (by decide +kernel) ⟨Nat.le_trans (Nat.add_le_add_right hr2.1 1) (Nat.le_of_ble_eq_true rfl), Nat.le_trans (Nat.add_le_add_left hr2.2.1 _) (Nat.le_of_ble_eq_true rfl)⟩) hK hN hSS hP hD hS hA 7 hm7 rfl rfl rfl hl.1 rfl (Nat.le_of_ble_eq_true rfl) dL_law_204 ⟨law_le2 hr1.2.2.1 hr2.2.2.1 hc, law_le3 hr1.2.2.2 hr2.2.2.2 hs⟩ rfl rfl (fun r2 u2 H locs hpo hP hD hS => ?_)
  obtain ⟨hrr, hI2⟩ := hpo
  refine lv_icmp_eq (tgt := 782) hx hb dL_law_207 (by decide) (fun hq => ?_) (fun hq => absurd hrr.symm hq)
  exact W.widen (law_le4 hr1.2.2.1 hr2.2.2.1) (law_le5 hr1.2.2.2 hr2.2.2.2) (kk u2 H locs hI2 hP hD hS)
set_option maxHeartbeats 2000000 in
set_option maxRecDepth 20000 in
theorem law_c2 {p : Program} {l : Launch} {e : Env} {s : State} {m : MethodId} {below : List Frame} {meth : Method} {c : Code} {b L : Nat} {xs : Nat → Int32} {G : GT} {A : Nat → Prop} {x0 m0 i : Nat} {u : va_W} {H : Heap} {locs : List Loc} {cells slots : Nat} {Q : State → Prop} {ls : Array Slot} (C0 : lw_At p s m meth c b L xs) (hK : KK G s) (hN : NN s) (hSS : SS G.2.2.2.2.2 A s s.heap) (hA : ∀ q : Nat, s.heap.size ≤ q → A q) (hbA : ¬ A b) (hI : INV G x0 m0 u) (hP : va_P G.1 vwCl u H) (hD : va_D A u) (hS : va_S A s.heap H locs) (hl : lv_has ls 4 [(3, .int (nI i)), (2, .ref m0), (1, .ref x0), (0, .ref b)]) (hi : i + 2 < L) (hL : L ≤ 1536) (hc : cells + 18 ≤ 600000) (hs : slots + 1104 ≤ 7302250)
    (kk : ∀ (u : va_W) (H : Heap) (locs : List Loc), INV G x0 m0 u → va_P G.1 vwCl u H → va_D A u → va_S A s.heap H locs → W p l e room_1 s m #[Value.ref b] below meth c H locs (cells + 18) (slots + 1104) Q (F0 m 782 ls [])) : W p l e room_1 s m #[Value.ref b] below meth c H locs cells slots Q (F0 m 212 ls []) := by
  obtain ⟨hx, hb, hr, hml, hown, hts, hX, hbl, hlocks, hgv⟩ := id C0
  have hown : s.vm.findClass RL = some m.cls := hown
  have hLw : ∀ w ∈ wsL_law, w.before #[Value.ref b] s = true := fun w h => hts w (lin_all w h)
  obtain ⟨fs6, hm6⟩ := hI.cell
  obtain ⟨rm, hr1, hCX⟩ := bo_load l hI
  refine lv_aload_n hx hb dL_law_212 rfl (lv_at hl 2 rfl) ?_
  refine callA_Vi (rest := []) (As := []) (c1 := cells + rm.cells) (s1 := slots + rm.slots) ⟨hx, hb, hml, hown, hLw⟩ hCX (cwV 0 hLw gL_law_X6_load rfl rfl rfl (by decide +kernel) ⟨Nat.le_trans (Nat.add_le_add_right hr1.1 1) (Nat.le_of_ble_eq_true rfl), Nat.le_trans (Nat.add_le_add_left hr1.2.1 _) (Nat.le_of_ble_eq_true rfl)⟩) hK hN hSS hP hD hS hA 6 hm6 rfl rfl rfl hl.1 rfl (Nat.le_of_ble_eq_true rfl) dL_law_213 ⟨law_le hr1.2.2.1 hc, law_le hr1.2.2.2 hs⟩ rfl rfl (fun r1 u1 H locs hpo hP hD hS => ?_)
  obtain ⟨⟨fs7, hm7⟩, rm2, hr2, hCM⟩ := hpo
  refine lv_aload_n hx hb dL_law_216 rfl (lv_at hl 1 rfl) ?_
  refine callA_Vi (rest := [.int r1]) (As := []) (c1 := cells + rm.cells + rm2.cells) (s1 := slots + rm.slots + rm2.slots) ⟨hx, hb, hml, hown, hLw⟩ hCM (cwV 0 hLw gL_law_X7_load rfl rfl rfl (by decide +kernel) ⟨Nat.le_trans (Nat.add_le_add_right hr2.1 1) (Nat.le_of_ble_eq_true rfl), Nat.le_trans (Nat.add_le_add_left hr2.2.1 _) (Nat.le_of_ble_eq_true rfl)⟩) hK hN hSS hP hD hS hA 7 hm7 rfl rfl rfl hl.1 rfl (Nat.le_of_ble_eq_true rfl) dL_law_217 ⟨law_le2 hr1.2.2.1 hr2.2.2.1 hc, law_le3 hr1.2.2.2 hr2.2.2.2 hs⟩ rfl rfl (fun r2 u2 H locs hpo hP hD hS => ?_)
  obtain ⟨hrr, hI2⟩ := hpo
  refine lv_icmp_eq (tgt := 782) hx hb dL_law_220 (by decide) (fun hq => ?_) (fun hq => absurd hrr.symm hq)
  exact W.widen (law_le4 hr1.2.2.1 hr2.2.2.1) (law_le5 hr1.2.2.2 hr2.2.2.2) (kk u2 H locs hI2 hP hD hS)
set_option maxHeartbeats 2000000 in
set_option maxRecDepth 20000 in
theorem law_c3 {p : Program} {l : Launch} {e : Env} {s : State} {m : MethodId} {below : List Frame} {meth : Method} {c : Code} {b L : Nat} {xs : Nat → Int32} {G : GT} {A : Nat → Prop} {x0 m0 i : Nat} {u : va_W} {H : Heap} {locs : List Loc} {cells slots : Nat} {Q : State → Prop} {ls : Array Slot} (C0 : lw_At p s m meth c b L xs) (hK : KK G s) (hN : NN s) (hSS : SS G.2.2.2.2.2 A s s.heap) (hA : ∀ q : Nat, s.heap.size ≤ q → A q) (hbA : ¬ A b) (hI : INV G x0 m0 u) (hP : va_P G.1 vwCl u H) (hD : va_D A u) (hS : va_S A s.heap H locs) (hl : lv_has ls 4 [(3, .int (nI i)), (2, .ref m0), (1, .ref x0), (0, .ref b)]) (hi : i + 2 < L) (hL : L ≤ 1536) (hc : cells + 18 ≤ 600000) (hs : slots + 1104 ≤ 7302250)
    (kk : ∀ (u : va_W) (H : Heap) (locs : List Loc), INV G x0 m0 u → va_P G.1 vwCl u H → va_D A u → va_S A s.heap H locs → W p l e room_1 s m #[Value.ref b] below meth c H locs (cells + 18) (slots + 1104) Q (F0 m 782 ls [])) : W p l e room_1 s m #[Value.ref b] below meth c H locs cells slots Q (F0 m 225 ls []) := by
  obtain ⟨hx, hb, hr, hml, hown, hts, hX, hbl, hlocks, hgv⟩ := id C0
  have hown : s.vm.findClass RL = some m.cls := hown
  have hLw : ∀ w ∈ wsL_law, w.before #[Value.ref b] s = true := fun w h => hts w (lin_all w h)
  obtain ⟨fs6, hm6⟩ := hI.cell
  obtain ⟨rm, hr1, hCX⟩ := bo_remove l hI (xs (i + 1))
  refine lv_aload_n hx hb dL_law_225 rfl (lv_at hl 2 rfl) ?_
  refine lv_aload_n hx hb dL_law_226 rfl (lv_at hl 3 rfl) ?_
  refine lv_iload_n hx hb dL_law_227 rfl (lv_at hl 0 rfl) ?_
  refine lv_iconst (v := 1) hx hb dL_law_228 (by decide) ?_
  refine wn_iadd hx hb i 1 rfl rfl dL_law_229 ?_
  refine law_ld hx hb hX hbl hbA hS hL (j := i + 1) (by omega) dL_law_230 ?_
  refine callA_Vi (rest := []) (As := [.int (xs (i + 1))]) (c1 := cells + rm.cells) (s1 := slots + rm.slots) ⟨hx, hb, hml, hown, hLw⟩ hCX (cwV 1 hLw gL_law_X6_remove rfl rfl rfl (by decide +kernel) ⟨Nat.le_trans (Nat.add_le_add_right hr1.1 1) (Nat.le_of_ble_eq_true rfl), Nat.le_trans (Nat.add_le_add_left hr1.2.1 _) (Nat.le_of_ble_eq_true rfl)⟩) hK hN hSS hP hD hS hA 6 hm6 rfl rfl rfl hl.1 rfl (Nat.le_of_ble_eq_true rfl) dL_law_231 ⟨law_le hr1.2.2.1 hc, law_le hr1.2.2.2 hs⟩ rfl rfl (fun r1 u1 H locs hpo hP hD hS => ?_)
  obtain ⟨⟨fs7, hm7⟩, rm2, hr2, hCM⟩ := hpo
  refine lv_aload_n hx hb dL_law_234 rfl (lv_at hl 1 rfl) ?_
  refine lv_aload_n hx hb dL_law_235 rfl (lv_at hl 3 rfl) ?_
  refine lv_iload_n hx hb dL_law_236 rfl (lv_at hl 0 rfl) ?_
  refine lv_iconst (v := 1) hx hb dL_law_237 (by decide) ?_
  refine wn_iadd hx hb i 1 rfl rfl dL_law_238 ?_
  refine law_ld hx hb hX hbl hbA hS hL (j := i + 1) (by omega) dL_law_239 ?_
  refine callA_Vi (rest := [.int r1]) (As := [.int (xs (i + 1))]) (c1 := cells + rm.cells + rm2.cells) (s1 := slots + rm.slots + rm2.slots) ⟨hx, hb, hml, hown, hLw⟩ hCM (cwV 1 hLw gL_law_X7_remove rfl rfl rfl (by decide +kernel) ⟨Nat.le_trans (Nat.add_le_add_right hr2.1 1) (Nat.le_of_ble_eq_true rfl), Nat.le_trans (Nat.add_le_add_left hr2.2.1 _) (Nat.le_of_ble_eq_true rfl)⟩) hK hN hSS hP hD hS hA 7 hm7 rfl rfl rfl hl.1 rfl (Nat.le_of_ble_eq_true rfl) dL_law_240 ⟨law_le2 hr1.2.2.1 hr2.2.2.1 hc, law_le3 hr1.2.2.2 hr2.2.2.2 hs⟩ rfl rfl (fun r2 u2 H locs hpo hP hD hS => ?_)
  obtain ⟨hrr, hI2⟩ := hpo
  refine lv_icmp_eq (tgt := 782) hx hb dL_law_243 (by decide) (fun hq => ?_) (fun hq => absurd hrr.symm hq)
  exact W.widen (law_le4 hr1.2.2.1 hr2.2.2.1) (law_le5 hr1.2.2.2 hr2.2.2.2) (kk u2 H locs hI2 hP hD hS)
set_option maxHeartbeats 2000000 in
set_option maxRecDepth 20000 in
theorem law_c4 {p : Program} {l : Launch} {e : Env} {s : State} {m : MethodId} {below : List Frame} {meth : Method} {c : Code} {b L : Nat} {xs : Nat → Int32} {G : GT} {A : Nat → Prop} {x0 m0 i : Nat} {u : va_W} {H : Heap} {locs : List Loc} {cells slots : Nat} {Q : State → Prop} {ls : Array Slot} (C0 : lw_At p s m meth c b L xs) (hK : KK G s) (hN : NN s) (hSS : SS G.2.2.2.2.2 A s s.heap) (hA : ∀ q : Nat, s.heap.size ≤ q → A q) (hbA : ¬ A b) (hI : INV G x0 m0 u) (hP : va_P G.1 vwCl u H) (hD : va_D A u) (hS : va_S A s.heap H locs) (hl : lv_has ls 4 [(3, .int (nI i)), (2, .ref m0), (1, .ref x0), (0, .ref b)]) (hi : i + 2 < L) (hL : L ≤ 1536) (hc : cells + 18 ≤ 600000) (hs : slots + 1104 ≤ 7302250)
    (kk : ∀ (u : va_W) (H : Heap) (locs : List Loc), INV G x0 m0 u → va_P G.1 vwCl u H → va_D A u → va_S A s.heap H locs → W p l e room_1 s m #[Value.ref b] below meth c H locs (cells + 18) (slots + 1104) Q (F0 m 782 ls [])) : W p l e room_1 s m #[Value.ref b] below meth c H locs cells slots Q (F0 m 248 ls []) := by
  obtain ⟨hx, hb, hr, hml, hown, hts, hX, hbl, hlocks, hgv⟩ := id C0
  have hown : s.vm.findClass RL = some m.cls := hown
  have hLw : ∀ w ∈ wsL_law, w.before #[Value.ref b] s = true := fun w h => hts w (lin_all w h)
  obtain ⟨fs6, hm6⟩ := hI.cell
  obtain ⟨rm, hr1, hCX⟩ := bo_setHard l hI (xs (i + 1)) (xs (i + 2))
  refine lv_aload_n hx hb dL_law_248 rfl (lv_at hl 2 rfl) ?_
  refine lv_aload_n hx hb dL_law_249 rfl (lv_at hl 3 rfl) ?_
  refine lv_iload_n hx hb dL_law_250 rfl (lv_at hl 0 rfl) ?_
  refine lv_iconst (v := 1) hx hb dL_law_251 (by decide) ?_
  refine wn_iadd hx hb i 1 rfl rfl dL_law_252 ?_
  refine law_ld hx hb hX hbl hbA hS hL (j := i + 1) (by omega) dL_law_253 ?_
  refine lv_aload_n hx hb dL_law_254 rfl (lv_at hl 3 rfl) ?_
  refine lv_iload_n hx hb dL_law_255 rfl (lv_at hl 0 rfl) ?_
  refine lv_iconst (v := 2) hx hb dL_law_256 (by decide) ?_
  refine wn_iadd hx hb i 2 rfl rfl dL_law_257 ?_
  refine law_ld hx hb hX hbl hbA hS hL (j := i + 2) (by omega) dL_law_258 ?_
  refine callA_Vi (rest := []) (As := [.int (xs (i + 1)), .int (xs (i + 2))]) (c1 := cells + rm.cells) (s1 := slots + rm.slots) ⟨hx, hb, hml, hown, hLw⟩ hCX (cwV 2 hLw gL_law_X6_setHard rfl rfl rfl (by decide +kernel) ⟨Nat.le_trans (Nat.add_le_add_right hr1.1 1) (Nat.le_of_ble_eq_true rfl), Nat.le_trans (Nat.add_le_add_left hr1.2.1 _) (Nat.le_of_ble_eq_true rfl)⟩) hK hN hSS hP hD hS hA 6 hm6 rfl rfl rfl hl.1 rfl (Nat.le_of_ble_eq_true rfl) dL_law_259 ⟨law_le hr1.2.2.1 hc, law_le hr1.2.2.2 hs⟩ rfl rfl (fun r1 u1 H locs hpo hP hD hS => ?_)
  obtain ⟨⟨fs7, hm7⟩, rm2, hr2, hCM⟩ := hpo
  refine lv_aload_n hx hb dL_law_262 rfl (lv_at hl 1 rfl) ?_
  refine lv_aload_n hx hb dL_law_263 rfl (lv_at hl 3 rfl) ?_
  refine lv_iload_n hx hb dL_law_264 rfl (lv_at hl 0 rfl) ?_
  refine lv_iconst (v := 1) hx hb dL_law_265 (by decide) ?_
  refine wn_iadd hx hb i 1 rfl rfl dL_law_266 ?_
  refine law_ld hx hb hX hbl hbA hS hL (j := i + 1) (by omega) dL_law_267 ?_
  refine lv_aload_n hx hb dL_law_268 rfl (lv_at hl 3 rfl) ?_
  refine lv_iload_n hx hb dL_law_269 rfl (lv_at hl 0 rfl) ?_
  refine lv_iconst (v := 2) hx hb dL_law_270 (by decide) ?_
  refine wn_iadd hx hb i 2 rfl rfl dL_law_271 ?_
  refine law_ld hx hb hX hbl hbA hS hL (j := i + 2) (by omega) dL_law_272 ?_
  refine callA_Vi (rest := [.int r1]) (As := [.int (xs (i + 1)), .int (xs (i + 2))]) (c1 := cells + rm.cells + rm2.cells) (s1 := slots + rm.slots + rm2.slots) ⟨hx, hb, hml, hown, hLw⟩ hCM (cwV 2 hLw gL_law_X7_setHard rfl rfl rfl (by decide +kernel) ⟨Nat.le_trans (Nat.add_le_add_right hr2.1 1) (Nat.le_of_ble_eq_true rfl), Nat.le_trans (Nat.add_le_add_left hr2.2.1 _) (Nat.le_of_ble_eq_true rfl)⟩) hK hN hSS hP hD hS hA 7 hm7 rfl rfl rfl hl.1 rfl (Nat.le_of_ble_eq_true rfl) dL_law_273 ⟨law_le2 hr1.2.2.1 hr2.2.2.1 hc, law_le3 hr1.2.2.2 hr2.2.2.2 hs⟩ rfl rfl (fun r2 u2 H locs hpo hP hD hS => ?_)
  obtain ⟨hrr, hI2⟩ := hpo
  refine lv_icmp_eq (tgt := 782) hx hb dL_law_276 (by decide) (fun hq => ?_) (fun hq => absurd hrr.symm hq)
  exact W.widen (law_le4 hr1.2.2.1 hr2.2.2.1) (law_le5 hr1.2.2.2 hr2.2.2.2) (kk u2 H locs hI2 hP hD hS)
set_option maxHeartbeats 2000000 in
set_option maxRecDepth 20000 in
theorem law_c5 {p : Program} {l : Launch} {e : Env} {s : State} {m : MethodId} {below : List Frame} {meth : Method} {c : Code} {b L : Nat} {xs : Nat → Int32} {G : GT} {A : Nat → Prop} {x0 m0 i : Nat} {u : va_W} {H : Heap} {locs : List Loc} {cells slots : Nat} {Q : State → Prop} {ls : Array Slot} (C0 : lw_At p s m meth c b L xs) (hK : KK G s) (hN : NN s) (hSS : SS G.2.2.2.2.2 A s s.heap) (hA : ∀ q : Nat, s.heap.size ≤ q → A q) (hbA : ¬ A b) (hI : INV G x0 m0 u) (hP : va_P G.1 vwCl u H) (hD : va_D A u) (hS : va_S A s.heap H locs) (hl : lv_has ls 4 [(3, .int (nI i)), (2, .ref m0), (1, .ref x0), (0, .ref b)]) (hi : i + 2 < L) (hL : L ≤ 1536) (hc : cells + 18 ≤ 600000) (hs : slots + 1104 ≤ 7302250)
    (kk : ∀ (u : va_W) (H : Heap) (locs : List Loc), INV G x0 m0 u → va_P G.1 vwCl u H → va_D A u → va_S A s.heap H locs → W p l e room_1 s m #[Value.ref b] below meth c H locs (cells + 18) (slots + 1104) Q (F0 m 782 ls [])) : W p l e room_1 s m #[Value.ref b] below meth c H locs cells slots Q (F0 m 281 ls []) := by
  obtain ⟨hx, hb, hr, hml, hown, hts, hX, hbl, hlocks, hgv⟩ := id C0
  have hown : s.vm.findClass RL = some m.cls := hown
  have hLw : ∀ w ∈ wsL_law, w.before #[Value.ref b] s = true := fun w h => hts w (lin_all w h)
  obtain ⟨fs6, hm6⟩ := hI.cell
  obtain ⟨rm, hr1, hCX⟩ := bo_setWeight l hI (xs (i + 1)) (xs (i + 2))
  refine lv_aload_n hx hb dL_law_281 rfl (lv_at hl 2 rfl) ?_
  refine lv_aload_n hx hb dL_law_282 rfl (lv_at hl 3 rfl) ?_
  refine lv_iload_n hx hb dL_law_283 rfl (lv_at hl 0 rfl) ?_
  refine lv_iconst (v := 1) hx hb dL_law_284 (by decide) ?_
  refine wn_iadd hx hb i 1 rfl rfl dL_law_285 ?_
  refine law_ld hx hb hX hbl hbA hS hL (j := i + 1) (by omega) dL_law_286 ?_
  refine lv_aload_n hx hb dL_law_287 rfl (lv_at hl 3 rfl) ?_
  refine lv_iload_n hx hb dL_law_288 rfl (lv_at hl 0 rfl) ?_
  refine lv_iconst (v := 2) hx hb dL_law_289 (by decide) ?_
  refine wn_iadd hx hb i 2 rfl rfl dL_law_290 ?_
  refine law_ld hx hb hX hbl hbA hS hL (j := i + 2) (by omega) dL_law_291 ?_
  refine callA_Vi (rest := []) (As := [.int (xs (i + 1)), .int (xs (i + 2))]) (c1 := cells + rm.cells) (s1 := slots + rm.slots) ⟨hx, hb, hml, hown, hLw⟩ hCX (cwV 2 hLw gL_law_X6_setWeight rfl rfl rfl (by decide +kernel) ⟨Nat.le_trans (Nat.add_le_add_right hr1.1 1) (Nat.le_of_ble_eq_true rfl), Nat.le_trans (Nat.add_le_add_left hr1.2.1 _) (Nat.le_of_ble_eq_true rfl)⟩) hK hN hSS hP hD hS hA 6 hm6 rfl rfl rfl hl.1 rfl (Nat.le_of_ble_eq_true rfl) dL_law_292 ⟨law_le hr1.2.2.1 hc, law_le hr1.2.2.2 hs⟩ rfl rfl (fun r1 u1 H locs hpo hP hD hS => ?_)
  obtain ⟨⟨fs7, hm7⟩, rm2, hr2, hCM⟩ := hpo
  refine lv_aload_n hx hb dL_law_295 rfl (lv_at hl 1 rfl) ?_
  refine lv_aload_n hx hb dL_law_296 rfl (lv_at hl 3 rfl) ?_
  refine lv_iload_n hx hb dL_law_297 rfl (lv_at hl 0 rfl) ?_
  refine lv_iconst (v := 1) hx hb dL_law_298 (by decide) ?_
  refine wn_iadd hx hb i 1 rfl rfl dL_law_299 ?_
  refine law_ld hx hb hX hbl hbA hS hL (j := i + 1) (by omega) dL_law_300 ?_
  refine lv_aload_n hx hb dL_law_301 rfl (lv_at hl 3 rfl) ?_
  refine lv_iload_n hx hb dL_law_302 rfl (lv_at hl 0 rfl) ?_
  refine lv_iconst (v := 2) hx hb dL_law_303 (by decide) ?_
  refine wn_iadd hx hb i 2 rfl rfl dL_law_304 ?_
  refine law_ld hx hb hX hbl hbA hS hL (j := i + 2) (by omega) dL_law_305 ?_
  refine callA_Vi (rest := [.int r1]) (As := [.int (xs (i + 1)), .int (xs (i + 2))]) (c1 := cells + rm.cells + rm2.cells) (s1 := slots + rm.slots + rm2.slots) ⟨hx, hb, hml, hown, hLw⟩ hCM (cwV 2 hLw gL_law_X7_setWeight rfl rfl rfl (by decide +kernel) ⟨Nat.le_trans (Nat.add_le_add_right hr2.1 1) (Nat.le_of_ble_eq_true rfl), Nat.le_trans (Nat.add_le_add_left hr2.2.1 _) (Nat.le_of_ble_eq_true rfl)⟩) hK hN hSS hP hD hS hA 7 hm7 rfl rfl rfl hl.1 rfl (Nat.le_of_ble_eq_true rfl) dL_law_306 ⟨law_le2 hr1.2.2.1 hr2.2.2.1 hc, law_le3 hr1.2.2.2 hr2.2.2.2 hs⟩ rfl rfl (fun r2 u2 H locs hpo hP hD hS => ?_)
  obtain ⟨hrr, hI2⟩ := hpo
  refine lv_icmp_eq (tgt := 782) hx hb dL_law_309 (by decide) (fun hq => ?_) (fun hq => absurd hrr.symm hq)
  exact W.widen (law_le4 hr1.2.2.1 hr2.2.2.1) (law_le5 hr1.2.2.2 hr2.2.2.2) (kk u2 H locs hI2 hP hD hS)
set_option maxHeartbeats 2000000 in
set_option maxRecDepth 20000 in
theorem law_c6 {p : Program} {l : Launch} {e : Env} {s : State} {m : MethodId} {below : List Frame} {meth : Method} {c : Code} {b L : Nat} {xs : Nat → Int32} {G : GT} {A : Nat → Prop} {x0 m0 i : Nat} {u : va_W} {H : Heap} {locs : List Loc} {cells slots : Nat} {Q : State → Prop} {ls : Array Slot} (C0 : lw_At p s m meth c b L xs) (hK : KK G s) (hN : NN s) (hSS : SS G.2.2.2.2.2 A s s.heap) (hA : ∀ q : Nat, s.heap.size ≤ q → A q) (hbA : ¬ A b) (hI : INV G x0 m0 u) (hP : va_P G.1 vwCl u H) (hD : va_D A u) (hS : va_S A s.heap H locs) (hl : lv_has ls 4 [(3, .int (nI i)), (2, .ref m0), (1, .ref x0), (0, .ref b)]) (hi : i + 2 < L) (hL : L ≤ 1536) (hc : cells + 18 ≤ 600000) (hs : slots + 1104 ≤ 7302250)
    (kk : ∀ (u : va_W) (H : Heap) (locs : List Loc), INV G x0 m0 u → va_P G.1 vwCl u H → va_D A u → va_S A s.heap H locs → W p l e room_1 s m #[Value.ref b] below meth c H locs (cells + 18) (slots + 1104) Q (F0 m 782 ls [])) : W p l e room_1 s m #[Value.ref b] below meth c H locs cells slots Q (F0 m 314 ls []) := by
  obtain ⟨hx, hb, hr, hml, hown, hts, hX, hbl, hlocks, hgv⟩ := id C0
  have hown : s.vm.findClass RL = some m.cls := hown
  have hLw : ∀ w ∈ wsL_law, w.before #[Value.ref b] s = true := fun w h => hts w (lin_all w h)
  obtain ⟨fs6, hm6⟩ := hI.cell
  obtain ⟨rm, hr1, hCX⟩ := bo_setStrategy l hI (xs (i + 1))
  refine lv_aload_n hx hb dL_law_314 rfl (lv_at hl 2 rfl) ?_
  refine lv_aload_n hx hb dL_law_315 rfl (lv_at hl 3 rfl) ?_
  refine lv_iload_n hx hb dL_law_316 rfl (lv_at hl 0 rfl) ?_
  refine lv_iconst (v := 1) hx hb dL_law_317 (by decide) ?_
  refine wn_iadd hx hb i 1 rfl rfl dL_law_318 ?_
  refine law_ld hx hb hX hbl hbA hS hL (j := i + 1) (by omega) dL_law_319 ?_
  refine callA_Vi (rest := []) (As := [.int (xs (i + 1))]) (c1 := cells + rm.cells) (s1 := slots + rm.slots) ⟨hx, hb, hml, hown, hLw⟩ hCX (cwV 1 hLw gL_law_X6_setStrategy rfl rfl rfl (by decide +kernel) ⟨Nat.le_trans (Nat.add_le_add_right hr1.1 1) (Nat.le_of_ble_eq_true rfl), Nat.le_trans (Nat.add_le_add_left hr1.2.1 _) (Nat.le_of_ble_eq_true rfl)⟩) hK hN hSS hP hD hS hA 6 hm6 rfl rfl rfl hl.1 rfl (Nat.le_of_ble_eq_true rfl) dL_law_320 ⟨law_le hr1.2.2.1 hc, law_le hr1.2.2.2 hs⟩ rfl rfl (fun r1 u1 H locs hpo hP hD hS => ?_)
  obtain ⟨⟨fs7, hm7⟩, rm2, hr2, hCM⟩ := hpo
  refine lv_aload_n hx hb dL_law_323 rfl (lv_at hl 1 rfl) ?_
  refine lv_aload_n hx hb dL_law_324 rfl (lv_at hl 3 rfl) ?_
  refine lv_iload_n hx hb dL_law_325 rfl (lv_at hl 0 rfl) ?_
  refine lv_iconst (v := 1) hx hb dL_law_326 (by decide) ?_
  refine wn_iadd hx hb i 1 rfl rfl dL_law_327 ?_
  refine law_ld hx hb hX hbl hbA hS hL (j := i + 1) (by omega) dL_law_328 ?_
  refine callA_Vi (rest := [.int r1]) (As := [.int (xs (i + 1))]) (c1 := cells + rm.cells + rm2.cells) (s1 := slots + rm.slots + rm2.slots) ⟨hx, hb, hml, hown, hLw⟩ hCM (cwV 1 hLw gL_law_X7_setStrategy rfl rfl rfl (by decide +kernel) ⟨Nat.le_trans (Nat.add_le_add_right hr2.1 1) (Nat.le_of_ble_eq_true rfl), Nat.le_trans (Nat.add_le_add_left hr2.2.1 _) (Nat.le_of_ble_eq_true rfl)⟩) hK hN hSS hP hD hS hA 7 hm7 rfl rfl rfl hl.1 rfl (Nat.le_of_ble_eq_true rfl) dL_law_329 ⟨law_le2 hr1.2.2.1 hr2.2.2.1 hc, law_le3 hr1.2.2.2 hr2.2.2.2 hs⟩ rfl rfl (fun r2 u2 H locs hpo hP hD hS => ?_)
  obtain ⟨hrr, hI2⟩ := hpo
  refine lv_icmp_eq (tgt := 782) hx hb dL_law_332 (by decide) (fun hq => ?_) (fun hq => absurd hrr.symm hq)
  exact W.widen (law_le4 hr1.2.2.1 hr2.2.2.1) (law_le5 hr1.2.2.2 hr2.2.2.2) (kk u2 H locs hI2 hP hD hS)
set_option maxHeartbeats 2000000 in
set_option maxRecDepth 20000 in
theorem law_c7 {p : Program} {l : Launch} {e : Env} {s : State} {m : MethodId} {below : List Frame} {meth : Method} {c : Code} {b L : Nat} {xs : Nat → Int32} {G : GT} {A : Nat → Prop} {x0 m0 i : Nat} {u : va_W} {H : Heap} {locs : List Loc} {cells slots : Nat} {Q : State → Prop} {ls : Array Slot} (C0 : lw_At p s m meth c b L xs) (hK : KK G s) (hN : NN s) (hSS : SS G.2.2.2.2.2 A s s.heap) (hA : ∀ q : Nat, s.heap.size ≤ q → A q) (hbA : ¬ A b) (hI : INV G x0 m0 u) (hP : va_P G.1 vwCl u H) (hD : va_D A u) (hS : va_S A s.heap H locs) (hl : lv_has ls 4 [(3, .int (nI i)), (2, .ref m0), (1, .ref x0), (0, .ref b)]) (hi : i + 2 < L) (hL : L ≤ 1536) (hc : cells + 18 ≤ 600000) (hs : slots + 1104 ≤ 7302250)
    (kk : ∀ (u : va_W) (H : Heap) (locs : List Loc), INV G x0 m0 u → va_P G.1 vwCl u H → va_D A u → va_S A s.heap H locs → W p l e room_1 s m #[Value.ref b] below meth c H locs (cells + 18) (slots + 1104) Q (F0 m 782 ls [])) : W p l e room_1 s m #[Value.ref b] below meth c H locs cells slots Q (F0 m 337 ls []) := by
  obtain ⟨hx, hb, hr, hml, hown, hts, hX, hbl, hlocks, hgv⟩ := id C0
  have hown : s.vm.findClass RL = some m.cls := hown
  have hLw : ∀ w ∈ wsL_law, w.before #[Value.ref b] s = true := fun w h => hts w (lin_all w h)
  obtain ⟨fs6, hm6⟩ := hI.cell
  obtain ⟨rm, hr1, hCX⟩ := bo_step l hI
  refine lv_aload_n hx hb dL_law_337 rfl (lv_at hl 2 rfl) ?_
  refine callA_Vi (rest := []) (As := []) (c1 := cells + rm.cells) (s1 := slots + rm.slots) ⟨hx, hb, hml, hown, hLw⟩ hCX (cwV 0 hLw gL_law_X6_step rfl rfl rfl (by decide +kernel) ⟨Nat.le_trans (Nat.add_le_add_right hr1.1 1) (Nat.le_of_ble_eq_true rfl), Nat.le_trans (Nat.add_le_add_left hr1.2.1 _) (Nat.le_of_ble_eq_true rfl)⟩) hK hN hSS hP hD hS hA 6 hm6 rfl rfl rfl hl.1 rfl (Nat.le_of_ble_eq_true rfl) dL_law_338 ⟨law_le hr1.2.2.1 hc, law_le hr1.2.2.2 hs⟩ rfl rfl (fun r1 u1 H locs hpo hP hD hS => ?_)
  obtain ⟨⟨fs7, hm7⟩, rm2, hr2, hCM⟩ := hpo
  refine lv_aload_n hx hb dL_law_341 rfl (lv_at hl 1 rfl) ?_
  refine callA_Vi (rest := [.int r1]) (As := []) (c1 := cells + rm.cells + rm2.cells) (s1 := slots + rm.slots + rm2.slots) ⟨hx, hb, hml, hown, hLw⟩ hCM (cwV 0 hLw gL_law_X7_step rfl rfl rfl (by decide +kernel) ⟨Nat.le_trans (Nat.add_le_add_right hr2.1 1) (Nat.le_of_ble_eq_true rfl), Nat.le_trans (Nat.add_le_add_left hr2.2.1 _) (Nat.le_of_ble_eq_true rfl)⟩) hK hN hSS hP hD hS hA 7 hm7 rfl rfl rfl hl.1 rfl (Nat.le_of_ble_eq_true rfl) dL_law_342 ⟨law_le2 hr1.2.2.1 hr2.2.2.1 hc, law_le3 hr1.2.2.2 hr2.2.2.2 hs⟩ rfl rfl (fun r2 u2 H locs hpo hP hD hS => ?_)
  obtain ⟨hrr, hI2⟩ := hpo
  refine lv_icmp_eq (tgt := 782) hx hb dL_law_345 (by decide) (fun hq => ?_) (fun hq => absurd hrr.symm hq)
  exact W.widen (law_le4 hr1.2.2.1 hr2.2.2.1) (law_le5 hr1.2.2.2 hr2.2.2.2) (kk u2 H locs hI2 hP hD hS)
set_option maxHeartbeats 2000000 in
set_option maxRecDepth 20000 in
theorem law_c8 {p : Program} {l : Launch} {e : Env} {s : State} {m : MethodId} {below : List Frame} {meth : Method} {c : Code} {b L : Nat} {xs : Nat → Int32} {G : GT} {A : Nat → Prop} {x0 m0 i : Nat} {u : va_W} {H : Heap} {locs : List Loc} {cells slots : Nat} {Q : State → Prop} {ls : Array Slot} (C0 : lw_At p s m meth c b L xs) (hK : KK G s) (hN : NN s) (hSS : SS G.2.2.2.2.2 A s s.heap) (hA : ∀ q : Nat, s.heap.size ≤ q → A q) (hbA : ¬ A b) (hI : INV G x0 m0 u) (hP : va_P G.1 vwCl u H) (hD : va_D A u) (hS : va_S A s.heap H locs) (hl : lv_has ls 4 [(3, .int (nI i)), (2, .ref m0), (1, .ref x0), (0, .ref b)]) (hi : i + 2 < L) (hL : L ≤ 1536) (hc : cells + 18 ≤ 600000) (hs : slots + 1104 ≤ 7302250)
    (kk : ∀ (u : va_W) (H : Heap) (locs : List Loc), INV G x0 m0 u → va_P G.1 vwCl u H → va_D A u → va_S A s.heap H locs → W p l e room_1 s m #[Value.ref b] below meth c H locs (cells + 18) (slots + 1104) Q (F0 m 782 ls [])) : W p l e room_1 s m #[Value.ref b] below meth c H locs cells slots Q (F0 m 350 ls []) := by
  obtain ⟨hx, hb, hr, hml, hown, hts, hX, hbl, hlocks, hgv⟩ := id C0
  have hown : s.vm.findClass RL = some m.cls := hown
  have hLw : ∀ w ∈ wsL_law, w.before #[Value.ref b] s = true := fun w h => hts w (lin_all w h)
  obtain ⟨fs6, hm6⟩ := hI.cell
  obtain ⟨rm, hr1, hCX⟩ := bo_finish l hI
  refine lv_aload_n hx hb dL_law_350 rfl (lv_at hl 2 rfl) ?_
  refine callA_Vi (rest := []) (As := []) (c1 := cells + rm.cells) (s1 := slots + rm.slots) ⟨hx, hb, hml, hown, hLw⟩ hCX (cwV 0 hLw gL_law_X6_finish rfl rfl rfl (by decide +kernel) ⟨Nat.le_trans (Nat.add_le_add_right hr1.1 1) (Nat.le_of_ble_eq_true rfl), Nat.le_trans (Nat.add_le_add_left hr1.2.1 _) (Nat.le_of_ble_eq_true rfl)⟩) hK hN hSS hP hD hS hA 6 hm6 rfl rfl rfl hl.1 rfl (Nat.le_of_ble_eq_true rfl) dL_law_351 ⟨law_le hr1.2.2.1 hc, law_le hr1.2.2.2 hs⟩ rfl rfl (fun r1 u1 H locs hpo hP hD hS => ?_)
  obtain ⟨⟨fs7, hm7⟩, rm2, hr2, hCM⟩ := hpo
  refine lv_aload_n hx hb dL_law_354 rfl (lv_at hl 1 rfl) ?_
  refine callA_Vi (rest := [.int r1]) (As := []) (c1 := cells + rm.cells + rm2.cells) (s1 := slots + rm.slots + rm2.slots) ⟨hx, hb, hml, hown, hLw⟩ hCM (cwV 0 hLw gL_law_X7_finish rfl rfl rfl (by decide +kernel) ⟨Nat.le_trans (Nat.add_le_add_right hr2.1 1) (Nat.le_of_ble_eq_true rfl), Nat.le_trans (Nat.add_le_add_left hr2.2.1 _) (Nat.le_of_ble_eq_true rfl)⟩) hK hN hSS hP hD hS hA 7 hm7 rfl rfl rfl hl.1 rfl (Nat.le_of_ble_eq_true rfl) dL_law_355 ⟨law_le2 hr1.2.2.1 hr2.2.2.1 hc, law_le3 hr1.2.2.2 hr2.2.2.2 hs⟩ rfl rfl (fun r2 u2 H locs hpo hP hD hS => ?_)
  obtain ⟨hrr, hI2⟩ := hpo
  refine lv_icmp_eq (tgt := 782) hx hb dL_law_358 (by decide) (fun hq => ?_) (fun hq => absurd hrr.symm hq)
  exact W.widen (law_le4 hr1.2.2.1 hr2.2.2.1) (law_le5 hr1.2.2.2 hr2.2.2.2) (kk u2 H locs hI2 hP hD hS)
set_option maxHeartbeats 2000000 in
set_option maxRecDepth 20000 in
theorem law_c9 {p : Program} {l : Launch} {e : Env} {s : State} {m : MethodId} {below : List Frame} {meth : Method} {c : Code} {b L : Nat} {xs : Nat → Int32} {G : GT} {A : Nat → Prop} {x0 m0 i : Nat} {u : va_W} {H : Heap} {locs : List Loc} {cells slots : Nat} {Q : State → Prop} {ls : Array Slot} (C0 : lw_At p s m meth c b L xs) (hK : KK G s) (hN : NN s) (hSS : SS G.2.2.2.2.2 A s s.heap) (hA : ∀ q : Nat, s.heap.size ≤ q → A q) (hbA : ¬ A b) (hI : INV G x0 m0 u) (hP : va_P G.1 vwCl u H) (hD : va_D A u) (hS : va_S A s.heap H locs) (hl : lv_has ls 4 [(3, .int (nI i)), (2, .ref m0), (1, .ref x0), (0, .ref b)]) (hi : i + 2 < L) (hL : L ≤ 1536) (hc : cells + 18 ≤ 600000) (hs : slots + 1104 ≤ 7302250)
    (kk : ∀ (u : va_W) (H : Heap) (locs : List Loc), INV G x0 m0 u → va_P G.1 vwCl u H → va_D A u → va_S A s.heap H locs → W p l e room_1 s m #[Value.ref b] below meth c H locs (cells + 18) (slots + 1104) Q (F0 m 782 ls [])) : W p l e room_1 s m #[Value.ref b] below meth c H locs cells slots Q (F0 m 363 ls []) := by
  obtain ⟨hx, hb, hr, hml, hown, hts, hX, hbl, hlocks, hgv⟩ := id C0
  have hown : s.vm.findClass RL = some m.cls := hown
  have hLw : ∀ w ∈ wsL_law, w.before #[Value.ref b] s = true := fun w h => hts w (lin_all w h)
  obtain ⟨fs6, hm6⟩ := hI.cell
  obtain ⟨rm, hr1, hCX⟩ := bo_undo l hI
  refine lv_aload_n hx hb dL_law_363 rfl (lv_at hl 2 rfl) ?_
  refine callA_Vi (rest := []) (As := []) (c1 := cells + rm.cells) (s1 := slots + rm.slots) ⟨hx, hb, hml, hown, hLw⟩ hCX (cwV 0 hLw gL_law_X6_undo rfl rfl rfl (by decide +kernel) ⟨Nat.le_trans (Nat.add_le_add_right hr1.1 1) (Nat.le_of_ble_eq_true rfl), Nat.le_trans (Nat.add_le_add_left hr1.2.1 _) (Nat.le_of_ble_eq_true rfl)⟩) hK hN hSS hP hD hS hA 6 hm6 rfl rfl rfl hl.1 rfl (Nat.le_of_ble_eq_true rfl) dL_law_364 ⟨law_le hr1.2.2.1 hc, law_le hr1.2.2.2 hs⟩ rfl rfl (fun r1 u1 H locs hpo hP hD hS => ?_)
  obtain ⟨⟨fs7, hm7⟩, rm2, hr2, hCM⟩ := hpo
  refine lv_aload_n hx hb dL_law_367 rfl (lv_at hl 1 rfl) ?_
  refine callA_Vi (rest := [.int r1]) (As := []) (c1 := cells + rm.cells + rm2.cells) (s1 := slots + rm.slots + rm2.slots) ⟨hx, hb, hml, hown, hLw⟩ hCM (cwV 0 hLw gL_law_X7_undo rfl rfl rfl (by decide +kernel) ⟨Nat.le_trans (Nat.add_le_add_right hr2.1 1) (Nat.le_of_ble_eq_true rfl), Nat.le_trans (Nat.add_le_add_left hr2.2.1 _) (Nat.le_of_ble_eq_true rfl)⟩) hK hN hSS hP hD hS hA 7 hm7 rfl rfl rfl hl.1 rfl (Nat.le_of_ble_eq_true rfl) dL_law_368 ⟨law_le2 hr1.2.2.1 hr2.2.2.1 hc, law_le3 hr1.2.2.2 hr2.2.2.2 hs⟩ rfl rfl (fun r2 u2 H locs hpo hP hD hS => ?_)
  obtain ⟨hrr, hI2⟩ := hpo
  refine lv_icmp_eq (tgt := 782) hx hb dL_law_371 (by decide) (fun hq => ?_) (fun hq => absurd hrr.symm hq)
  exact W.widen (law_le4 hr1.2.2.1 hr2.2.2.1) (law_le5 hr1.2.2.2 hr2.2.2.2) (kk u2 H locs hI2 hP hD hS)
set_option maxHeartbeats 2000000 in
set_option maxRecDepth 20000 in
theorem law_c10 {p : Program} {l : Launch} {e : Env} {s : State} {m : MethodId} {below : List Frame} {meth : Method} {c : Code} {b L : Nat} {xs : Nat → Int32} {G : GT} {A : Nat → Prop} {x0 m0 i : Nat} {u : va_W} {H : Heap} {locs : List Loc} {cells slots : Nat} {Q : State → Prop} {ls : Array Slot} (C0 : lw_At p s m meth c b L xs) (hK : KK G s) (hN : NN s) (hSS : SS G.2.2.2.2.2 A s s.heap) (hA : ∀ q : Nat, s.heap.size ≤ q → A q) (hbA : ¬ A b) (hI : INV G x0 m0 u) (hP : va_P G.1 vwCl u H) (hD : va_D A u) (hS : va_S A s.heap H locs) (hl : lv_has ls 4 [(3, .int (nI i)), (2, .ref m0), (1, .ref x0), (0, .ref b)]) (hi : i + 2 < L) (hL : L ≤ 1536) (hc : cells + 18 ≤ 600000) (hs : slots + 1104 ≤ 7302250)
    (kk : ∀ (u : va_W) (H : Heap) (locs : List Loc), INV G x0 m0 u → va_P G.1 vwCl u H → va_D A u → va_S A s.heap H locs → W p l e room_1 s m #[Value.ref b] below meth c H locs (cells + 18) (slots + 1104) Q (F0 m 782 ls [])) : W p l e room_1 s m #[Value.ref b] below meth c H locs cells slots Q (F0 m 376 ls []) := by
  obtain ⟨hx, hb, hr, hml, hown, hts, hX, hbl, hlocks, hgv⟩ := id C0
  have hown : s.vm.findClass RL = some m.cls := hown
  have hLw : ∀ w ∈ wsL_law, w.before #[Value.ref b] s = true := fun w h => hts w (lin_all w h)
  obtain ⟨fs6, hm6⟩ := hI.cell
  obtain ⟨rm, hr1, hCX⟩ := bo_seed l hI
  refine lv_aload_n hx hb dL_law_376 rfl (lv_at hl 2 rfl) ?_
  refine callA_Vi (rest := []) (As := []) (c1 := cells + rm.cells) (s1 := slots + rm.slots) ⟨hx, hb, hml, hown, hLw⟩ hCX (cwV 0 hLw gL_law_X6_seed rfl rfl rfl (by decide +kernel) ⟨Nat.le_trans (Nat.add_le_add_right hr1.1 1) (Nat.le_of_ble_eq_true rfl), Nat.le_trans (Nat.add_le_add_left hr1.2.1 _) (Nat.le_of_ble_eq_true rfl)⟩) hK hN hSS hP hD hS hA 6 hm6 rfl rfl rfl hl.1 rfl (Nat.le_of_ble_eq_true rfl) dL_law_377 ⟨law_le hr1.2.2.1 hc, law_le hr1.2.2.2 hs⟩ rfl rfl (fun r1 u1 H locs hpo hP hD hS => ?_)
  obtain ⟨⟨fs7, hm7⟩, rm2, hr2, hCM⟩ := hpo
  refine lv_aload_n hx hb dL_law_380 rfl (lv_at hl 1 rfl) ?_
  refine callA_Vi (rest := [.int r1]) (As := []) (c1 := cells + rm.cells + rm2.cells) (s1 := slots + rm.slots + rm2.slots) ⟨hx, hb, hml, hown, hLw⟩ hCM (cwV 0 hLw gL_law_X7_seed rfl rfl rfl (by decide +kernel) ⟨Nat.le_trans (Nat.add_le_add_right hr2.1 1) (Nat.le_of_ble_eq_true rfl), Nat.le_trans (Nat.add_le_add_left hr2.2.1 _) (Nat.le_of_ble_eq_true rfl)⟩) hK hN hSS hP hD hS hA 7 hm7 rfl rfl rfl hl.1 rfl (Nat.le_of_ble_eq_true rfl) dL_law_381 ⟨law_le2 hr1.2.2.1 hr2.2.2.1 hc, law_le3 hr1.2.2.2 hr2.2.2.2 hs⟩ rfl rfl (fun r2 u2 H locs hpo hP hD hS => ?_)
  obtain ⟨hrr, hI2⟩ := hpo
  refine lv_icmp_eq (tgt := 782) hx hb dL_law_384 (by decide) (fun hq => ?_) (fun hq => absurd hrr.symm hq)
  exact W.widen (law_le4 hr1.2.2.1 hr2.2.2.1) (law_le5 hr1.2.2.2 hr2.2.2.2) (kk u2 H locs hI2 hP hD hS)
set_option maxHeartbeats 2000000 in
set_option maxRecDepth 20000 in
theorem law_c11 {p : Program} {l : Launch} {e : Env} {s : State} {m : MethodId} {below : List Frame} {meth : Method} {c : Code} {b L : Nat} {xs : Nat → Int32} {G : GT} {A : Nat → Prop} {x0 m0 i : Nat} {u : va_W} {H : Heap} {locs : List Loc} {cells slots : Nat} {Q : State → Prop} {ls : Array Slot} (C0 : lw_At p s m meth c b L xs) (hK : KK G s) (hN : NN s) (hSS : SS G.2.2.2.2.2 A s s.heap) (hA : ∀ q : Nat, s.heap.size ≤ q → A q) (hbA : ¬ A b) (hI : INV G x0 m0 u) (hP : va_P G.1 vwCl u H) (hD : va_D A u) (hS : va_S A s.heap H locs) (hl : lv_has ls 4 [(3, .int (nI i)), (2, .ref m0), (1, .ref x0), (0, .ref b)]) (hi : i + 2 < L) (hL : L ≤ 1536) (hc : cells + 18 ≤ 600000) (hs : slots + 1104 ≤ 7302250)
    (kk : ∀ (u : va_W) (H : Heap) (locs : List Loc), INV G x0 m0 u → va_P G.1 vwCl u H → va_D A u → va_S A s.heap H locs → W p l e room_1 s m #[Value.ref b] below meth c H locs (cells + 18) (slots + 1104) Q (F0 m 782 ls [])) : W p l e room_1 s m #[Value.ref b] below meth c H locs cells slots Q (F0 m 389 ls []) := by
  obtain ⟨hx, hb, hr, hml, hown, hts, hX, hbl, hlocks, hgv⟩ := id C0
  have hown : s.vm.findClass RL = some m.cls := hown
  have hLw : ∀ w ∈ wsL_law, w.before #[Value.ref b] s = true := fun w h => hts w (lin_all w h)
  obtain ⟨fs6, hm6⟩ := hI.cell
  obtain ⟨rm, hr1, hCX⟩ := bo_unexploredCount l hI
  refine lv_aload_n hx hb dL_law_389 rfl (lv_at hl 2 rfl) ?_
  refine callA_Vi (rest := []) (As := []) (c1 := cells + rm.cells) (s1 := slots + rm.slots) ⟨hx, hb, hml, hown, hLw⟩ hCX (cwV 0 hLw gL_law_X6_unexploredCount rfl rfl rfl (by decide +kernel) ⟨Nat.le_trans (Nat.add_le_add_right hr1.1 1) (Nat.le_of_ble_eq_true rfl), Nat.le_trans (Nat.add_le_add_left hr1.2.1 _) (Nat.le_of_ble_eq_true rfl)⟩) hK hN hSS hP hD hS hA 6 hm6 rfl rfl rfl hl.1 rfl (Nat.le_of_ble_eq_true rfl) dL_law_390 ⟨law_le hr1.2.2.1 hc, law_le hr1.2.2.2 hs⟩ rfl rfl (fun r1 u1 H locs hpo hP hD hS => ?_)
  obtain ⟨⟨fs7, hm7⟩, rm2, hr2, hCM⟩ := hpo
  refine lv_aload_n hx hb dL_law_393 rfl (lv_at hl 1 rfl) ?_
  refine callA_Vi (rest := [.int r1]) (As := []) (c1 := cells + rm.cells + rm2.cells) (s1 := slots + rm.slots + rm2.slots) ⟨hx, hb, hml, hown, hLw⟩ hCM (cwV 0 hLw gL_law_X7_unexploredCount rfl rfl rfl (by decide +kernel) ⟨Nat.le_trans (Nat.add_le_add_right hr2.1 1) (Nat.le_of_ble_eq_true rfl), Nat.le_trans (Nat.add_le_add_left hr2.2.1 _) (Nat.le_of_ble_eq_true rfl)⟩) hK hN hSS hP hD hS hA 7 hm7 rfl rfl rfl hl.1 rfl (Nat.le_of_ble_eq_true rfl) dL_law_394 ⟨law_le2 hr1.2.2.1 hr2.2.2.1 hc, law_le3 hr1.2.2.2 hr2.2.2.2 hs⟩ rfl rfl (fun r2 u2 H locs hpo hP hD hS => ?_)
  obtain ⟨hrr, hI2⟩ := hpo
  refine lv_icmp_eq (tgt := 782) hx hb dL_law_397 (by decide) (fun hq => ?_) (fun hq => absurd hrr.symm hq)
  exact W.widen (law_le4 hr1.2.2.1 hr2.2.2.1) (law_le5 hr1.2.2.2 hr2.2.2.2) (kk u2 H locs hI2 hP hD hS)
set_option maxHeartbeats 2000000 in
set_option maxRecDepth 20000 in
theorem law_c12 {p : Program} {l : Launch} {e : Env} {s : State} {m : MethodId} {below : List Frame} {meth : Method} {c : Code} {b L : Nat} {xs : Nat → Int32} {G : GT} {A : Nat → Prop} {x0 m0 i : Nat} {u : va_W} {H : Heap} {locs : List Loc} {cells slots : Nat} {Q : State → Prop} {ls : Array Slot} (C0 : lw_At p s m meth c b L xs) (hK : KK G s) (hN : NN s) (hSS : SS G.2.2.2.2.2 A s s.heap) (hA : ∀ q : Nat, s.heap.size ≤ q → A q) (hbA : ¬ A b) (hI : INV G x0 m0 u) (hP : va_P G.1 vwCl u H) (hD : va_D A u) (hS : va_S A s.heap H locs) (hl : lv_has ls 4 [(3, .int (nI i)), (2, .ref m0), (1, .ref x0), (0, .ref b)]) (hi : i + 2 < L) (hL : L ≤ 1536) (hc : cells + 18 ≤ 600000) (hs : slots + 1104 ≤ 7302250)
    (kk : ∀ (u : va_W) (H : Heap) (locs : List Loc), INV G x0 m0 u → va_P G.1 vwCl u H → va_D A u → va_S A s.heap H locs → W p l e room_1 s m #[Value.ref b] below meth c H locs (cells + 18) (slots + 1104) Q (F0 m 782 ls [])) : W p l e room_1 s m #[Value.ref b] below meth c H locs cells slots Q (F0 m 402 ls []) := by
  obtain ⟨hx, hb, hr, hml, hown, hts, hX, hbl, hlocks, hgv⟩ := id C0
  have hown : s.vm.findClass RL = some m.cls := hown
  have hLw : ∀ w ∈ wsL_law, w.before #[Value.ref b] s = true := fun w h => hts w (lin_all w h)
  obtain ⟨fs6, hm6⟩ := hI.cell
  obtain ⟨rm, hr1, hCX⟩ := bo_musCount l hI
  refine lv_aload_n hx hb dL_law_402 rfl (lv_at hl 2 rfl) ?_
  refine callA_Vi (rest := []) (As := []) (c1 := cells + rm.cells) (s1 := slots + rm.slots) ⟨hx, hb, hml, hown, hLw⟩ hCX (cwV 0 hLw gL_law_X6_musCount rfl rfl rfl (by decide +kernel) ⟨Nat.le_trans (Nat.add_le_add_right hr1.1 1) (Nat.le_of_ble_eq_true rfl), Nat.le_trans (Nat.add_le_add_left hr1.2.1 _) (Nat.le_of_ble_eq_true rfl)⟩) hK hN hSS hP hD hS hA 6 hm6 rfl rfl rfl hl.1 rfl (Nat.le_of_ble_eq_true rfl) dL_law_403 ⟨law_le hr1.2.2.1 hc, law_le hr1.2.2.2 hs⟩ rfl rfl (fun r1 u1 H locs hpo hP hD hS => ?_)
  obtain ⟨⟨fs7, hm7⟩, rm2, hr2, hCM⟩ := hpo
  refine lv_aload_n hx hb dL_law_406 rfl (lv_at hl 1 rfl) ?_
  refine callA_Vi (rest := [.int r1]) (As := []) (c1 := cells + rm.cells + rm2.cells) (s1 := slots + rm.slots + rm2.slots) ⟨hx, hb, hml, hown, hLw⟩ hCM (cwV 0 hLw gL_law_X7_musCount rfl rfl rfl (by decide +kernel) ⟨Nat.le_trans (Nat.add_le_add_right hr2.1 1) (Nat.le_of_ble_eq_true rfl), Nat.le_trans (Nat.add_le_add_left hr2.2.1 _) (Nat.le_of_ble_eq_true rfl)⟩) hK hN hSS hP hD hS hA 7 hm7 rfl rfl rfl hl.1 rfl (Nat.le_of_ble_eq_true rfl) dL_law_407 ⟨law_le2 hr1.2.2.1 hr2.2.2.1 hc, law_le3 hr1.2.2.2 hr2.2.2.2 hs⟩ rfl rfl (fun r2 u2 H locs hpo hP hD hS => ?_)
  obtain ⟨hrr, hI2⟩ := hpo
  refine lv_icmp_eq (tgt := 782) hx hb dL_law_410 (by decide) (fun hq => ?_) (fun hq => absurd hrr.symm hq)
  exact W.widen (law_le4 hr1.2.2.1 hr2.2.2.1) (law_le5 hr1.2.2.2 hr2.2.2.2) (kk u2 H locs hI2 hP hD hS)
set_option maxHeartbeats 2000000 in
set_option maxRecDepth 20000 in
theorem law_c13 {p : Program} {l : Launch} {e : Env} {s : State} {m : MethodId} {below : List Frame} {meth : Method} {c : Code} {b L : Nat} {xs : Nat → Int32} {G : GT} {A : Nat → Prop} {x0 m0 i : Nat} {u : va_W} {H : Heap} {locs : List Loc} {cells slots : Nat} {Q : State → Prop} {ls : Array Slot} (C0 : lw_At p s m meth c b L xs) (hK : KK G s) (hN : NN s) (hSS : SS G.2.2.2.2.2 A s s.heap) (hA : ∀ q : Nat, s.heap.size ≤ q → A q) (hbA : ¬ A b) (hI : INV G x0 m0 u) (hP : va_P G.1 vwCl u H) (hD : va_D A u) (hS : va_S A s.heap H locs) (hl : lv_has ls 4 [(3, .int (nI i)), (2, .ref m0), (1, .ref x0), (0, .ref b)]) (hi : i + 2 < L) (hL : L ≤ 1536) (hc : cells + 18 ≤ 600000) (hs : slots + 1104 ≤ 7302250)
    (kk : ∀ (u : va_W) (H : Heap) (locs : List Loc), INV G x0 m0 u → va_P G.1 vwCl u H → va_D A u → va_S A s.heap H locs → W p l e room_1 s m #[Value.ref b] below meth c H locs (cells + 18) (slots + 1104) Q (F0 m 782 ls [])) : W p l e room_1 s m #[Value.ref b] below meth c H locs cells slots Q (F0 m 415 ls []) := by
  obtain ⟨hx, hb, hr, hml, hown, hts, hX, hbl, hlocks, hgv⟩ := id C0
  have hown : s.vm.findClass RL = some m.cls := hown
  have hLw : ∀ w ∈ wsL_law, w.before #[Value.ref b] s = true := fun w h => hts w (lin_all w h)
  obtain ⟨fs6, hm6⟩ := hI.cell
  obtain ⟨rm, hr1, hCX⟩ := bo_mus l hI (xs (i + 1))
  refine lv_aload_n hx hb dL_law_415 rfl (lv_at hl 2 rfl) ?_
  refine lv_aload_n hx hb dL_law_416 rfl (lv_at hl 3 rfl) ?_
  refine lv_iload_n hx hb dL_law_417 rfl (lv_at hl 0 rfl) ?_
  refine lv_iconst (v := 1) hx hb dL_law_418 (by decide) ?_
  refine wn_iadd hx hb i 1 rfl rfl dL_law_419 ?_
  refine law_ld hx hb hX hbl hbA hS hL (j := i + 1) (by omega) dL_law_420 ?_
  refine callA_Vi (rest := []) (As := [.int (xs (i + 1))]) (c1 := cells + rm.cells) (s1 := slots + rm.slots) ⟨hx, hb, hml, hown, hLw⟩ hCX (cwV 1 hLw gL_law_X6_mus rfl rfl rfl (by decide +kernel) ⟨Nat.le_trans (Nat.add_le_add_right hr1.1 1) (Nat.le_of_ble_eq_true rfl), Nat.le_trans (Nat.add_le_add_left hr1.2.1 _) (Nat.le_of_ble_eq_true rfl)⟩) hK hN hSS hP hD hS hA 6 hm6 rfl rfl rfl hl.1 rfl (Nat.le_of_ble_eq_true rfl) dL_law_421 ⟨law_le hr1.2.2.1 hc, law_le hr1.2.2.2 hs⟩ rfl rfl (fun r1 u1 H locs hpo hP hD hS => ?_)
  obtain ⟨⟨fs7, hm7⟩, rm2, hr2, hCM⟩ := hpo
  refine lv_aload_n hx hb dL_law_424 rfl (lv_at hl 1 rfl) ?_
  refine lv_aload_n hx hb dL_law_425 rfl (lv_at hl 3 rfl) ?_
  refine lv_iload_n hx hb dL_law_426 rfl (lv_at hl 0 rfl) ?_
  refine lv_iconst (v := 1) hx hb dL_law_427 (by decide) ?_
  refine wn_iadd hx hb i 1 rfl rfl dL_law_428 ?_
  refine law_ld hx hb hX hbl hbA hS hL (j := i + 1) (by omega) dL_law_429 ?_
  refine callA_Vi (rest := [.int r1]) (As := [.int (xs (i + 1))]) (c1 := cells + rm.cells + rm2.cells) (s1 := slots + rm.slots + rm2.slots) ⟨hx, hb, hml, hown, hLw⟩ hCM (cwV 1 hLw gL_law_X7_mus rfl rfl rfl (by decide +kernel) ⟨Nat.le_trans (Nat.add_le_add_right hr2.1 1) (Nat.le_of_ble_eq_true rfl), Nat.le_trans (Nat.add_le_add_left hr2.2.1 _) (Nat.le_of_ble_eq_true rfl)⟩) hK hN hSS hP hD hS hA 7 hm7 rfl rfl rfl hl.1 rfl (Nat.le_of_ble_eq_true rfl) dL_law_430 ⟨law_le2 hr1.2.2.1 hr2.2.2.1 hc, law_le3 hr1.2.2.2 hr2.2.2.2 hs⟩ rfl rfl (fun r2 u2 H locs hpo hP hD hS => ?_)
  obtain ⟨hrr, hI2⟩ := hpo
  refine lv_icmp_eq (tgt := 782) hx hb dL_law_433 (by decide) (fun hq => ?_) (fun hq => absurd hrr.symm hq)
  exact W.widen (law_le4 hr1.2.2.1 hr2.2.2.1) (law_le5 hr1.2.2.2 hr2.2.2.2) (kk u2 H locs hI2 hP hD hS)
set_option maxHeartbeats 2000000 in
set_option maxRecDepth 20000 in
theorem law_c14 {p : Program} {l : Launch} {e : Env} {s : State} {m : MethodId} {below : List Frame} {meth : Method} {c : Code} {b L : Nat} {xs : Nat → Int32} {G : GT} {A : Nat → Prop} {x0 m0 i : Nat} {u : va_W} {H : Heap} {locs : List Loc} {cells slots : Nat} {Q : State → Prop} {ls : Array Slot} (C0 : lw_At p s m meth c b L xs) (hK : KK G s) (hN : NN s) (hSS : SS G.2.2.2.2.2 A s s.heap) (hA : ∀ q : Nat, s.heap.size ≤ q → A q) (hbA : ¬ A b) (hI : INV G x0 m0 u) (hP : va_P G.1 vwCl u H) (hD : va_D A u) (hS : va_S A s.heap H locs) (hl : lv_has ls 4 [(3, .int (nI i)), (2, .ref m0), (1, .ref x0), (0, .ref b)]) (hi : i + 2 < L) (hL : L ≤ 1536) (hc : cells + 18 ≤ 600000) (hs : slots + 1104 ≤ 7302250)
    (kk : ∀ (u : va_W) (H : Heap) (locs : List Loc), INV G x0 m0 u → va_P G.1 vwCl u H → va_D A u → va_S A s.heap H locs → W p l e room_1 s m #[Value.ref b] below meth c H locs (cells + 18) (slots + 1104) Q (F0 m 782 ls [])) : W p l e room_1 s m #[Value.ref b] below meth c H locs cells slots Q (F0 m 438 ls []) := by
  obtain ⟨hx, hb, hr, hml, hown, hts, hX, hbl, hlocks, hgv⟩ := id C0
  have hown : s.vm.findClass RL = some m.cls := hown
  have hLw : ∀ w ∈ wsL_law, w.before #[Value.ref b] s = true := fun w h => hts w (lin_all w h)
  obtain ⟨fs6, hm6⟩ := hI.cell
  obtain ⟨rm, hr1, hCX⟩ := bo_mssCount l hI
  refine lv_aload_n hx hb dL_law_438 rfl (lv_at hl 2 rfl) ?_
  refine callA_Vi (rest := []) (As := []) (c1 := cells + rm.cells) (s1 := slots + rm.slots) ⟨hx, hb, hml, hown, hLw⟩ hCX (cwV 0 hLw gL_law_X6_mssCount rfl rfl rfl (by decide +kernel) ⟨Nat.le_trans (Nat.add_le_add_right hr1.1 1) (Nat.le_of_ble_eq_true rfl), Nat.le_trans (Nat.add_le_add_left hr1.2.1 _) (Nat.le_of_ble_eq_true rfl)⟩) hK hN hSS hP hD hS hA 6 hm6 rfl rfl rfl hl.1 rfl (Nat.le_of_ble_eq_true rfl) dL_law_439 ⟨law_le hr1.2.2.1 hc, law_le hr1.2.2.2 hs⟩ rfl rfl (fun r1 u1 H locs hpo hP hD hS => ?_)
  obtain ⟨⟨fs7, hm7⟩, rm2, hr2, hCM⟩ := hpo
  refine lv_aload_n hx hb dL_law_442 rfl (lv_at hl 1 rfl) ?_
  refine callA_Vi (rest := [.int r1]) (As := []) (c1 := cells + rm.cells + rm2.cells) (s1 := slots + rm.slots + rm2.slots) ⟨hx, hb, hml, hown, hLw⟩ hCM (cwV 0 hLw gL_law_X7_mssCount rfl rfl rfl (by decide +kernel) ⟨Nat.le_trans (Nat.add_le_add_right hr2.1 1) (Nat.le_of_ble_eq_true rfl), Nat.le_trans (Nat.add_le_add_left hr2.2.1 _) (Nat.le_of_ble_eq_true rfl)⟩) hK hN hSS hP hD hS hA 7 hm7 rfl rfl rfl hl.1 rfl (Nat.le_of_ble_eq_true rfl) dL_law_443 ⟨law_le2 hr1.2.2.1 hr2.2.2.1 hc, law_le3 hr1.2.2.2 hr2.2.2.2 hs⟩ rfl rfl (fun r2 u2 H locs hpo hP hD hS => ?_)
  obtain ⟨hrr, hI2⟩ := hpo
  refine lv_icmp_eq (tgt := 782) hx hb dL_law_446 (by decide) (fun hq => ?_) (fun hq => absurd hrr.symm hq)
  exact W.widen (law_le4 hr1.2.2.1 hr2.2.2.1) (law_le5 hr1.2.2.2 hr2.2.2.2) (kk u2 H locs hI2 hP hD hS)
set_option maxHeartbeats 2000000 in
set_option maxRecDepth 20000 in
theorem law_c15 {p : Program} {l : Launch} {e : Env} {s : State} {m : MethodId} {below : List Frame} {meth : Method} {c : Code} {b L : Nat} {xs : Nat → Int32} {G : GT} {A : Nat → Prop} {x0 m0 i : Nat} {u : va_W} {H : Heap} {locs : List Loc} {cells slots : Nat} {Q : State → Prop} {ls : Array Slot} (C0 : lw_At p s m meth c b L xs) (hK : KK G s) (hN : NN s) (hSS : SS G.2.2.2.2.2 A s s.heap) (hA : ∀ q : Nat, s.heap.size ≤ q → A q) (hbA : ¬ A b) (hI : INV G x0 m0 u) (hP : va_P G.1 vwCl u H) (hD : va_D A u) (hS : va_S A s.heap H locs) (hl : lv_has ls 4 [(3, .int (nI i)), (2, .ref m0), (1, .ref x0), (0, .ref b)]) (hi : i + 2 < L) (hL : L ≤ 1536) (hc : cells + 18 ≤ 600000) (hs : slots + 1104 ≤ 7302250)
    (kk : ∀ (u : va_W) (H : Heap) (locs : List Loc), INV G x0 m0 u → va_P G.1 vwCl u H → va_D A u → va_S A s.heap H locs → W p l e room_1 s m #[Value.ref b] below meth c H locs (cells + 18) (slots + 1104) Q (F0 m 782 ls [])) : W p l e room_1 s m #[Value.ref b] below meth c H locs cells slots Q (F0 m 451 ls []) := by
  obtain ⟨hx, hb, hr, hml, hown, hts, hX, hbl, hlocks, hgv⟩ := id C0
  have hown : s.vm.findClass RL = some m.cls := hown
  have hLw : ∀ w ∈ wsL_law, w.before #[Value.ref b] s = true := fun w h => hts w (lin_all w h)
  obtain ⟨fs6, hm6⟩ := hI.cell
  obtain ⟨rm, hr1, hCX⟩ := bo_mss l hI (xs (i + 1))
  refine lv_aload_n hx hb dL_law_451 rfl (lv_at hl 2 rfl) ?_
  refine lv_aload_n hx hb dL_law_452 rfl (lv_at hl 3 rfl) ?_
  refine lv_iload_n hx hb dL_law_453 rfl (lv_at hl 0 rfl) ?_
  refine lv_iconst (v := 1) hx hb dL_law_454 (by decide) ?_
  refine wn_iadd hx hb i 1 rfl rfl dL_law_455 ?_
  refine law_ld hx hb hX hbl hbA hS hL (j := i + 1) (by omega) dL_law_456 ?_
  refine callA_Vi (rest := []) (As := [.int (xs (i + 1))]) (c1 := cells + rm.cells) (s1 := slots + rm.slots) ⟨hx, hb, hml, hown, hLw⟩ hCX (cwV 1 hLw gL_law_X6_mss rfl rfl rfl (by decide +kernel) ⟨Nat.le_trans (Nat.add_le_add_right hr1.1 1) (Nat.le_of_ble_eq_true rfl), Nat.le_trans (Nat.add_le_add_left hr1.2.1 _) (Nat.le_of_ble_eq_true rfl)⟩) hK hN hSS hP hD hS hA 6 hm6 rfl rfl rfl hl.1 rfl (Nat.le_of_ble_eq_true rfl) dL_law_457 ⟨law_le hr1.2.2.1 hc, law_le hr1.2.2.2 hs⟩ rfl rfl (fun r1 u1 H locs hpo hP hD hS => ?_)
  obtain ⟨⟨fs7, hm7⟩, rm2, hr2, hCM⟩ := hpo
  refine lv_aload_n hx hb dL_law_460 rfl (lv_at hl 1 rfl) ?_
  refine lv_aload_n hx hb dL_law_461 rfl (lv_at hl 3 rfl) ?_
  refine lv_iload_n hx hb dL_law_462 rfl (lv_at hl 0 rfl) ?_
  refine lv_iconst (v := 1) hx hb dL_law_463 (by decide) ?_
  refine wn_iadd hx hb i 1 rfl rfl dL_law_464 ?_
  refine law_ld hx hb hX hbl hbA hS hL (j := i + 1) (by omega) dL_law_465 ?_
  refine callA_Vi (rest := [.int r1]) (As := [.int (xs (i + 1))]) (c1 := cells + rm.cells + rm2.cells) (s1 := slots + rm.slots + rm2.slots) ⟨hx, hb, hml, hown, hLw⟩ hCM (cwV 1 hLw gL_law_X7_mss rfl rfl rfl (by decide +kernel) ⟨Nat.le_trans (Nat.add_le_add_right hr2.1 1) (Nat.le_of_ble_eq_true rfl), Nat.le_trans (Nat.add_le_add_left hr2.2.1 _) (Nat.le_of_ble_eq_true rfl)⟩) hK hN hSS hP hD hS hA 7 hm7 rfl rfl rfl hl.1 rfl (Nat.le_of_ble_eq_true rfl) dL_law_466 ⟨law_le2 hr1.2.2.1 hr2.2.2.1 hc, law_le3 hr1.2.2.2 hr2.2.2.2 hs⟩ rfl rfl (fun r2 u2 H locs hpo hP hD hS => ?_)
  obtain ⟨hrr, hI2⟩ := hpo
  refine lv_icmp_eq (tgt := 782) hx hb dL_law_469 (by decide) (fun hq => ?_) (fun hq => absurd hrr.symm hq)
  exact W.widen (law_le4 hr1.2.2.1 hr2.2.2.1) (law_le5 hr1.2.2.2 hr2.2.2.2) (kk u2 H locs hI2 hP hD hS)
