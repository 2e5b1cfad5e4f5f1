set_option maxHeartbeats 2000000 in
set_option maxRecDepth 20000 in
theorem law_c16 {p : Program} {l : Launch} {e : Env} {s : State} {m : MethodId} {below : List Frame} {meth : Method} {c : Code} {b L : Nat} {xs : Nat → Int32} {G : GT} {A : Nat → Prop} {x0 m0 i : Nat} {u : va_W} {H : Heap} {locs : List Loc} {cells slots : Nat} {Q : State → Prop} {ls : Array Slot} (C0 : lw_At p s m meth c b L xs) (hK : KK G s) (hN : NN s) (hSS : SS G.2.2.2.2.2 A s s.heap) (hA : ∀ q : Nat, s.heap.size ≤ q → A q) (hbA : ¬ A b) (hI : INV G x0 m0 u) (hP : va_P G.1 vwCl u H) (hD : va_D A u) (hS : va_S A s.heap H locs) (hl : lv_has ls 4 [(3, .int (nI i)), (2, .ref m0), (1, .ref x0), (0, .ref b)]) (hi : i + 2 < L) (hL : L ≤ 1536) (hc : cells + 18 ≤ 600000) (hs : slots + 1104 ≤ 7302250)
    (kk : ∀ (u : va_W) (H : Heap) (locs : List Loc), INV G x0 m0 u → va_P G.1 vwCl u H → va_D A u → va_S A s.heap H locs → W p l e room_1 s m #[Value.ref b] below meth c H locs (cells + 18) (slots + 1104) Q (F0 m 782 ls [])) : W p l e room_1 s m #[Value.ref b] below meth c H locs cells slots Q (F0 m 474 ls []) := by
  obtain ⟨hx, hb, hr, hml, hown, hts, hX, hbl, hlocks, hgv⟩ := id C0
  have hown : s.vm.findClass RL = some m.cls := hown
  have hLw : ∀ w ∈ wsL_law, w.before #[Value.ref b] s = true := fun w h => hts w (lin_all w h)
  obtain ⟨fs6, hm6⟩ := hI.cell
  obtain ⟨rm, hr1, hCX⟩ := bo_weight l hI (xs (i + 1))
  refine lv_aload_n hx hb dL_law_474 rfl (lv_at hl 2 rfl) ?_
  refine lv_aload_n hx hb dL_law_475 rfl (lv_at hl 3 rfl) ?_
  refine lv_iload_n hx hb dL_law_476 rfl (lv_at hl 0 rfl) ?_
  refine lv_iconst (v := 1) hx hb dL_law_477 (by decide) ?_
  refine wn_iadd hx hb i 1 rfl rfl dL_law_478 ?_
  refine law_ld hx hb hX hbl hbA hS hL (j := i + 1) (by omega) dL_law_479 ?_
  refine callA_Vi (rest := []) (As := [.int (xs (i + 1))]) (c1 := cells + rm.cells) (s1 := slots + rm.slots) ⟨hx, hb, hml, hown, hLw⟩ hCX (cwV 1 hLw gL_law_X6_weight rfl rfl rfl (by decide +kernel) ⟨Nat.le_trans (Nat.add_le_add_right hr1.1 1) (Nat.le_of_ble_eq_true rfl), Nat.le_trans (Nat.add_le_add_left hr1.2.1 _) (Nat.le_of_ble_eq_true rfl)⟩) hK hN hSS hP hD hS hA 6 hm6 rfl rfl rfl hl.1 rfl (Nat.le_of_ble_eq_true rfl) dL_law_480 ⟨law_le hr1.2.2.1 hc, law_le hr1.2.2.2 hs⟩ rfl rfl (fun r1 u1 H locs hpo hP hD hS => ?_)
  obtain ⟨⟨fs7, hm7⟩, rm2, hr2, hCM⟩ := hpo
  refine lv_aload_n hx hb dL_law_483 rfl (lv_at hl 1 rfl) ?_
  refine lv_aload_n hx hb dL_law_484 rfl (lv_at hl 3 rfl) ?_
  refine lv_iload_n hx hb dL_law_485 rfl (lv_at hl 0 rfl) ?_
  refine lv_iconst (v := 1) hx hb dL_law_486 (by decide) ?_
  refine wn_iadd hx hb i 1 rfl rfl dL_law_487 ?_
  refine law_ld hx hb hX hbl hbA hS hL (j := i + 1) (by omega) dL_law_488 ?_
  refine callA_Vi (rest := [.int r1]) (As := [.int (xs (i + 1))]) (c1 := cells + rm.cells + rm2.cells) (s1 := slots + rm.slots + rm2.slots) ⟨hx, hb, hml, hown, hLw⟩ hCM (cwV 1 hLw gL_law_X7_weight rfl rfl rfl (by decide +kernel) ⟨Nat.le_trans (Nat.add_le_add_right hr2.1 1) (Nat.le_of_ble_eq_true rfl), Nat.le_trans (Nat.add_le_add_left hr2.2.1 _) (Nat.le_of_ble_eq_true rfl)⟩) hK hN hSS hP hD hS hA 7 hm7 rfl rfl rfl hl.1 rfl (Nat.le_of_ble_eq_true rfl) dL_law_489 ⟨law_le2 hr1.2.2.1 hr2.2.2.1 hc, law_le3 hr1.2.2.2 hr2.2.2.2 hs⟩ rfl rfl (fun r2 u2 H locs hpo hP hD hS => ?_)
  obtain ⟨hrr, hI2⟩ := hpo
  refine lv_icmp_eq (tgt := 782) hx hb dL_law_492 (by decide) (fun hq => ?_) (fun hq => absurd hrr.symm hq)
  exact W.widen (law_le4 hr1.2.2.1 hr2.2.2.1) (law_le5 hr1.2.2.2 hr2.2.2.2) (kk u2 H locs hI2 hP hD hS)
set_option maxHeartbeats 2000000 in
set_option maxRecDepth 20000 in
theorem law_c17 {p : Program} {l : Launch} {e : Env} {s : State} {m : MethodId} {below : List Frame} {meth : Method} {c : Code} {b L : Nat} {xs : Nat → Int32} {G : GT} {A : Nat → Prop} {x0 m0 i : Nat} {u : va_W} {H : Heap} {locs : List Loc} {cells slots : Nat} {Q : State → Prop} {ls : Array Slot} (C0 : lw_At p s m meth c b L xs) (hK : KK G s) (hN : NN s) (hSS : SS G.2.2.2.2.2 A s s.heap) (hA : ∀ q : Nat, s.heap.size ≤ q → A q) (hbA : ¬ A b) (hI : INV G x0 m0 u) (hP : va_P G.1 vwCl u H) (hD : va_D A u) (hS : va_S A s.heap H locs) (hl : lv_has ls 4 [(3, .int (nI i)), (2, .ref m0), (1, .ref x0), (0, .ref b)]) (hi : i + 2 < L) (hL : L ≤ 1536) (hc : cells + 18 ≤ 600000) (hs : slots + 1104 ≤ 7302250)
    (kk : ∀ (u : va_W) (H : Heap) (locs : List Loc), INV G x0 m0 u → va_P G.1 vwCl u H → va_D A u → va_S A s.heap H locs → W p l e room_1 s m #[Value.ref b] below meth c H locs (cells + 18) (slots + 1104) Q (F0 m 782 ls [])) : W p l e room_1 s m #[Value.ref b] below meth c H locs cells slots Q (F0 m 497 ls []) := by
  obtain ⟨hx, hb, hr, hml, hown, hts, hX, hbl, hlocks, hgv⟩ := id C0
  have hown : s.vm.findClass RL = some m.cls := hown
  have hLw : ∀ w ∈ wsL_law, w.before #[Value.ref b] s = true := fun w h => hts w (lin_all w h)
  obtain ⟨fs6, hm6⟩ := hI.cell
  obtain ⟨rm, hr1, hCX⟩ := bo_violated l hI (xs (i + 1))
  refine lv_aload_n hx hb dL_law_497 rfl (lv_at hl 2 rfl) ?_
  refine lv_aload_n hx hb dL_law_498 rfl (lv_at hl 3 rfl) ?_
  refine lv_iload_n hx hb dL_law_499 rfl (lv_at hl 0 rfl) ?_
  refine lv_iconst (v := 1) hx hb dL_law_500 (by decide) ?_
  refine wn_iadd hx hb i 1 rfl rfl dL_law_501 ?_
  refine law_ld hx hb hX hbl hbA hS hL (j := i + 1) (by omega) dL_law_502 ?_
  refine callA_Vi (rest := []) (As := [.int (xs (i + 1))]) (c1 := cells + rm.cells) (s1 := slots + rm.slots) ⟨hx, hb, hml, hown, hLw⟩ hCX (cwV 1 hLw gL_law_X6_violated rfl rfl rfl (by decide +kernel) ⟨Nat.le_trans (Nat.add_le_add_right hr1.1 1) (Nat.le_of_ble_eq_true rfl), Nat.le_trans (Nat.add_le_add_left hr1.2.1 _) (Nat.le_of_ble_eq_true rfl)⟩) hK hN hSS hP hD hS hA 6 hm6 rfl rfl rfl hl.1 rfl (Nat.le_of_ble_eq_true rfl) dL_law_503 ⟨law_le hr1.2.2.1 hc, law_le hr1.2.2.2 hs⟩ rfl rfl (fun r1 u1 H locs hpo hP hD hS => ?_)
  obtain ⟨⟨fs7, hm7⟩, rm2, hr2, hCM⟩ := hpo
  refine lv_aload_n hx hb dL_law_506 rfl (lv_at hl 1 rfl) ?_
  refine lv_aload_n hx hb dL_law_507 rfl (lv_at hl 3 rfl) ?_
  refine lv_iload_n hx hb dL_law_508 rfl (lv_at hl 0 rfl) ?_
  refine lv_iconst (v := 1) hx hb dL_law_509 (by decide) ?_
  refine wn_iadd hx hb i 1 rfl rfl dL_law_510 ?_
  refine law_ld hx hb hX hbl hbA hS hL (j := i + 1) (by omega) dL_law_511 ?_
  refine callA_Vi (rest := [.int r1]) (As := [.int (xs (i + 1))]) (c1 := cells + rm.cells + rm2.cells) (s1 := slots + rm.slots + rm2.slots) ⟨hx, hb, hml, hown, hLw⟩ hCM (cwV 1 hLw gL_law_X7_violated rfl rfl rfl (by decide +kernel) ⟨Nat.le_trans (Nat.add_le_add_right hr2.1 1) (Nat.le_of_ble_eq_true rfl), Nat.le_trans (Nat.add_le_add_left hr2.2.1 _) (Nat.le_of_ble_eq_true rfl)⟩) hK hN hSS hP hD hS hA 7 hm7 rfl rfl rfl hl.1 rfl (Nat.le_of_ble_eq_true rfl) dL_law_512 ⟨law_le2 hr1.2.2.1 hr2.2.2.1 hc, law_le3 hr1.2.2.2 hr2.2.2.2 hs⟩ rfl rfl (fun r2 u2 H locs hpo hP hD hS => ?_)
  obtain ⟨hrr, hI2⟩ := hpo
  refine lv_icmp_eq (tgt := 782) hx hb dL_law_515 (by decide) (fun hq => ?_) (fun hq => absurd hrr.symm hq)
  exact W.widen (law_le4 hr1.2.2.1 hr2.2.2.1) (law_le5 hr1.2.2.2 hr2.2.2.2) (kk u2 H locs hI2 hP hD hS)
set_option maxHeartbeats 2000000 in
set_option maxRecDepth 20000 in
theorem law_c18 {p : Program} {l : Launch} {e : Env} {s : State} {m : MethodId} {below : List Frame} {meth : Method} {c : Code} {b L : Nat} {xs : Nat → Int32} {G : GT} {A : Nat → Prop} {x0 m0 i : Nat} {u : va_W} {H : Heap} {locs : List Loc} {cells slots : Nat} {Q : State → Prop} {ls : Array Slot} (C0 : lw_At p s m meth c b L xs) (hK : KK G s) (hN : NN s) (hSS : SS G.2.2.2.2.2 A s s.heap) (hA : ∀ q : Nat, s.heap.size ≤ q → A q) (hbA : ¬ A b) (hI : INV G x0 m0 u) (hP : va_P G.1 vwCl u H) (hD : va_D A u) (hS : va_S A s.heap H locs) (hl : lv_has ls 4 [(3, .int (nI i)), (2, .ref m0), (1, .ref x0), (0, .ref b)]) (hi : i + 2 < L) (hL : L ≤ 1536) (hc : cells + 18 ≤ 600000) (hs : slots + 1104 ≤ 7302250)
    (kk : ∀ (u : va_W) (H : Heap) (locs : List Loc), INV G x0 m0 u → va_P G.1 vwCl u H → va_D A u → va_S A s.heap H locs → W p l e room_1 s m #[Value.ref b] below meth c H locs (cells + 18) (slots + 1104) Q (F0 m 782 ls [])) : W p l e room_1 s m #[Value.ref b] below meth c H locs cells slots Q (F0 m 520 ls []) := by
  obtain ⟨hx, hb, hr, hml, hown, hts, hX, hbl, hlocks, hgv⟩ := id C0
  have hown : s.vm.findClass RL = some m.cls := hown
  have hLw : ∀ w ∈ wsL_law, w.before #[Value.ref b] s = true := fun w h => hts w (lin_all w h)
  obtain ⟨fs6, hm6⟩ := hI.cell
  obtain ⟨rm, hr1, hCX⟩ := bo_modelCount l hI (xs (i + 1))
  refine lv_aload_n hx hb dL_law_520 rfl (lv_at hl 2 rfl) ?_
  refine lv_aload_n hx hb dL_law_521 rfl (lv_at hl 3 rfl) ?_
  refine lv_iload_n hx hb dL_law_522 rfl (lv_at hl 0 rfl) ?_
  refine lv_iconst (v := 1) hx hb dL_law_523 (by decide) ?_
  refine wn_iadd hx hb i 1 rfl rfl dL_law_524 ?_
  refine law_ld hx hb hX hbl hbA hS hL (j := i + 1) (by omega) dL_law_525 ?_
  refine callA_Vi (rest := []) (As := [.int (xs (i + 1))]) (c1 := cells + rm.cells) (s1 := slots + rm.slots) ⟨hx, hb, hml, hown, hLw⟩ hCX (cwV 1 hLw gL_law_X6_modelCount rfl rfl rfl (by decide +kernel) ⟨Nat.le_trans (Nat.add_le_add_right hr1.1 1) (Nat.le_of_ble_eq_true rfl), Nat.le_trans (Nat.add_le_add_left hr1.2.1 _) (Nat.le_of_ble_eq_true rfl)⟩) hK hN hSS hP hD hS hA 6 hm6 rfl rfl rfl hl.1 rfl (Nat.le_of_ble_eq_true rfl) dL_law_526 ⟨law_le hr1.2.2.1 hc, law_le hr1.2.2.2 hs⟩ rfl rfl (fun r1 u1 H locs hpo hP hD hS => ?_)
  obtain ⟨⟨fs7, hm7⟩, rm2, hr2, hCM⟩ := hpo
  refine lv_aload_n hx hb dL_law_529 rfl (lv_at hl 1 rfl) ?_
  refine lv_aload_n hx hb dL_law_530 rfl (lv_at hl 3 rfl) ?_
  refine lv_iload_n hx hb dL_law_531 rfl (lv_at hl 0 rfl) ?_
  refine lv_iconst (v := 1) hx hb dL_law_532 (by decide) ?_
  refine wn_iadd hx hb i 1 rfl rfl dL_law_533 ?_
  refine law_ld hx hb hX hbl hbA hS hL (j := i + 1) (by omega) dL_law_534 ?_
  refine callA_Vi (rest := [.int r1]) (As := [.int (xs (i + 1))]) (c1 := cells + rm.cells + rm2.cells) (s1 := slots + rm.slots + rm2.slots) ⟨hx, hb, hml, hown, hLw⟩ hCM (cwV 1 hLw gL_law_X7_modelCount rfl rfl rfl (by decide +kernel) ⟨Nat.le_trans (Nat.add_le_add_right hr2.1 1) (Nat.le_of_ble_eq_true rfl), Nat.le_trans (Nat.add_le_add_left hr2.2.1 _) (Nat.le_of_ble_eq_true rfl)⟩) hK hN hSS hP hD hS hA 7 hm7 rfl rfl rfl hl.1 rfl (Nat.le_of_ble_eq_true rfl) dL_law_535 ⟨law_le2 hr1.2.2.1 hr2.2.2.1 hc, law_le3 hr1.2.2.2 hr2.2.2.2 hs⟩ rfl rfl (fun r2 u2 H locs hpo hP hD hS => ?_)
  obtain ⟨hrr, hI2⟩ := hpo
  refine lv_icmp_eq (tgt := 782) hx hb dL_law_538 (by decide) (fun hq => ?_) (fun hq => absurd hrr.symm hq)
  exact W.widen (law_le4 hr1.2.2.1 hr2.2.2.1) (law_le5 hr1.2.2.2 hr2.2.2.2) (kk u2 H locs hI2 hP hD hS)
set_option maxHeartbeats 2000000 in
set_option maxRecDepth 20000 in
theorem law_c19 {p : Program} {l : Launch} {e : Env} {s : State} {m : MethodId} {below : List Frame} {meth : Method} {c : Code} {b L : Nat} {xs : Nat → Int32} {G : GT} {A : Nat → Prop} {x0 m0 i : Nat} {u : va_W} {H : Heap} {locs : List Loc} {cells slots : Nat} {Q : State → Prop} {ls : Array Slot} (C0 : lw_At p s m meth c b L xs) (hK : KK G s) (hN : NN s) (hSS : SS G.2.2.2.2.2 A s s.heap) (hA : ∀ q : Nat, s.heap.size ≤ q → A q) (hbA : ¬ A b) (hI : INV G x0 m0 u) (hP : va_P G.1 vwCl u H) (hD : va_D A u) (hS : va_S A s.heap H locs) (hl : lv_has ls 4 [(3, .int (nI i)), (2, .ref m0), (1, .ref x0), (0, .ref b)]) (hi : i + 2 < L) (hL : L ≤ 1536) (hc : cells + 18 ≤ 600000) (hs : slots + 1104 ≤ 7302250)
    (kk : ∀ (u : va_W) (H : Heap) (locs : List Loc), INV G x0 m0 u → va_P G.1 vwCl u H → va_D A u → va_S A s.heap H locs → W p l e room_1 s m #[Value.ref b] below meth c H locs (cells + 18) (slots + 1104) Q (F0 m 782 ls [])) : W p l e room_1 s m #[Value.ref b] below meth c H locs cells slots Q (F0 m 543 ls []) := by
  obtain ⟨hx, hb, hr, hml, hown, hts, hX, hbl, hlocks, hgv⟩ := id C0
  have hown : s.vm.findClass RL = some m.cls := hown
  have hLw : ∀ w ∈ wsL_law, w.before #[Value.ref b] s = true := fun w h => hts w (lin_all w h)
  obtain ⟨fs6, hm6⟩ := hI.cell
  obtain ⟨rm, hr1, hCX⟩ := bo_firstModel l hI (xs (i + 1))
  refine lv_aload_n hx hb dL_law_543 rfl (lv_at hl 2 rfl) ?_
  refine lv_aload_n hx hb dL_law_544 rfl (lv_at hl 3 rfl) ?_
  refine lv_iload_n hx hb dL_law_545 rfl (lv_at hl 0 rfl) ?_
  refine lv_iconst (v := 1) hx hb dL_law_546 (by decide) ?_
  refine wn_iadd hx hb i 1 rfl rfl dL_law_547 ?_
  refine law_ld hx hb hX hbl hbA hS hL (j := i + 1) (by omega) dL_law_548 ?_
  refine callA_Vi (rest := []) (As := [.int (xs (i + 1))]) (c1 := cells + rm.cells) (s1 := slots + rm.slots) ⟨hx, hb, hml, hown, hLw⟩ hCX (cwV 1 hLw gL_law_X6_firstModel rfl rfl rfl (by decide +kernel) ⟨Nat.le_trans (Nat.add_le_add_right hr1.1 1) (Nat.le_of_ble_eq_true rfl), Nat.le_trans (Nat.add_le_add_left hr1.2.1 _) (Nat.le_of_ble_eq_true rfl)⟩) hK hN hSS hP hD hS hA 6 hm6 rfl rfl rfl hl.1 rfl (Nat.le_of_ble_eq_true rfl) dL_law_549 ⟨law_le hr1.2.2.1 hc, law_le hr1.2.2.2 hs⟩ rfl rfl (fun r1 u1 H locs hpo hP hD hS => ?_)
  obtain ⟨⟨fs7, hm7⟩, rm2, hr2, hCM⟩ := hpo
  refine lv_aload_n hx hb dL_law_552 rfl (lv_at hl 1 rfl) ?_
  refine lv_aload_n hx hb dL_law_553 rfl (lv_at hl 3 rfl) ?_
  refine lv_iload_n hx hb dL_law_554 rfl (lv_at hl 0 rfl) ?_
  refine lv_iconst (v := 1) hx hb dL_law_555 (by decide) ?_
  refine wn_iadd hx hb i 1 rfl rfl dL_law_556 ?_
  refine law_ld hx hb hX hbl hbA hS hL (j := i + 1) (by omega) dL_law_557 ?_
  refine callA_Vi (rest := [.int r1]) (As := [.int (xs (i + 1))]) (c1 := cells + rm.cells + rm2.cells) (s1 := slots + rm.slots + rm2.slots) ⟨hx, hb, hml, hown, hLw⟩ hCM (cwV 1 hLw gL_law_X7_firstModel rfl rfl rfl (by decide +kernel) ⟨Nat.le_trans (Nat.add_le_add_right hr2.1 1) (Nat.le_of_ble_eq_true rfl), Nat.le_trans (Nat.add_le_add_left hr2.2.1 _) (Nat.le_of_ble_eq_true rfl)⟩) hK hN hSS hP hD hS hA 7 hm7 rfl rfl rfl hl.1 rfl (Nat.le_of_ble_eq_true rfl) dL_law_558 ⟨law_le2 hr1.2.2.1 hr2.2.2.1 hc, law_le3 hr1.2.2.2 hr2.2.2.2 hs⟩ rfl rfl (fun r2 u2 H locs hpo hP hD hS => ?_)
  obtain ⟨hrr, hI2⟩ := hpo
  refine lv_icmp_eq (tgt := 782) hx hb dL_law_561 (by decide) (fun hq => ?_) (fun hq => absurd hrr.symm hq)
  exact W.widen (law_le4 hr1.2.2.1 hr2.2.2.1) (law_le5 hr1.2.2.2 hr2.2.2.2) (kk u2 H locs hI2 hP hD hS)
set_option maxHeartbeats 2000000 in
set_option maxRecDepth 20000 in
theorem law_c20 {p : Program} {l : Launch} {e : Env} {s : State} {m : MethodId} {below : List Frame} {meth : Method} {c : Code} {b L : Nat} {xs : Nat → Int32} {G : GT} {A : Nat → Prop} {x0 m0 i : Nat} {u : va_W} {H : Heap} {locs : List Loc} {cells slots : Nat} {Q : State → Prop} {ls : Array Slot} (C0 : lw_At p s m meth c b L xs) (hK : KK G s) (hN : NN s) (hSS : SS G.2.2.2.2.2 A s s.heap) (hA : ∀ q : Nat, s.heap.size ≤ q → A q) (hbA : ¬ A b) (hI : INV G x0 m0 u) (hP : va_P G.1 vwCl u H) (hD : va_D A u) (hS : va_S A s.heap H locs) (hl : lv_has ls 4 [(3, .int (nI i)), (2, .ref m0), (1, .ref x0), (0, .ref b)]) (hi : i + 2 < L) (hL : L ≤ 1536) (hc : cells + 18 ≤ 600000) (hs : slots + 1104 ≤ 7302250)
    (kk : ∀ (u : va_W) (H : Heap) (locs : List Loc), INV G x0 m0 u → va_P G.1 vwCl u H → va_D A u → va_S A s.heap H locs → W p l e room_1 s m #[Value.ref b] below meth c H locs (cells + 18) (slots + 1104) Q (F0 m 782 ls [])) : W p l e room_1 s m #[Value.ref b] below meth c H locs cells slots Q (F0 m 566 ls []) := by
  obtain ⟨hx, hb, hr, hml, hown, hts, hX, hbl, hlocks, hgv⟩ := id C0
  have hown : s.vm.findClass RL = some m.cls := hown
  have hLw : ∀ w ∈ wsL_law, w.before #[Value.ref b] s = true := fun w h => hts w (lin_all w h)
  obtain ⟨fs6, hm6⟩ := hI.cell
  obtain ⟨rm, hr1, hCX⟩ := bo_grown l hI (xs (i + 1))
  refine lv_aload_n hx hb dL_law_566 rfl (lv_at hl 2 rfl) ?_
  refine lv_aload_n hx hb dL_law_567 rfl (lv_at hl 3 rfl) ?_
  refine lv_iload_n hx hb dL_law_568 rfl (lv_at hl 0 rfl) ?_
  refine lv_iconst (v := 1) hx hb dL_law_569 (by decide) ?_
  refine wn_iadd hx hb i 1 rfl rfl dL_law_570 ?_
  refine law_ld hx hb hX hbl hbA hS hL (j := i + 1) (by omega) dL_law_571 ?_
  refine callA_Vi (rest := []) (As := [.int (xs (i + 1))]) (c1 := cells + rm.cells) (s1 := slots + rm.slots) ⟨hx, hb, hml, hown, hLw⟩ hCX (cwV 1 hLw gL_law_X6_grown rfl rfl rfl (by decide +kernel) ⟨Nat.le_trans (Nat.add_le_add_right hr1.1 1) (Nat.le_of_ble_eq_true rfl), Nat.le_trans (Nat.add_le_add_left hr1.2.1 _) (Nat.le_of_ble_eq_true rfl)⟩) hK hN hSS hP hD hS hA 6 hm6 rfl rfl rfl hl.1 rfl (Nat.le_of_ble_eq_true rfl) dL_law_572 ⟨law_le hr1.2.2.1 hc, law_le hr1.2.2.2 hs⟩ rfl rfl (fun r1 u1 H locs hpo hP hD hS => ?_)
  obtain ⟨⟨fs7, hm7⟩, rm2, hr2, hCM⟩ := hpo
  refine lv_aload_n hx hb dL_law_575 rfl (lv_at hl 1 rfl) ?_
  refine lv_aload_n hx hb dL_law_576 rfl (lv_at hl 3 rfl) ?_
  refine lv_iload_n hx hb dL_law_577 rfl (lv_at hl 0 rfl) ?_
  refine lv_iconst (v := 1) hx hb dL_law_578 (by decide) ?_
  refine wn_iadd hx hb i 1 rfl rfl dL_law_579 ?_
  refine law_ld hx hb hX hbl hbA hS hL (j := i + 1) (by omega) dL_law_580 ?_
  refine callA_Vi (rest := [.int r1]) (As := [.int (xs (i + 1))]) (c1 := cells + rm.cells + rm2.cells) (s1 := slots + rm.slots + rm2.slots) ⟨hx, hb, hml, hown, hLw⟩ hCM (cwV 1 hLw gL_law_X7_grown rfl rfl rfl (by decide +kernel) ⟨Nat.le_trans (Nat.add_le_add_right hr2.1 1) (Nat.le_of_ble_eq_true rfl), Nat.le_trans (Nat.add_le_add_left hr2.2.1 _) (Nat.le_of_ble_eq_true rfl)⟩) hK hN hSS hP hD hS hA 7 hm7 rfl rfl rfl hl.1 rfl (Nat.le_of_ble_eq_true rfl) dL_law_581 ⟨law_le2 hr1.2.2.1 hr2.2.2.1 hc, law_le3 hr1.2.2.2 hr2.2.2.2 hs⟩ rfl rfl (fun r2 u2 H locs hpo hP hD hS => ?_)
  obtain ⟨hrr, hI2⟩ := hpo
  refine lv_icmp_eq (tgt := 782) hx hb dL_law_584 (by decide) (fun hq => ?_) (fun hq => absurd hrr.symm hq)
  exact W.widen (law_le4 hr1.2.2.1 hr2.2.2.1) (law_le5 hr1.2.2.2 hr2.2.2.2) (kk u2 H locs hI2 hP hD hS)
set_option maxHeartbeats 2000000 in
set_option maxRecDepth 20000 in
theorem law_c21 {p : Program} {l : Launch} {e : Env} {s : State} {m : MethodId} {below : List Frame} {meth : Method} {c : Code} {b L : Nat} {xs : Nat → Int32} {G : GT} {A : Nat → Prop} {x0 m0 i : Nat} {u : va_W} {H : Heap} {locs : List Loc} {cells slots : Nat} {Q : State → Prop} {ls : Array Slot} (C0 : lw_At p s m meth c b L xs) (hK : KK G s) (hN : NN s) (hSS : SS G.2.2.2.2.2 A s s.heap) (hA : ∀ q : Nat, s.heap.size ≤ q → A q) (hbA : ¬ A b) (hI : INV G x0 m0 u) (hP : va_P G.1 vwCl u H) (hD : va_D A u) (hS : va_S A s.heap H locs) (hl : lv_has ls 4 [(3, .int (nI i)), (2, .ref m0), (1, .ref x0), (0, .ref b)]) (hi : i + 2 < L) (hL : L ≤ 1536) (hc : cells + 18 ≤ 600000) (hs : slots + 1104 ≤ 7302250)
    (kk : ∀ (u : va_W) (H : Heap) (locs : List Loc), INV G x0 m0 u → va_P G.1 vwCl u H → va_D A u → va_S A s.heap H locs → W p l e room_1 s m #[Value.ref b] below meth c H locs (cells + 18) (slots + 1104) Q (F0 m 782 ls [])) : W p l e room_1 s m #[Value.ref b] below meth c H locs cells slots Q (F0 m 589 ls []) := by
  obtain ⟨hx, hb, hr, hml, hown, hts, hX, hbl, hlocks, hgv⟩ := id C0
  have hown : s.vm.findClass RL = some m.cls := hown
  have hLw : ∀ w ∈ wsL_law, w.before #[Value.ref b] s = true := fun w h => hts w (lin_all w h)
  obtain ⟨fs6, hm6⟩ := hI.cell
  obtain ⟨rm, hr1, hCX⟩ := bo_shrunk l hI (xs (i + 1))
  refine lv_aload_n hx hb dL_law_589 rfl (lv_at hl 2 rfl) ?_
  refine lv_aload_n hx hb dL_law_590 rfl (lv_at hl 3 rfl) ?_
  refine lv_iload_n hx hb dL_law_591 rfl (lv_at hl 0 rfl) ?_
  refine lv_iconst (v := 1) hx hb dL_law_592 (by decide) ?_
  refine wn_iadd hx hb i 1 rfl rfl dL_law_593 ?_
  refine law_ld hx hb hX hbl hbA hS hL (j := i + 1) (by omega) dL_law_594 ?_
  refine callA_Vi (rest := []) (As := [.int (xs (i + 1))]) (c1 := cells + rm.cells) (s1 := slots + rm.slots) ⟨hx, hb, hml, hown, hLw⟩ hCX (cwV 1 hLw gL_law_X6_shrunk rfl rfl rfl (by decide +kernel) ⟨Nat.le_trans (Nat.add_le_add_right hr1.1 1) (Nat.le_of_ble_eq_true rfl), Nat.le_trans (Nat.add_le_add_left hr1.2.1 _) (Nat.le_of_ble_eq_true rfl)⟩) hK hN hSS hP hD hS hA 6 hm6 rfl rfl rfl hl.1 rfl (Nat.le_of_ble_eq_true rfl) dL_law_595 ⟨law_le hr1.2.2.1 hc, law_le hr1.2.2.2 hs⟩ rfl rfl (fun r1 u1 H locs hpo hP hD hS => ?_)
  obtain ⟨⟨fs7, hm7⟩, rm2, hr2, hCM⟩ := hpo
  refine lv_aload_n hx hb dL_law_598 rfl (lv_at hl 1 rfl) ?_
  refine lv_aload_n hx hb dL_law_599 rfl (lv_at hl 3 rfl) ?_
  refine lv_iload_n hx hb dL_law_600 rfl (lv_at hl 0 rfl) ?_
  refine lv_iconst (v := 1) hx hb dL_law_601 (by decide) ?_
  refine wn_iadd hx hb i 1 rfl rfl dL_law_602 ?_
  refine law_ld hx hb hX hbl hbA hS hL (j := i + 1) (by omega) dL_law_603 ?_
  refine callA_Vi (rest := [.int r1]) (As := [.int (xs (i + 1))]) (c1 := cells + rm.cells + rm2.cells) (s1 := slots + rm.slots + rm2.slots) ⟨hx, hb, hml, hown, hLw⟩ hCM (cwV 1 hLw gL_law_X7_shrunk rfl rfl rfl (by decide +kernel) ⟨Nat.le_trans (Nat.add_le_add_right hr2.1 1) (Nat.le_of_ble_eq_true rfl), Nat.le_trans (Nat.add_le_add_left hr2.2.1 _) (Nat.le_of_ble_eq_true rfl)⟩) hK hN hSS hP hD hS hA 7 hm7 rfl rfl rfl hl.1 rfl (Nat.le_of_ble_eq_true rfl) dL_law_604 ⟨law_le2 hr1.2.2.1 hr2.2.2.1 hc, law_le3 hr1.2.2.2 hr2.2.2.2 hs⟩ rfl rfl (fun r2 u2 H locs hpo hP hD hS => ?_)
  obtain ⟨hrr, hI2⟩ := hpo
  refine lv_icmp_eq (tgt := 782) hx hb dL_law_607 (by decide) (fun hq => ?_) (fun hq => absurd hrr.symm hq)
  exact W.widen (law_le4 hr1.2.2.1 hr2.2.2.1) (law_le5 hr1.2.2.2 hr2.2.2.2) (kk u2 H locs hI2 hP hD hS)
set_option maxHeartbeats 2000000 in
set_option maxRecDepth 20000 in
theorem law_c22 {p : Program} {l : Launch} {e : Env} {s : State} {m : MethodId} {below : List Frame} {meth : Method} {c : Code} {b L : Nat} {xs : Nat → Int32} {G : GT} {A : Nat → Prop} {x0 m0 i : Nat} {u : va_W} {H : Heap} {locs : List Loc} {cells slots : Nat} {Q : State → Prop} {ls : Array Slot} (C0 : lw_At p s m meth c b L xs) (hK : KK G s) (hN : NN s) (hSS : SS G.2.2.2.2.2 A s s.heap) (hA : ∀ q : Nat, s.heap.size ≤ q → A q) (hbA : ¬ A b) (hI : INV G x0 m0 u) (hP : va_P G.1 vwCl u H) (hD : va_D A u) (hS : va_S A s.heap H locs) (hl : lv_has ls 4 [(3, .int (nI i)), (2, .ref m0), (1, .ref x0), (0, .ref b)]) (hi : i + 2 < L) (hL : L ≤ 1536) (hc : cells + 18 ≤ 600000) (hs : slots + 1104 ≤ 7302250)
    (kk : ∀ (u : va_W) (H : Heap) (locs : List Loc), INV G x0 m0 u → va_P G.1 vwCl u H → va_D A u → va_S A s.heap H locs → W p l e room_1 s m #[Value.ref b] below meth c H locs (cells + 18) (slots + 1104) Q (F0 m 782 ls [])) : W p l e room_1 s m #[Value.ref b] below meth c H locs cells slots Q (F0 m 612 ls []) := by
  obtain ⟨hx, hb, hr, hml, hown, hts, hX, hbl, hlocks, hgv⟩ := id C0
  have hown : s.vm.findClass RL = some m.cls := hown
  have hLw : ∀ w ∈ wsL_law, w.before #[Value.ref b] s = true := fun w h => hts w (lin_all w h)
  obtain ⟨fs6, hm6⟩ := hI.cell
  obtain ⟨rm, hr1, hCX⟩ := bo_critical l hI (xs (i + 1))
  refine lv_aload_n hx hb dL_law_612 rfl (lv_at hl 2 rfl) ?_
  refine lv_aload_n hx hb dL_law_613 rfl (lv_at hl 3 rfl) ?_
  refine lv_iload_n hx hb dL_law_614 rfl (lv_at hl 0 rfl) ?_
  refine lv_iconst (v := 1) hx hb dL_law_615 (by decide) ?_
  refine wn_iadd hx hb i 1 rfl rfl dL_law_616 ?_
  refine law_ld hx hb hX hbl hbA hS hL (j := i + 1) (by omega) dL_law_617 ?_
  refine callA_Vi (rest := []) (As := [.int (xs (i + 1))]) (c1 := cells + rm.cells) (s1 := slots + rm.slots) ⟨hx, hb, hml, hown, hLw⟩ hCX (cwV 1 hLw gL_law_X6_critical rfl rfl rfl (by decide +kernel) ⟨Nat.le_trans (Nat.add_le_add_right hr1.1 1) (Nat.le_of_ble_eq_true rfl), Nat.le_trans (Nat.add_le_add_left hr1.2.1 _) (Nat.le_of_ble_eq_true rfl)⟩) hK hN hSS hP hD hS hA 6 hm6 rfl rfl rfl hl.1 rfl (Nat.le_of_ble_eq_true rfl) dL_law_618 ⟨law_le hr1.2.2.1 hc, law_le hr1.2.2.2 hs⟩ rfl rfl (fun r1 u1 H locs hpo hP hD hS => ?_)
  obtain ⟨⟨fs7, hm7⟩, rm2, hr2, hCM⟩ := hpo
  refine lv_aload_n hx hb dL_law_621 rfl (lv_at hl 1 rfl) ?_
  refine lv_aload_n hx hb dL_law_622 rfl (lv_at hl 3 rfl) ?_
  refine lv_iload_n hx hb dL_law_623 rfl (lv_at hl 0 rfl) ?_
  refine lv_iconst (v := 1) hx hb dL_law_624 (by decide) ?_
  refine wn_iadd hx hb i 1 rfl rfl dL_law_625 ?_
  refine law_ld hx hb hX hbl hbA hS hL (j := i + 1) (by omega) dL_law_626 ?_
  refine callA_Vi (rest := [.int r1]) (As := [.int (xs (i + 1))]) (c1 := cells + rm.cells + rm2.cells) (s1 := slots + rm.slots + rm2.slots) ⟨hx, hb, hml, hown, hLw⟩ hCM (cwV 1 hLw gL_law_X7_critical rfl rfl rfl (by decide +kernel) ⟨Nat.le_trans (Nat.add_le_add_right hr2.1 1) (Nat.le_of_ble_eq_true rfl), Nat.le_trans (Nat.add_le_add_left hr2.2.1 _) (Nat.le_of_ble_eq_true rfl)⟩) hK hN hSS hP hD hS hA 7 hm7 rfl rfl rfl hl.1 rfl (Nat.le_of_ble_eq_true rfl) dL_law_627 ⟨law_le2 hr1.2.2.1 hr2.2.2.1 hc, law_le3 hr1.2.2.2 hr2.2.2.2 hs⟩ rfl rfl (fun r2 u2 H locs hpo hP hD hS => ?_)
  obtain ⟨hrr, hI2⟩ := hpo
  refine lv_icmp_eq (tgt := 782) hx hb dL_law_630 (by decide) (fun hq => ?_) (fun hq => absurd hrr.symm hq)
  exact W.widen (law_le4 hr1.2.2.1 hr2.2.2.1) (law_le5 hr1.2.2.2 hr2.2.2.2) (kk u2 H locs hI2 hP hD hS)
set_option maxHeartbeats 2000000 in
set_option maxRecDepth 20000 in
theorem law_c23 {p : Program} {l : Launch} {e : Env} {s : State} {m : MethodId} {below : List Frame} {meth : Method} {c : Code} {b L : Nat} {xs : Nat → Int32} {G : GT} {A : Nat → Prop} {x0 m0 i : Nat} {u : va_W} {H : Heap} {locs : List Loc} {cells slots : Nat} {Q : State → Prop} {ls : Array Slot} (C0 : lw_At p s m meth c b L xs) (hK : KK G s) (hN : NN s) (hSS : SS G.2.2.2.2.2 A s s.heap) (hA : ∀ q : Nat, s.heap.size ≤ q → A q) (hbA : ¬ A b) (hI : INV G x0 m0 u) (hP : va_P G.1 vwCl u H) (hD : va_D A u) (hS : va_S A s.heap H locs) (hl : lv_has ls 4 [(3, .int (nI i)), (2, .ref m0), (1, .ref x0), (0, .ref b)]) (hi : i + 2 < L) (hL : L ≤ 1536) (hc : cells + 18 ≤ 600000) (hs : slots + 1104 ≤ 7302250)
    (kk : ∀ (u : va_W) (H : Heap) (locs : List Loc), INV G x0 m0 u → va_P G.1 vwCl u H → va_D A u → va_S A s.heap H locs → W p l e room_1 s m #[Value.ref b] below meth c H locs (cells + 18) (slots + 1104) Q (F0 m 782 ls [])) : W p l e room_1 s m #[Value.ref b] below meth c H locs cells slots Q (F0 m 635 ls []) := by
  obtain ⟨hx, hb, hr, hml, hown, hts, hX, hbl, hlocks, hgv⟩ := id C0
  have hown : s.vm.findClass RL = some m.cls := hown
  have hLw : ∀ w ∈ wsL_law, w.before #[Value.ref b] s = true := fun w h => hts w (lin_all w h)
  obtain ⟨fs6, hm6⟩ := hI.cell
  obtain ⟨rm, hr1, hCX⟩ := bo_smallestHittingSet l hI
  refine lv_aload_n hx hb dL_law_635 rfl (lv_at hl 2 rfl) ?_
  refine callA_Vi (rest := []) (As := []) (c1 := cells + rm.cells) (s1 := slots + rm.slots) ⟨hx, hb, hml, hown, hLw⟩ hCX (cwV 0 hLw gL_law_X6_smallestHittingSet rfl rfl rfl (by decide +kernel) ⟨Nat.le_trans (Nat.add_le_add_right hr1.1 1) (Nat.le_of_ble_eq_true rfl), Nat.le_trans (Nat.add_le_add_left hr1.2.1 _) (Nat.le_of_ble_eq_true rfl)⟩) hK hN hSS hP hD hS hA 6 hm6 rfl rfl rfl hl.1 rfl (Nat.le_of_ble_eq_true rfl) dL_law_636 ⟨law_le hr1.2.2.1 hc, law_le hr1.2.2.2 hs⟩ rfl rfl (fun r1 u1 H locs hpo hP hD hS => ?_)
  obtain ⟨⟨fs7, hm7⟩, rm2, hr2, hCM⟩ := hpo
  refine lv_aload_n hx hb dL_law_639 rfl (lv_at hl 1 rfl) ?_
  refine callA_Vi (rest := [.int r1]) (As := []) (c1 := cells + rm.cells + rm2.cells) (s1 := slots + rm.slots + rm2.slots) ⟨hx, hb, hml, hown, hLw⟩ hCM (cwV 0 hLw gL_law_X7_smallestHittingSet rfl rfl rfl (by decide +kernel) ⟨Nat.le_trans (Nat.add_le_add_right hr2.1 1) (Nat.le_of_ble_eq_true rfl), Nat.le_trans (Nat.add_le_add_left hr2.2.1 _) (Nat.le_of_ble_eq_true rfl)⟩) hK hN hSS hP hD hS hA 7 hm7 rfl rfl rfl hl.1 rfl (Nat.le_of_ble_eq_true rfl) dL_law_640 ⟨law_le2 hr1.2.2.1 hr2.2.2.1 hc, law_le3 hr1.2.2.2 hr2.2.2.2 hs⟩ rfl rfl (fun r2 u2 H locs hpo hP hD hS => ?_)
  obtain ⟨hrr, hI2⟩ := hpo
  refine lv_icmp_eq (tgt := 782) hx hb dL_law_643 (by decide) (fun hq => ?_) (fun hq => absurd hrr.symm hq)
  exact W.widen (law_le4 hr1.2.2.1 hr2.2.2.1) (law_le5 hr1.2.2.2 hr2.2.2.2) (kk u2 H locs hI2 hP hD hS)
set_option maxHeartbeats 2000000 in
set_option maxRecDepth 20000 in
theorem law_c24 {p : Program} {l : Launch} {e : Env} {s : State} {m : MethodId} {below : List Frame} {meth : Method} {c : Code} {b L : Nat} {xs : Nat → Int32} {G : GT} {A : Nat → Prop} {x0 m0 i : Nat} {u : va_W} {H : Heap} {locs : List Loc} {cells slots : Nat} {Q : State → Prop} {ls : Array Slot} (C0 : lw_At p s m meth c b L xs) (hK : KK G s) (hN : NN s) (hSS : SS G.2.2.2.2.2 A s s.heap) (hA : ∀ q : Nat, s.heap.size ≤ q → A q) (hbA : ¬ A b) (hI : INV G x0 m0 u) (hP : va_P G.1 vwCl u H) (hD : va_D A u) (hS : va_S A s.heap H locs) (hl : lv_has ls 4 [(3, .int (nI i)), (2, .ref m0), (1, .ref x0), (0, .ref b)]) (hi : i + 2 < L) (hL : L ≤ 1536) (hc : cells + 18 ≤ 600000) (hs : slots + 1104 ≤ 7302250)
    (kk : ∀ (u : va_W) (H : Heap) (locs : List Loc), INV G x0 m0 u → va_P G.1 vwCl u H → va_D A u → va_S A s.heap H locs → W p l e room_1 s m #[Value.ref b] below meth c H locs (cells + 18) (slots + 1104) Q (F0 m 782 ls [])) : W p l e room_1 s m #[Value.ref b] below meth c H locs cells slots Q (F0 m 648 ls []) := by
  obtain ⟨hx, hb, hr, hml, hown, hts, hX, hbl, hlocks, hgv⟩ := id C0
  have hown : s.vm.findClass RL = some m.cls := hown
  have hLw : ∀ w ∈ wsL_law, w.before #[Value.ref b] s = true := fun w h => hts w (lin_all w h)
  obtain ⟨fs6, hm6⟩ := hI.cell
  obtain ⟨rm, hr1, hCX⟩ := bo_cheapestHittingSet l hI
  refine lv_aload_n hx hb dL_law_648 rfl (lv_at hl 2 rfl) ?_
  refine callA_Vi (rest := []) (As := []) (c1 := cells + rm.cells) (s1 := slots + rm.slots) ⟨hx, hb, hml, hown, hLw⟩ hCX (cwV 0 hLw gL_law_X6_cheapestHittingSet rfl rfl rfl (by decide +kernel) ⟨Nat.le_trans (Nat.add_le_add_right hr1.1 1) (Nat.le_of_ble_eq_true rfl), Nat.le_trans (Nat.add_le_add_left hr1.2.1 _) (Nat.le_of_ble_eq_true rfl)⟩) hK hN hSS hP hD hS hA 6 hm6 rfl rfl rfl hl.1 rfl (Nat.le_of_ble_eq_true rfl) dL_law_649 ⟨law_le hr1.2.2.1 hc, law_le hr1.2.2.2 hs⟩ rfl rfl (fun r1 u1 H locs hpo hP hD hS => ?_)
  obtain ⟨⟨fs7, hm7⟩, rm2, hr2, hCM⟩ := hpo
  refine lv_aload_n hx hb dL_law_652 rfl (lv_at hl 1 rfl) ?_
  refine callA_Vi (rest := [.int r1]) (As := []) (c1 := cells + rm.cells + rm2.cells) (s1 := slots + rm.slots + rm2.slots) ⟨hx, hb, hml, hown, hLw⟩ hCM (cwV 0 hLw gL_law_X7_cheapestHittingSet rfl rfl rfl (by decide +kernel) ⟨Nat.le_trans (Nat.add_le_add_right hr2.1 1) (Nat.le_of_ble_eq_true rfl), Nat.le_trans (Nat.add_le_add_left hr2.2.1 _) (Nat.le_of_ble_eq_true rfl)⟩) hK hN hSS hP hD hS hA 7 hm7 rfl rfl rfl hl.1 rfl (Nat.le_of_ble_eq_true rfl) dL_law_653 ⟨law_le2 hr1.2.2.1 hr2.2.2.1 hc, law_le3 hr1.2.2.2 hr2.2.2.2 hs⟩ rfl rfl (fun r2 u2 H locs hpo hP hD hS => ?_)
  obtain ⟨hrr, hI2⟩ := hpo
  refine lv_icmp_eq (tgt := 782) hx hb dL_law_656 (by decide) (fun hq => ?_) (fun hq => absurd hrr.symm hq)
  exact W.widen (law_le4 hr1.2.2.1 hr2.2.2.1) (law_le5 hr1.2.2.2 hr2.2.2.2) (kk u2 H locs hI2 hP hD hS)
set_option maxHeartbeats 2000000 in
set_option maxRecDepth 20000 in
theorem law_c25 {p : Program} {l : Launch} {e : Env} {s : State} {m : MethodId} {below : List Frame} {meth : Method} {c : Code} {b L : Nat} {xs : Nat → Int32} {G : GT} {A : Nat → Prop} {x0 m0 i : Nat} {u : va_W} {H : Heap} {locs : List Loc} {cells slots : Nat} {Q : State → Prop} {ls : Array Slot} (C0 : lw_At p s m meth c b L xs) (hK : KK G s) (hN : NN s) (hSS : SS G.2.2.2.2.2 A s s.heap) (hA : ∀ q : Nat, s.heap.size ≤ q → A q) (hbA : ¬ A b) (hI : INV G x0 m0 u) (hP : va_P G.1 vwCl u H) (hD : va_D A u) (hS : va_S A s.heap H locs) (hl : lv_has ls 4 [(3, .int (nI i)), (2, .ref m0), (1, .ref x0), (0, .ref b)]) (hi : i + 2 < L) (hL : L ≤ 1536) (hc : cells + 18 ≤ 600000) (hs : slots + 1104 ≤ 7302250)
    (kk : ∀ (u : va_W) (H : Heap) (locs : List Loc), INV G x0 m0 u → va_P G.1 vwCl u H → va_D A u → va_S A s.heap H locs → W p l e room_1 s m #[Value.ref b] below meth c H locs (cells + 18) (slots + 1104) Q (F0 m 782 ls [])) : W p l e room_1 s m #[Value.ref b] below meth c H locs cells slots Q (F0 m 661 ls []) := by
  obtain ⟨hx, hb, hr, hml, hown, hts, hX, hbl, hlocks, hgv⟩ := id C0
  have hown : s.vm.findClass RL = some m.cls := hown
  have hLw : ∀ w ∈ wsL_law, w.before #[Value.ref b] s = true := fun w h => hts w (lin_all w h)
  obtain ⟨fs6, hm6⟩ := hI.cell
  obtain ⟨rm, hr1, hCX⟩ := bo_heaviestSatisfiable l hI
  refine lv_aload_n hx hb dL_law_661 rfl (lv_at hl 2 rfl) ?_
  refine callA_Vi (rest := []) (As := []) (c1 := cells + rm.cells) (s1 := slots + rm.slots) ⟨hx, hb, hml, hown, hLw⟩ hCX (cwV 0 hLw gL_law_X6_heaviestSatisfiable rfl rfl rfl (by decide +kernel) ⟨Nat.le_trans (Nat.add_le_add_right hr1.1 1) (Nat.le_of_ble_eq_true rfl), Nat.le_trans (Nat.add_le_add_left hr1.2.1 _) (Nat.le_of_ble_eq_true rfl)⟩) hK hN hSS hP hD hS hA 6 hm6 rfl rfl rfl hl.1 rfl (Nat.le_of_ble_eq_true rfl) dL_law_662 ⟨law_le hr1.2.2.1 hc, law_le hr1.2.2.2 hs⟩ rfl rfl (fun r1 u1 H locs hpo hP hD hS => ?_)
  obtain ⟨⟨fs7, hm7⟩, rm2, hr2, hCM⟩ := hpo
  refine lv_aload_n hx hb dL_law_665 rfl (lv_at hl 1 rfl) ?_
  refine callA_Vi (rest := [.int r1]) (As := []) (c1 := cells + rm.cells + rm2.cells) (s1 := slots + rm.slots + rm2.slots) ⟨hx, hb, hml, hown, hLw⟩ hCM (cwV 0 hLw gL_law_X7_heaviestSatisfiable rfl rfl rfl (by decide +kernel) ⟨Nat.le_trans (Nat.add_le_add_right hr2.1 1) (Nat.le_of_ble_eq_true rfl), Nat.le_trans (Nat.add_le_add_left hr2.2.1 _) (Nat.le_of_ble_eq_true rfl)⟩) hK hN hSS hP hD hS hA 7 hm7 rfl rfl rfl hl.1 rfl (Nat.le_of_ble_eq_true rfl) dL_law_666 ⟨law_le2 hr1.2.2.1 hr2.2.2.1 hc, law_le3 hr1.2.2.2 hr2.2.2.2 hs⟩ rfl rfl (fun r2 u2 H locs hpo hP hD hS => ?_)
  obtain ⟨hrr, hI2⟩ := hpo
  refine lv_icmp_eq (tgt := 782) hx hb dL_law_669 (by decide) (fun hq => ?_) (fun hq => absurd hrr.symm hq)
  exact W.widen (law_le4 hr1.2.2.1 hr2.2.2.1) (law_le5 hr1.2.2.2 hr2.2.2.2) (kk u2 H locs hI2 hP hD hS)
set_option maxHeartbeats 2000000 in
set_option maxRecDepth 20000 in
theorem law_c26 {p : Program} {l : Launch} {e : Env} {s : State} {m : MethodId} {below : List Frame} {meth : Method} {c : Code} {b L : Nat} {xs : Nat → Int32} {G : GT} {A : Nat → Prop} {x0 m0 i : Nat} {u : va_W} {H : Heap} {locs : List Loc} {cells slots : Nat} {Q : State → Prop} {ls : Array Slot} (C0 : lw_At p s m meth c b L xs) (hK : KK G s) (hN : NN s) (hSS : SS G.2.2.2.2.2 A s s.heap) (hA : ∀ q : Nat, s.heap.size ≤ q → A q) (hbA : ¬ A b) (hI : INV G x0 m0 u) (hP : va_P G.1 vwCl u H) (hD : va_D A u) (hS : va_S A s.heap H locs) (hl : lv_has ls 4 [(3, .int (nI i)), (2, .ref m0), (1, .ref x0), (0, .ref b)]) (hi : i + 2 < L) (hL : L ≤ 1536) (hc : cells + 18 ≤ 600000) (hs : slots + 1104 ≤ 7302250)
    (kk : ∀ (u : va_W) (H : Heap) (locs : List Loc), INV G x0 m0 u → va_P G.1 vwCl u H → va_D A u → va_S A s.heap H locs → W p l e room_1 s m #[Value.ref b] below meth c H locs (cells + 18) (slots + 1104) Q (F0 m 782 ls [])) : W p l e room_1 s m #[Value.ref b] below meth c H locs cells slots Q (F0 m 674 ls []) := by
  obtain ⟨hx, hb, hr, hml, hown, hts, hX, hbl, hlocks, hgv⟩ := id C0
  have hown : s.vm.findClass RL = some m.cls := hown
  have hLw : ∀ w ∈ wsL_law, w.before #[Value.ref b] s = true := fun w h => hts w (lin_all w h)
  obtain ⟨fs6, hm6⟩ := hI.cell
  obtain ⟨rm, hr1, hCX⟩ := bo_blame l hI (xs (i + 1))
  refine lv_aload_n hx hb dL_law_674 rfl (lv_at hl 2 rfl) ?_
  refine lv_aload_n hx hb dL_law_675 rfl (lv_at hl 3 rfl) ?_
  refine lv_iload_n hx hb dL_law_676 rfl (lv_at hl 0 rfl) ?_
  refine lv_iconst (v := 1) hx hb dL_law_677 (by decide) ?_
  refine wn_iadd hx hb i 1 rfl rfl dL_law_678 ?_
  refine law_ld hx hb hX hbl hbA hS hL (j := i + 1) (by omega) dL_law_679 ?_
  refine callA_Vi (rest := []) (As := [.int (xs (i + 1))]) (c1 := cells + rm.cells) (s1 := slots + rm.slots) ⟨hx, hb, hml, hown, hLw⟩ hCX (cwV 1 hLw gL_law_X6_blame rfl rfl rfl (by decide +kernel) ⟨Nat.le_trans (Nat.add_le_add_right hr1.1 1) (Nat.le_of_ble_eq_true rfl), Nat.le_trans (Nat.add_le_add_left hr1.2.1 _) (Nat.le_of_ble_eq_true rfl)⟩) hK hN hSS hP hD hS hA 6 hm6 rfl rfl rfl hl.1 rfl (Nat.le_of_ble_eq_true rfl) dL_law_680 ⟨law_le hr1.2.2.1 hc, law_le hr1.2.2.2 hs⟩ rfl rfl (fun r1 u1 H locs hpo hP hD hS => ?_)
  obtain ⟨⟨fs7, hm7⟩, rm2, hr2, hCM⟩ := hpo
  refine lv_aload_n hx hb dL_law_683 rfl (lv_at hl 1 rfl) ?_
  refine lv_aload_n hx hb dL_law_684 rfl (lv_at hl 3 rfl) ?_
  refine lv_iload_n hx hb dL_law_685 rfl (lv_at hl 0 rfl) ?_
  refine lv_iconst (v := 1) hx hb dL_law_686 (by decide) ?_
  refine wn_iadd hx hb i 1 rfl rfl dL_law_687 ?_
  refine law_ld hx hb hX hbl hbA hS hL (j := i + 1) (by omega) dL_law_688 ?_
  refine callA_Vi (rest := [.int r1]) (As := [.int (xs (i + 1))]) (c1 := cells + rm.cells + rm2.cells) (s1 := slots + rm.slots + rm2.slots) ⟨hx, hb, hml, hown, hLw⟩ hCM (cwV 1 hLw gL_law_X7_blame rfl rfl rfl (by decide +kernel) ⟨Nat.le_trans (Nat.add_le_add_right hr2.1 1) (Nat.le_of_ble_eq_true rfl), Nat.le_trans (Nat.add_le_add_left hr2.2.1 _) (Nat.le_of_ble_eq_true rfl)⟩) hK hN hSS hP hD hS hA 7 hm7 rfl rfl rfl hl.1 rfl (Nat.le_of_ble_eq_true rfl) dL_law_689 ⟨law_le2 hr1.2.2.1 hr2.2.2.1 hc, law_le3 hr1.2.2.2 hr2.2.2.2 hs⟩ rfl rfl (fun r2 u2 H locs hpo hP hD hS => ?_)
  obtain ⟨hrr, hI2⟩ := hpo
  refine lv_icmp_eq (tgt := 782) hx hb dL_law_692 (by decide) (fun hq => ?_) (fun hq => absurd hrr.symm hq)
  exact W.widen (law_le4 hr1.2.2.1 hr2.2.2.1) (law_le5 hr1.2.2.2 hr2.2.2.2) (kk u2 H locs hI2 hP hD hS)
set_option maxHeartbeats 2000000 in
set_option maxRecDepth 20000 in
theorem law_c27 {p : Program} {l : Launch} {e : Env} {s : State} {m : MethodId} {below : List Frame} {meth : Method} {c : Code} {b L : Nat} {xs : Nat → Int32} {G : GT} {A : Nat → Prop} {x0 m0 i : Nat} {u : va_W} {H : Heap} {locs : List Loc} {cells slots : Nat} {Q : State → Prop} {ls : Array Slot} (C0 : lw_At p s m meth c b L xs) (hK : KK G s) (hN : NN s) (hSS : SS G.2.2.2.2.2 A s s.heap) (hA : ∀ q : Nat, s.heap.size ≤ q → A q) (hbA : ¬ A b) (hI : INV G x0 m0 u) (hP : va_P G.1 vwCl u H) (hD : va_D A u) (hS : va_S A s.heap H locs) (hl : lv_has ls 4 [(3, .int (nI i)), (2, .ref m0), (1, .ref x0), (0, .ref b)]) (hi : i + 2 < L) (hL : L ≤ 1536) (hc : cells + 18 ≤ 600000) (hs : slots + 1104 ≤ 7302250)
    (kk : ∀ (u : va_W) (H : Heap) (locs : List Loc), INV G x0 m0 u → va_P G.1 vwCl u H → va_D A u → va_S A s.heap H locs → W p l e room_1 s m #[Value.ref b] below meth c H locs (cells + 18) (slots + 1104) Q (F0 m 782 ls [])) : W p l e room_1 s m #[Value.ref b] below meth c H locs cells slots Q (F0 m 697 ls []) := by
  obtain ⟨hx, hb, hr, hml, hown, hts, hX, hbl, hlocks, hgv⟩ := id C0
  have hown : s.vm.findClass RL = some m.cls := hown
  have hLw : ∀ w ∈ wsL_law, w.before #[Value.ref b] s = true := fun w h => hts w (lin_all w h)
  obtain ⟨fs6, hm6⟩ := hI.cell
  obtain ⟨rm, hr1, hCX⟩ := bo_save l hI (xs (i + 1))
  refine lv_aload_n hx hb dL_law_697 rfl (lv_at hl 2 rfl) ?_
  refine lv_aload_n hx hb dL_law_698 rfl (lv_at hl 3 rfl) ?_
  refine lv_iload_n hx hb dL_law_699 rfl (lv_at hl 0 rfl) ?_
  refine lv_iconst (v := 1) hx hb dL_law_700 (by decide) ?_
  refine wn_iadd hx hb i 1 rfl rfl dL_law_701 ?_
  refine law_ld hx hb hX hbl hbA hS hL (j := i + 1) (by omega) dL_law_702 ?_
  refine callA_Vi (rest := []) (As := [.int (xs (i + 1))]) (c1 := cells + rm.cells) (s1 := slots + rm.slots) ⟨hx, hb, hml, hown, hLw⟩ hCX (cwV 1 hLw gL_law_X6_save rfl rfl rfl (by decide +kernel) ⟨Nat.le_trans (Nat.add_le_add_right hr1.1 1) (Nat.le_of_ble_eq_true rfl), Nat.le_trans (Nat.add_le_add_left hr1.2.1 _) (Nat.le_of_ble_eq_true rfl)⟩) hK hN hSS hP hD hS hA 6 hm6 rfl rfl rfl hl.1 rfl (Nat.le_of_ble_eq_true rfl) dL_law_703 ⟨law_le hr1.2.2.1 hc, law_le hr1.2.2.2 hs⟩ rfl rfl (fun r1 u1 H locs hpo hP hD hS => ?_)
  obtain ⟨⟨fs7, hm7⟩, rm2, hr2, hCM⟩ := hpo
  refine lv_aload_n hx hb dL_law_706 rfl (lv_at hl 1 rfl) ?_
  refine lv_aload_n hx hb dL_law_707 rfl (lv_at hl 3 rfl) ?_
  refine lv_iload_n hx hb dL_law_708 rfl (lv_at hl 0 rfl) ?_
  refine lv_iconst (v := 1) hx hb dL_law_709 (by decide) ?_
  refine wn_iadd hx hb i 1 rfl rfl dL_law_710 ?_
  refine law_ld hx hb hX hbl hbA hS hL (j := i + 1) (by omega) dL_law_711 ?_
  refine callA_Vi (rest := [.int r1]) (As := [.int (xs (i + 1))]) (c1 := cells + rm.cells + rm2.cells) (s1 := slots + rm.slots + rm2.slots) ⟨hx, hb, hml, hown, hLw⟩ hCM (cwV 1 hLw gL_law_X7_save rfl rfl rfl (by decide +kernel) ⟨Nat.le_trans (Nat.add_le_add_right hr2.1 1) (Nat.le_of_ble_eq_true rfl), Nat.le_trans (Nat.add_le_add_left hr2.2.1 _) (Nat.le_of_ble_eq_true rfl)⟩) hK hN hSS hP hD hS hA 7 hm7 rfl rfl rfl hl.1 rfl (Nat.le_of_ble_eq_true rfl) dL_law_712 ⟨law_le2 hr1.2.2.1 hr2.2.2.1 hc, law_le3 hr1.2.2.2 hr2.2.2.2 hs⟩ rfl rfl (fun r2 u2 H locs hpo hP hD hS => ?_)
  obtain ⟨hrr, hI2⟩ := hpo
  refine lv_icmp_eq (tgt := 782) hx hb dL_law_715 (by decide) (fun hq => ?_) (fun hq => absurd hrr.symm hq)
  exact W.widen (law_le4 hr1.2.2.1 hr2.2.2.1) (law_le5 hr1.2.2.2 hr2.2.2.2) (kk u2 H locs hI2 hP hD hS)
set_option maxHeartbeats 2000000 in
set_option maxRecDepth 20000 in
theorem law_c28 {p : Program} {l : Launch} {e : Env} {s : State} {m : MethodId} {below : List Frame} {meth : Method} {c : Code} {b L : Nat} {xs : Nat → Int32} {G : GT} {A : Nat → Prop} {x0 m0 i : Nat} {u : va_W} {H : Heap} {locs : List Loc} {cells slots : Nat} {Q : State → Prop} {ls : Array Slot} (C0 : lw_At p s m meth c b L xs) (hK : KK G s) (hN : NN s) (hSS : SS G.2.2.2.2.2 A s s.heap) (hA : ∀ q : Nat, s.heap.size ≤ q → A q) (hbA : ¬ A b) (hI : INV G x0 m0 u) (hP : va_P G.1 vwCl u H) (hD : va_D A u) (hS : va_S A s.heap H locs) (hl : lv_has ls 4 [(3, .int (nI i)), (2, .ref m0), (1, .ref x0), (0, .ref b)]) (hi : i + 2 < L) (hL : L ≤ 1536) (hc : cells + 18 ≤ 600000) (hs : slots + 1104 ≤ 7302250)
    (kk : ∀ (u : va_W) (H : Heap) (locs : List Loc), INV G x0 m0 u → va_P G.1 vwCl u H → va_D A u → va_S A s.heap H locs → W p l e room_1 s m #[Value.ref b] below meth c H locs (cells + 18) (slots + 1104) Q (F0 m 782 ls [])) : W p l e room_1 s m #[Value.ref b] below meth c H locs cells slots Q (F0 m 720 ls []) := by
  obtain ⟨hx, hb, hr, hml, hown, hts, hX, hbl, hlocks, hgv⟩ := id C0
  have hown : s.vm.findClass RL = some m.cls := hown
  have hLw : ∀ w ∈ wsL_law, w.before #[Value.ref b] s = true := fun w h => hts w (lin_all w h)
  obtain ⟨fs6, hm6⟩ := hI.cell
  obtain ⟨rm, hr1, hCX⟩ := bo_restore l hI (xs (i + 1))
  refine lv_aload_n hx hb dL_law_720 rfl (lv_at hl 2 rfl) ?_
  refine lv_aload_n hx hb dL_law_721 rfl (lv_at hl 3 rfl) ?_
  refine lv_iload_n hx hb dL_law_722 rfl (lv_at hl 0 rfl) ?_
  refine lv_iconst (v := 1) hx hb dL_law_723 (by decide) ?_
  refine wn_iadd hx hb i 1 rfl rfl dL_law_724 ?_
  refine law_ld hx hb hX hbl hbA hS hL (j := i + 1) (by omega) dL_law_725 ?_
  refine callA_Vi (rest := []) (As := [.int (xs (i + 1))]) (c1 := cells + rm.cells) (s1 := slots + rm.slots) ⟨hx, hb, hml, hown, hLw⟩ hCX (cwV 1 hLw gL_law_X6_restore rfl rfl rfl (by decide +kernel) ⟨Nat.le_trans (Nat.add_le_add_right hr1.1 1) (Nat.le_of_ble_eq_true rfl), Nat.le_trans (Nat.add_le_add_left hr1.2.1 _) (Nat.le_of_ble_eq_true rfl)⟩) hK hN hSS hP hD hS hA 6 hm6 rfl rfl rfl hl.1 rfl (Nat.le_of_ble_eq_true rfl) dL_law_726 ⟨law_le hr1.2.2.1 hc, law_le hr1.2.2.2 hs⟩ rfl rfl (fun r1 u1 H locs hpo hP hD hS => ?_)
  obtain ⟨⟨fs7, hm7⟩, rm2, hr2, hCM⟩ := hpo
  refine lv_aload_n hx hb dL_law_729 rfl (lv_at hl 1 rfl) ?_
  refine lv_aload_n hx hb dL_law_730 rfl (lv_at hl 3 rfl) ?_
  refine lv_iload_n hx hb dL_law_731 rfl (lv_at hl 0 rfl) ?_
  refine lv_iconst (v := 1) hx hb dL_law_732 (by decide) ?_
  refine wn_iadd hx hb i 1 rfl rfl dL_law_733 ?_
  refine law_ld hx hb hX hbl hbA hS hL (j := i + 1) (by omega) dL_law_734 ?_
  refine callA_Vi (rest := [.int r1]) (As := [.int (xs (i + 1))]) (c1 := cells + rm.cells + rm2.cells) (s1 := slots + rm.slots + rm2.slots) ⟨hx, hb, hml, hown, hLw⟩ hCM (cwV 1 hLw gL_law_X7_restore rfl rfl rfl (by decide +kernel) ⟨Nat.le_trans (Nat.add_le_add_right hr2.1 1) (Nat.le_of_ble_eq_true rfl), Nat.le_trans (Nat.add_le_add_left hr2.2.1 _) (Nat.le_of_ble_eq_true rfl)⟩) hK hN hSS hP hD hS hA 7 hm7 rfl rfl rfl hl.1 rfl (Nat.le_of_ble_eq_true rfl) dL_law_735 ⟨law_le2 hr1.2.2.1 hr2.2.2.1 hc, law_le3 hr1.2.2.2 hr2.2.2.2 hs⟩ rfl rfl (fun r2 u2 H locs hpo hP hD hS => ?_)
  obtain ⟨hrr, hI2⟩ := hpo
  refine lv_icmp_eq (tgt := 782) hx hb dL_law_738 (by decide) (fun hq => ?_) (fun hq => absurd hrr.symm hq)
  exact W.widen (law_le4 hr1.2.2.1 hr2.2.2.1) (law_le5 hr1.2.2.2 hr2.2.2.2) (kk u2 H locs hI2 hP hD hS)
set_option maxHeartbeats 2000000 in
set_option maxRecDepth 20000 in
theorem law_c29 {p : Program} {l : Launch} {e : Env} {s : State} {m : MethodId} {below : List Frame} {meth : Method} {c : Code} {b L : Nat} {xs : Nat → Int32} {G : GT} {A : Nat → Prop} {x0 m0 i : Nat} {u : va_W} {H : Heap} {locs : List Loc} {cells slots : Nat} {Q : State → Prop} {ls : Array Slot} (C0 : lw_At p s m meth c b L xs) (hK : KK G s) (hN : NN s) (hSS : SS G.2.2.2.2.2 A s s.heap) (hA : ∀ q : Nat, s.heap.size ≤ q → A q) (hbA : ¬ A b) (hI : INV G x0 m0 u) (hP : va_P G.1 vwCl u H) (hD : va_D A u) (hS : va_S A s.heap H locs) (hl : lv_has ls 4 [(3, .int (nI i)), (2, .ref m0), (1, .ref x0), (0, .ref b)]) (hi : i + 2 < L) (hL : L ≤ 1536) (hc : cells + 18 ≤ 600000) (hs : slots + 1104 ≤ 7302250)
    (kk : ∀ (u : va_W) (H : Heap) (locs : List Loc), INV G x0 m0 u → va_P G.1 vwCl u H → va_D A u → va_S A s.heap H locs → W p l e room_1 s m #[Value.ref b] below meth c H locs (cells + 18) (slots + 1104) Q (F0 m 782 ls [])) : W p l e room_1 s m #[Value.ref b] below meth c H locs cells slots Q (F0 m 743 ls []) := by
  obtain ⟨hx, hb, hr, hml, hown, hts, hX, hbl, hlocks, hgv⟩ := id C0
  have hown : s.vm.findClass RL = some m.cls := hown
  have hLw : ∀ w ∈ wsL_law, w.before #[Value.ref b] s = true := fun w h => hts w (lin_all w h)
  obtain ⟨fs6, hm6⟩ := hI.cell
  obtain ⟨rm, hr1, hCX⟩ := bo_constraintCount l hI
  refine lv_aload_n hx hb dL_law_743 rfl (lv_at hl 2 rfl) ?_
  refine callA_Vi (rest := []) (As := []) (c1 := cells + rm.cells) (s1 := slots + rm.slots) ⟨hx, hb, hml, hown, hLw⟩ hCX (cwV 0 hLw gL_law_X6_constraintCount rfl rfl rfl (by decide +kernel) ⟨Nat.le_trans (Nat.add_le_add_right hr1.1 1) (Nat.le_of_ble_eq_true rfl), Nat.le_trans (Nat.add_le_add_left hr1.2.1 _) (Nat.le_of_ble_eq_true rfl)⟩) hK hN hSS hP hD hS hA 6 hm6 rfl rfl rfl hl.1 rfl (Nat.le_of_ble_eq_true rfl) dL_law_744 ⟨law_le hr1.2.2.1 hc, law_le hr1.2.2.2 hs⟩ rfl rfl (fun r1 u1 H locs hpo hP hD hS => ?_)
  obtain ⟨⟨fs7, hm7⟩, rm2, hr2, hCM⟩ := hpo
  refine lv_aload_n hx hb dL_law_747 rfl (lv_at hl 1 rfl) ?_
  refine callA_Vi (rest := [.int r1]) (As := []) (c1 := cells + rm.cells + rm2.cells) (s1 := slots + rm.slots + rm2.slots) ⟨hx, hb, hml, hown, hLw⟩ hCM (cwV 0 hLw gL_law_X7_constraintCount rfl rfl rfl (by decide +kernel) ⟨Nat.le_trans (Nat.add_le_add_right hr2.1 1) (Nat.le_of_ble_eq_true rfl), Nat.le_trans (Nat.add_le_add_left hr2.2.1 _) (Nat.le_of_ble_eq_true rfl)⟩) hK hN hSS hP hD hS hA 7 hm7 rfl rfl rfl hl.1 rfl (Nat.le_of_ble_eq_true rfl) dL_law_748 ⟨law_le2 hr1.2.2.1 hr2.2.2.1 hc, law_le3 hr1.2.2.2 hr2.2.2.2 hs⟩ rfl rfl (fun r2 u2 H locs hpo hP hD hS => ?_)
  obtain ⟨hrr, hI2⟩ := hpo
  refine lv_icmp_eq (tgt := 782) hx hb dL_law_751 (by decide) (fun hq => ?_) (fun hq => absurd hrr.symm hq)
  exact W.widen (law_le4 hr1.2.2.1 hr2.2.2.1) (law_le5 hr1.2.2.2 hr2.2.2.2) (kk u2 H locs hI2 hP hD hS)
set_option maxHeartbeats 2000000 in
set_option maxRecDepth 20000 in
theorem law_c30 {p : Program} {l : Launch} {e : Env} {s : State} {m : MethodId} {below : List Frame} {meth : Method} {c : Code} {b L : Nat} {xs : Nat → Int32} {G : GT} {A : Nat → Prop} {x0 m0 i : Nat} {u : va_W} {H : Heap} {locs : List Loc} {cells slots : Nat} {Q : State → Prop} {ls : Array Slot} (C0 : lw_At p s m meth c b L xs) (hK : KK G s) (hN : NN s) (hSS : SS G.2.2.2.2.2 A s s.heap) (hA : ∀ q : Nat, s.heap.size ≤ q → A q) (hbA : ¬ A b) (hI : INV G x0 m0 u) (hP : va_P G.1 vwCl u H) (hD : va_D A u) (hS : va_S A s.heap H locs) (hl : lv_has ls 4 [(3, .int (nI i)), (2, .ref m0), (1, .ref x0), (0, .ref b)]) (hi : i + 2 < L) (hL : L ≤ 1536) (hc : cells + 18 ≤ 600000) (hs : slots + 1104 ≤ 7302250)
    (kk : ∀ (u : va_W) (H : Heap) (locs : List Loc), INV G x0 m0 u → va_P G.1 vwCl u H → va_D A u → va_S A s.heap H locs → W p l e room_1 s m #[Value.ref b] below meth c H locs (cells + 18) (slots + 1104) Q (F0 m 782 ls [])) : W p l e room_1 s m #[Value.ref b] below meth c H locs cells slots Q (F0 m 756 ls []) := by
  obtain ⟨hx, hb, hr, hml, hown, hts, hX, hbl, hlocks, hgv⟩ := id C0
  have hown : s.vm.findClass RL = some m.cls := hown
  have hLw : ∀ w ∈ wsL_law, w.before #[Value.ref b] s = true := fun w h => hts w (lin_all w h)
  obtain ⟨fs6, hm6⟩ := hI.cell
  obtain ⟨rm, hr1, hCX⟩ := bo_softConstraints l hI
  refine lv_aload_n hx hb dL_law_756 rfl (lv_at hl 2 rfl) ?_
  refine callA_Vi (rest := []) (As := []) (c1 := cells + rm.cells) (s1 := slots + rm.slots) ⟨hx, hb, hml, hown, hLw⟩ hCX (cwV 0 hLw gL_law_X6_softConstraints rfl rfl rfl (by decide +kernel) ⟨Nat.le_trans (Nat.add_le_add_right hr1.1 1) (Nat.le_of_ble_eq_true rfl), Nat.le_trans (Nat.add_le_add_left hr1.2.1 _) (Nat.le_of_ble_eq_true rfl)⟩) hK hN hSS hP hD hS hA 6 hm6 rfl rfl rfl hl.1 rfl (Nat.le_of_ble_eq_true rfl) dL_law_757 ⟨law_le hr1.2.2.1 hc, law_le hr1.2.2.2 hs⟩ rfl rfl (fun r1 u1 H locs hpo hP hD hS => ?_)
  obtain ⟨⟨fs7, hm7⟩, rm2, hr2, hCM⟩ := hpo
  refine lv_aload_n hx hb dL_law_760 rfl (lv_at hl 1 rfl) ?_
  refine callA_Vi (rest := [.int r1]) (As := []) (c1 := cells + rm.cells + rm2.cells) (s1 := slots + rm.slots + rm2.slots) ⟨hx, hb, hml, hown, hLw⟩ hCM (cwV 0 hLw gL_law_X7_softConstraints rfl rfl rfl (by decide +kernel) ⟨Nat.le_trans (Nat.add_le_add_right hr2.1 1) (Nat.le_of_ble_eq_true rfl), Nat.le_trans (Nat.add_le_add_left hr2.2.1 _) (Nat.le_of_ble_eq_true rfl)⟩) hK hN hSS hP hD hS hA 7 hm7 rfl rfl rfl hl.1 rfl (Nat.le_of_ble_eq_true rfl) dL_law_761 ⟨law_le2 hr1.2.2.1 hr2.2.2.1 hc, law_le3 hr1.2.2.2 hr2.2.2.2 hs⟩ rfl rfl (fun r2 u2 H locs hpo hP hD hS => ?_)
  obtain ⟨hrr, hI2⟩ := hpo
  refine lv_icmp_eq (tgt := 782) hx hb dL_law_764 (by decide) (fun hq => ?_) (fun hq => absurd hrr.symm hq)
  exact W.widen (law_le4 hr1.2.2.1 hr2.2.2.1) (law_le5 hr1.2.2.2 hr2.2.2.2) (kk u2 H locs hI2 hP hD hS)
set_option maxHeartbeats 2000000 in
set_option maxRecDepth 20000 in
theorem law_c31 {p : Program} {l : Launch} {e : Env} {s : State} {m : MethodId} {below : List Frame} {meth : Method} {c : Code} {b L : Nat} {xs : Nat → Int32} {G : GT} {A : Nat → Prop} {x0 m0 i : Nat} {u : va_W} {H : Heap} {locs : List Loc} {cells slots : Nat} {Q : State → Prop} {ls : Array Slot} (C0 : lw_At p s m meth c b L xs) (hK : KK G s) (hN : NN s) (hSS : SS G.2.2.2.2.2 A s s.heap) (hA : ∀ q : Nat, s.heap.size ≤ q → A q) (hbA : ¬ A b) (hI : INV G x0 m0 u) (hP : va_P G.1 vwCl u H) (hD : va_D A u) (hS : va_S A s.heap H locs) (hl : lv_has ls 4 [(3, .int (nI i)), (2, .ref m0), (1, .ref x0), (0, .ref b)]) (hi : i + 2 < L) (hL : L ≤ 1536) (hc : cells + 18 ≤ 600000) (hs : slots + 1104 ≤ 7302250)
    (kk : ∀ (u : va_W) (H : Heap) (locs : List Loc), INV G x0 m0 u → va_P G.1 vwCl u H → va_D A u → va_S A s.heap H locs → W p l e room_1 s m #[Value.ref b] below meth c H locs (cells + 18) (slots + 1104) Q (F0 m 782 ls [])) : W p l e room_1 s m #[Value.ref b] below meth c H locs cells slots Q (F0 m 769 ls []) := by
  obtain ⟨hx, hb, hr, hml, hown, hts, hX, hbl, hlocks, hgv⟩ := id C0
  have hown : s.vm.findClass RL = some m.cls := hown
  have hLw : ∀ w ∈ wsL_law, w.before #[Value.ref b] s = true := fun w h => hts w (lin_all w h)
  obtain ⟨fs6, hm6⟩ := hI.cell
  obtain ⟨rm, hr1, hCX⟩ := bo_undoDepth l hI
  refine lv_aload_n hx hb dL_law_769 rfl (lv_at hl 2 rfl) ?_
  refine callA_Vi (rest := []) (As := []) (c1 := cells + rm.cells) (s1 := slots + rm.slots) ⟨hx, hb, hml, hown, hLw⟩ hCX (cwV 0 hLw gL_law_X6_undoDepth rfl rfl rfl (by decide +kernel) ⟨Nat.le_trans (Nat.add_le_add_right hr1.1 1) (Nat.le_of_ble_eq_true rfl), Nat.le_trans (Nat.add_le_add_left hr1.2.1 _) (Nat.le_of_ble_eq_true rfl)⟩) hK hN hSS hP hD hS hA 6 hm6 rfl rfl rfl hl.1 rfl (Nat.le_of_ble_eq_true rfl) dL_law_770 ⟨law_le hr1.2.2.1 hc, law_le hr1.2.2.2 hs⟩ rfl rfl (fun r1 u1 H locs hpo hP hD hS => ?_)
  obtain ⟨⟨fs7, hm7⟩, rm2, hr2, hCM⟩ := hpo
  refine lv_aload_n hx hb dL_law_773 rfl (lv_at hl 1 rfl) ?_
  refine callA_Vi (rest := [.int r1]) (As := []) (c1 := cells + rm.cells + rm2.cells) (s1 := slots + rm.slots + rm2.slots) ⟨hx, hb, hml, hown, hLw⟩ hCM (cwV 0 hLw gL_law_X7_undoDepth rfl rfl rfl (by decide +kernel) ⟨Nat.le_trans (Nat.add_le_add_right hr2.1 1) (Nat.le_of_ble_eq_true rfl), Nat.le_trans (Nat.add_le_add_left hr2.2.1 _) (Nat.le_of_ble_eq_true rfl)⟩) hK hN hSS hP hD hS hA 7 hm7 rfl rfl rfl hl.1 rfl (Nat.le_of_ble_eq_true rfl) dL_law_774 ⟨law_le2 hr1.2.2.1 hr2.2.2.1 hc, law_le3 hr1.2.2.2 hr2.2.2.2 hs⟩ rfl rfl (fun r2 u2 H locs hpo hP hD hS => ?_)
  obtain ⟨hrr, hI2⟩ := hpo
  refine lv_icmp_eq (tgt := 782) hx hb dL_law_777 (by decide) (fun hq => ?_) (fun hq => absurd hrr.symm hq)
  exact W.widen (law_le4 hr1.2.2.1 hr2.2.2.1) (law_le5 hr1.2.2.2 hr2.2.2.2) (kk u2 H locs hI2 hP hD hS)
