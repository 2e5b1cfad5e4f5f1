abbrev rmX0_init : Room := { frames := 1, cells := 2, slots := 20, locals := 12 }
set_option maxHeartbeats 4000000 in
set_option maxRecDepth 100000 in
theorem c_X0_init (l : Launch) (G : GT) (h0 : Nat)  : Cv l yX0_init wsX0_init rmX0_init G [.ref h0] [(h0, OB 0 [.null, .null, .int 0])] (fun u => ∃ (hm hw : Nat), u = [(h0, OB 0 [.ref hm, .ref hw, .int (nI 0)]), (hm, AJ G 10 (fun _ => 0)), (hw, AI G 10 (fun _ => 0))]) := by
  refine Cv.of (cc := cX0_init) (maxL := 1) (by decide) rfl (Nat.le_of_ble_eq_true rfl) ?_
  intro p e s m below meth c A ls Q hx hb hml hts hown hin hA hS hP hK hN hSS hD hl ret
  have hown : s.vm.findClass RX0 = some m.cls := hown
  have hl : lv_has ls 1 [(0, .ref h0)] := hl
  have hi0 : ∀ w ∈ wsX00, w ∈ wsX0_init := mem_places [8, 9, 10] (by decide +kernel)
  refine lv_aload_n hx hb dX0_init_0 rfl (lv_at hl 0 rfl) ?_
  refine W.objInit hx hb hown (hts (.methodLink RX0 3 objectInit) (List.mem_of_getElem? (i := 1) rfl)) (hts (.instanceMethod objectInit) (List.mem_of_getElem? (i := 2) rfl)) (hts _ (List.mem_of_getElem? (i := 3) rfl)) rfl (by rw [hml]; exact hl.1) rfl dX0_init_1 (Nat.le_of_ble_eq_true rfl) (Nat.le_of_ble_eq_true rfl) ?_
  refine W.eq (g2 := F0 m 4 ls []) rfl ?_
  refine lv_aload_n hx hb dX0_init_4 rfl (lv_at hl 0 rfl) ?_
  refine lv_bipush (v := 10) hx hb dX0_init_5 (by decide) ?_
  refine wa_newJ hx hb (hts (.arrayClass .long) (List.mem_of_getElem? (i := 4) rfl)) hK hP hD hS hA (n := 10) 10 (by decide) rfl (by decide) (Nat.le_of_ble_eq_true rfl) (Nat.le_of_ble_eq_true rfl) dX0_init_7 (fun q7 H hP hD hS => ?_)
  have hP : va_P G.1 vwCl [(h0, OB 0 [.null, .null, .int 0]), (q7, AJ G 10 (fun _ => 0))] H := hP
  have hD : va_D A [(h0, OB 0 [.null, .null, .int 0]), (q7, AJ G 10 (fun _ => 0))] := hD
  refine W.widen (k := 1) (n := 10) (Nat.le_of_ble_eq_true rfl) (Nat.le_of_ble_eq_true rfl) ?_
  refine va_putF (D := G.1) (ci := 0) (v := .ref q7) (ty := .array (.long)) (C := RX0) (T := TX0) (N := 3) hx hb hts hi0 tyX0 tyX0_ok nmX0 hown hK hP hD hS 0 rfl rfl 0 (by decide) (hts (.fieldLink RX0 9 "ConflictEnumerator$Constraints" "models" "[J") (List.mem_of_getElem? (i := 5) rfl)) (fun _ h9 => h9) rfl hin rfl (by decide +kernel) rfl rfl (Nat.le_of_ble_eq_true rfl) dX0_init_9 (fun H locs hP hD hS => ?_)
  have hP : va_P G.1 vwCl [(h0, OB 0 [.ref q7, .null, .int 0]), (q7, AJ G 10 (fun _ => 0))] H := hP
  have hD : va_D A [(h0, OB 0 [.ref q7, .null, .int 0]), (q7, AJ G 10 (fun _ => 0))] := hD
  refine lv_aload_n hx hb dX0_init_12 rfl (lv_at hl 0 rfl) ?_
  refine lv_bipush (v := 10) hx hb dX0_init_13 (by decide) ?_
  refine wa_newI hx hb (hts (.arrayClass .int) (List.mem_of_getElem? (i := 6) rfl)) hK hP hD hS hA (n := 10) 10 (by decide) rfl (by decide) (Nat.le_of_ble_eq_true rfl) (Nat.le_of_ble_eq_true rfl) dX0_init_15 (fun q15 H hP hD hS => ?_)
  have hP : va_P G.1 vwCl [(h0, OB 0 [.ref q7, .null, .int 0]), (q7, AJ G 10 (fun _ => 0)), (q15, AI G 10 (fun _ => 0))] H := hP
  have hD : va_D A [(h0, OB 0 [.ref q7, .null, .int 0]), (q7, AJ G 10 (fun _ => 0)), (q15, AI G 10 (fun _ => 0))] := hD
  refine W.widen (k := 2) (n := 20) (Nat.le_of_ble_eq_true rfl) (Nat.le_of_ble_eq_true rfl) ?_
  refine va_putF (D := G.1) (ci := 0) (v := .ref q15) (ty := .array (.int)) (C := RX0) (T := TX0) (N := 3) hx hb hts hi0 tyX0 tyX0_ok nmX0 hown hK hP hD hS 0 rfl rfl 1 (by decide) (hts (.fieldLink RX0 15 "ConflictEnumerator$Constraints" "weights" "[I") (List.mem_of_getElem? (i := 7) rfl)) (fun _ h9 => h9) rfl hin rfl (by decide +kernel) rfl rfl (Nat.le_of_ble_eq_true rfl) dX0_init_17 (fun H locs hP hD hS => ?_)
  have hP : va_P G.1 vwCl [(h0, OB 0 [.ref q7, .ref q15, .int 0]), (q7, AJ G 10 (fun _ => 0)), (q15, AI G 10 (fun _ => 0))] H := hP
  have hD : va_D A [(h0, OB 0 [.ref q7, .ref q15, .int 0]), (q7, AJ G 10 (fun _ => 0)), (q15, AI G 10 (fun _ => 0))] := hD
  exact ret _ _ _ _ _ _ _ (Nat.le_of_ble_eq_true rfl) (Nat.le_of_ble_eq_true rfl) (⟨q7, q15, rfl⟩) (hP.sub (ws' := [(h0, OB 0 [.ref q7, .ref q15, .int 0]), (q7, AJ G 10 (fun _ => 0)), (q15, AI G 10 (fun _ => 0))]) [0, 1, 2] rfl) (hD.sub (ws' := [(h0, OB 0 [.ref q7, .ref q15, .int 0]), (q7, AJ G 10 (fun _ => 0)), (q15, AI G 10 (fun _ => 0))]) [0, 1, 2] (by decide) rfl) hS dX0_init_20
abbrev rmX3_init : Room := { frames := 1, cells := 1, slots := 252, locals := 12 }
set_option maxHeartbeats 4000000 in
set_option maxRecDepth 100000 in
theorem c_X3_init (l : Launch) (G : GT) (h0 : Nat)  : Cv l yX3_init wsX3_init rmX3_init G [.ref h0] [(h0, OB 3 [.null, .int 0])] (fun u => ∃ (hb0 : Nat), u = [(h0, OB 3 [.ref hb0, .int (nI 0)]), (hb0, AI G 252 (fun _ => 0))]) := by
  refine Cv.of (cc := cX3_init) (maxL := 1) (by decide) rfl (Nat.le_of_ble_eq_true rfl) ?_
  intro p e s m below meth c A ls Q hx hb hml hts hown hin hA hS hP hK hN hSS hD hl ret
  have hown : s.vm.findClass RX3 = some m.cls := hown
  have hl : lv_has ls 1 [(0, .ref h0)] := hl
  have hi3 : ∀ w ∈ wsX30, w ∈ wsX3_init := mem_places [6, 7] (by decide +kernel)
  refine lv_aload_n hx hb dX3_init_0 rfl (lv_at hl 0 rfl) ?_
  refine W.objInit hx hb hown (hts (.methodLink RX3 3 objectInit) (List.mem_of_getElem? (i := 1) rfl)) (hts (.instanceMethod objectInit) (List.mem_of_getElem? (i := 2) rfl)) (hts _ (List.mem_of_getElem? (i := 3) rfl)) rfl (by rw [hml]; exact hl.1) rfl dX3_init_1 (Nat.le_of_ble_eq_true rfl) (Nat.le_of_ble_eq_true rfl) ?_
  refine W.eq (g2 := F0 m 4 ls []) rfl ?_
  refine lv_aload_n hx hb dX3_init_4 rfl (lv_at hl 0 rfl) ?_
  refine lv_sipush (v := 252) hx hb dX3_init_5 (by decide) ?_
  refine wa_newI hx hb (hts (.arrayClass .int) (List.mem_of_getElem? (i := 4) rfl)) hK hP hD hS hA (n := 252) 252 (by decide) rfl (by decide) (Nat.le_of_ble_eq_true rfl) (Nat.le_of_ble_eq_true rfl) dX3_init_8 (fun q8 H hP hD hS => ?_)
  have hP : va_P G.1 vwCl [(h0, OB 3 [.null, .int 0]), (q8, AI G 252 (fun _ => 0))] H := hP
  have hD : va_D A [(h0, OB 3 [.null, .int 0]), (q8, AI G 252 (fun _ => 0))] := hD
  refine W.widen (k := 1) (n := 252) (Nat.le_of_ble_eq_true rfl) (Nat.le_of_ble_eq_true rfl) ?_
  refine va_putF (D := G.1) (ci := 3) (v := .ref q8) (ty := .array (.int)) (C := RX3) (T := TX3) (N := 2) hx hb hts hi3 tyX3 tyX3_ok nmX3 hown hK hP hD hS 0 rfl rfl 0 (by decide) (hts (.fieldLink RX3 9 "ConflictEnumerator$SelectionList" "selections" "[I") (List.mem_of_getElem? (i := 5) rfl)) (fun _ h9 => h9) rfl hin rfl (by decide +kernel) rfl rfl (Nat.le_of_ble_eq_true rfl) dX3_init_10 (fun H locs hP hD hS => ?_)
  have hP : va_P G.1 vwCl [(h0, OB 3 [.ref q8, .int 0]), (q8, AI G 252 (fun _ => 0))] H := hP
  have hD : va_D A [(h0, OB 3 [.ref q8, .int 0]), (q8, AI G 252 (fun _ => 0))] := hD
  exact ret _ _ _ _ _ _ _ (Nat.le_of_ble_eq_true rfl) (Nat.le_of_ble_eq_true rfl) (⟨q8, rfl⟩) (hP.sub (ws' := [(h0, OB 3 [.ref q8, .int 0]), (q8, AI G 252 (fun _ => 0))]) [0, 1] rfl) (hD.sub (ws' := [(h0, OB 3 [.ref q8, .int 0]), (q8, AI G 252 (fun _ => 0))]) [0, 1] (by decide) rfl) hS dX3_init_13
abbrev rmX3_size : Room := { frames := 0, cells := 0, slots := 0, locals := 0 }
set_option maxHeartbeats 4000000 in
set_option maxRecDepth 100000 in
theorem c_X3_size (l : Launch) (G : GT) (h0 hb0 : Nat) (f : Nat → Int32) (n : Nat)  : Ci l yX3_size wsX3_size rmX3_size G [.ref h0] [(h0, OB 3 [.ref hb0, .int (nI n)]), (hb0, AI G 252 f)] (fun r u => r = nI n ∧ u = [(h0, OB 3 [.ref hb0, .int (nI n)]), (hb0, AI G 252 f)]) := by
  refine Ci.of (cc := cX3_size) (maxL := 1) (ty := .int) (by decide) rfl (Nat.le_of_ble_eq_true rfl) ?_
  intro p e s m below meth c A ls Q hx hb hml hts hown hA hS hP hK hN hSS hD hl ret
  have hown : s.vm.findClass RX3 = some m.cls := hown
  have hl : lv_has ls 1 [(0, .ref h0)] := hl
  have hi3 : ∀ w ∈ wsX30, w ∈ wsX3_size := mem_places [2, 3] (by decide +kernel)
  refine lv_aload_n hx hb dX3_size_0 rfl (lv_at hl 0 rfl) ?_
  refine va_get (D := G.1) (ci := 3) (v := .int (nI n)) (C := RX3) (T := TX3) (N := 2) hx hb hts hi3 hown hK hP 0 rfl rfl 1 (by decide) (hts (.fieldLink RX3 15 "ConflictEnumerator$SelectionList" "size" "I") (List.mem_of_getElem? (i := 1) rfl)) (fun _ h9 => h9) rfl dX3_size_1 ?_
  exact ret (nI n) _ _ _ _ _ _ _ (Nat.le_of_ble_eq_true rfl) (Nat.le_of_ble_eq_true rfl) (rfl) (⟨rfl, rfl⟩) (hP.sub (ws' := [(h0, OB 3 [.ref hb0, .int (nI n)]), (hb0, AI G 252 f)]) [0, 1] rfl) (hD.sub (ws' := [(h0, OB 3 [.ref hb0, .int (nI n)]), (hb0, AI G 252 f)]) [0, 1] (by decide) rfl) hS dX3_size_4
abbrev rmX3_get : Room := { frames := 0, cells := 0, slots := 0, locals := 0 }
set_option maxHeartbeats 4000000 in
set_option maxRecDepth 100000 in
theorem c_X3_get (l : Launch) (G : GT) (h0 hb0 : Nat) (f : Nat → Int32) (n : Nat) (k : Int32) (hn : n ≤ 252) : Ci l yX3_get wsX3_get rmX3_get G [.ref h0, .int k] [(h0, OB 3 [.ref hb0, .int (nI n)]), (hb0, AI G 252 f)] (fun r u => r = getF f n k ∧ u = [(h0, OB 3 [.ref hb0, .int (nI n)]), (hb0, AI G 252 f)]) := by
  refine Ci.of (cc := cX3_get) (maxL := 2) (ty := .int) (by decide) rfl (Nat.le_of_ble_eq_true rfl) ?_
  intro p e s m below meth c A ls Q hx hb hml hts hown hA hS hP hK hN hSS hD hl ret
  have hown : s.vm.findClass RX3 = some m.cls := hown
  have hl : lv_has ls 2 [(0, .ref h0), (1, .int k)] := hl
  have hi3 : ∀ w ∈ wsX30, w ∈ wsX3_get := mem_places [3, 4] (by decide +kernel)
  refine lv_iload_n hx hb dX3_get_0 rfl (lv_at hl 1 rfl) ?_
  refine lv_if_lt (tgt := 12) hx hb dX3_get_1 (by decide) (fun c_1 => ?_) (fun c_1 => ?_)
  ·
    refine lv_bipush (v := (-9)) hx hb dX3_get_12 (by decide) ?_
    exact ret (-9) _ _ _ _ _ _ _ (Nat.le_of_ble_eq_true rfl) (Nat.le_of_ble_eq_true rfl) (rfl) (⟨by unfold getF; rw [if_neg (by first | rw [ng_inB c_1]; decide | rw [ge_inB c_9]; decide)], rfl⟩) (hP.sub (ws' := [(h0, OB 3 [.ref hb0, .int (nI n)]), (hb0, AI G 252 f)]) [0, 1] rfl) (hD.sub (ws' := [(h0, OB 3 [.ref hb0, .int (nI n)]), (hb0, AI G 252 f)]) [0, 1] (by decide) rfl) hS dX3_get_14
  ·
    refine lv_iload_n hx hb dX3_get_4 rfl (lv_at hl 1 rfl) ?_
    refine lv_aload_n hx hb dX3_get_5 rfl (lv_at hl 0 rfl) ?_
    refine va_get (D := G.1) (ci := 3) (v := .int (nI n)) (C := RX3) (T := TX3) (N := 2) hx hb hts hi3 hown hK hP 0 rfl rfl 1 (by decide) (hts (.fieldLink RX3 15 "ConflictEnumerator$SelectionList" "size" "I") (List.mem_of_getElem? (i := 1) rfl)) (fun _ h9 => h9) rfl dX3_get_6 ?_
    refine lv_icmp_lt (tgt := 15) hx hb dX3_get_9 (by decide) (fun c_9 => ?_) (fun c_9 => ?_)
    ·
      obtain ⟨j, hj, hkj⟩ := inB_t (by omega) (lt_inB c_1 c_9)
      refine lv_aload_n hx hb dX3_get_15 rfl (lv_at hl 0 rfl) ?_
      refine va_get (D := G.1) (ci := 3) (v := .ref hb0) (C := RX3) (T := TX3) (N := 2) hx hb hts hi3 hown hK hP 0 rfl rfl 0 (by decide) (hts (.fieldLink RX3 9 "ConflictEnumerator$SelectionList" "selections" "[I") (List.mem_of_getElem? (i := 2) rfl)) (fun _ h9 => h9) rfl dX3_get_16 ?_
      refine lv_iload_n hx hb dX3_get_19 rfl (lv_at hl 1 rfl) ?_
      refine wa_iald hx hb hK hP 1 rfl (j) (hkj) (by omega) (by decide) dX3_get_20 ?_
      exact ret (f j) _ _ _ _ _ _ _ (Nat.le_of_ble_eq_true rfl) (Nat.le_of_ble_eq_true rfl) (rfl) (⟨by rw [hkj, getF_nI hj (by omega)], rfl⟩) (hP.sub (ws' := [(h0, OB 3 [.ref hb0, .int (nI n)]), (hb0, AI G 252 f)]) [0, 1] rfl) (hD.sub (ws' := [(h0, OB 3 [.ref hb0, .int (nI n)]), (hb0, AI G 252 f)]) [0, 1] (by decide) rfl) hS dX3_get_21
    ·
      refine lv_bipush (v := (-9)) hx hb dX3_get_12 (by decide) ?_
      exact ret (-9) _ _ _ _ _ _ _ (Nat.le_of_ble_eq_true rfl) (Nat.le_of_ble_eq_true rfl) (rfl) (⟨by unfold getF; rw [if_neg (by first | rw [ng_inB c_1]; decide | rw [ge_inB c_9]; decide)], rfl⟩) (hP.sub (ws' := [(h0, OB 3 [.ref hb0, .int (nI n)]), (hb0, AI G 252 f)]) [0, 1] rfl) (hD.sub (ws' := [(h0, OB 3 [.ref hb0, .int (nI n)]), (hb0, AI G 252 f)]) [0, 1] (by decide) rfl) hS dX3_get_14
abbrev rmX3_add : Room := { frames := 0, cells := 0, slots := 0, locals := 0 }
set_option maxHeartbeats 4000000 in
set_option maxRecDepth 100000 in
theorem c_X3_add (l : Launch) (G : GT) (h0 hb0 : Nat) (f : Nat → Int32) (n : Nat) (x : Int32) (hn : n < 252) : Cv l yX3_add wsX3_add rmX3_add G [.ref h0, .int x] [(h0, OB 3 [.ref hb0, .int (nI n)]), (hb0, AI G 252 f)] (fun u => u = [(h0, OB 3 [.ref hb0, .int (nI (n + 1))]), (hb0, AI G 252 (va_up f n x))]) := by
  refine Cv.of (cc := cX3_add) (maxL := 2) (by decide) rfl (Nat.le_of_ble_eq_true rfl) ?_
  intro p e s m below meth c A ls Q hx hb hml hts hown hin hA hS hP hK hN hSS hD hl ret
  have hown : s.vm.findClass RX3 = some m.cls := hown
  have hl : lv_has ls 2 [(0, .ref h0), (1, .int x)] := hl
  have hi3 : ∀ w ∈ wsX30, w ∈ wsX3_add := mem_places [3, 4] (by decide +kernel)
  refine lv_aload_n hx hb dX3_add_0 rfl (lv_at hl 0 rfl) ?_
  refine va_get (D := G.1) (ci := 3) (v := .int (nI n)) (C := RX3) (T := TX3) (N := 2) hx hb hts hi3 hown hK hP 0 rfl rfl 1 (by decide) (hts (.fieldLink RX3 15 "ConflictEnumerator$SelectionList" "size" "I") (List.mem_of_getElem? (i := 1) rfl)) (fun _ h9 => h9) rfl dX3_add_1 ?_
  refine lv_sipush (v := 252) hx hb dX3_add_4 (by decide) ?_
  refine lv_icmp_ge (tgt := 30) hx hb dX3_add_7 (by decide) (fun c_7 => ?_) (fun c_7 => ?_)
  ·
    have c_7 : 252 ≤ n := (nI_leI (a := 252) (b := n) (by omega) (by omega)).mp c_7
    omega
  ·
    have c_7 : n < 252 := by have h9 := mt (nI_leI (a := 252) (b := n) (by omega) (by omega)).mpr c_7; omega
    refine lv_aload_n hx hb dX3_add_10 rfl (lv_at hl 0 rfl) ?_
    refine va_get (D := G.1) (ci := 3) (v := .ref hb0) (C := RX3) (T := TX3) (N := 2) hx hb hts hi3 hown hK hP 0 rfl rfl 0 (by decide) (hts (.fieldLink RX3 9 "ConflictEnumerator$SelectionList" "selections" "[I") (List.mem_of_getElem? (i := 2) rfl)) (fun _ h9 => h9) rfl dX3_add_11 ?_
    refine lv_aload_n hx hb dX3_add_14 rfl (lv_at hl 0 rfl) ?_
    refine va_get (D := G.1) (ci := 3) (v := .int (nI n)) (C := RX3) (T := TX3) (N := 2) hx hb hts hi3 hown hK hP 0 rfl rfl 1 (by decide) (hts (.fieldLink RX3 15 "ConflictEnumerator$SelectionList" "size" "I") (List.mem_of_getElem? (i := 1) rfl)) (fun _ h9 => h9) rfl dX3_add_15 ?_
    refine lv_iload_n hx hb dX3_add_18 rfl (lv_at hl 1 rfl) ?_
    refine wa_iast hx hb hK hP hD hS 1 rfl (n) (rfl) (by omega) (by decide) dX3_add_19 (fun H locs hP hD hS => ?_)
    have hP : va_P G.1 vwCl [(h0, OB 3 [.ref hb0, .int (nI n)]), (hb0, AI G 252 (va_up f n x))] H := hP
    have hD : va_D A [(h0, OB 3 [.ref hb0, .int (nI n)]), (hb0, AI G 252 (va_up f n x))] := hD
    refine lv_aload_n hx hb dX3_add_20 rfl (lv_at hl 0 rfl) ?_
    refine lv_dup hx hb dX3_add_21 rfl ?_
    refine va_get (D := G.1) (ci := 3) (v := .int (nI n)) (C := RX3) (T := TX3) (N := 2) hx hb hts hi3 hown hK hP 0 rfl rfl 1 (by decide) (hts (.fieldLink RX3 15 "ConflictEnumerator$SelectionList" "size" "I") (List.mem_of_getElem? (i := 1) rfl)) (fun _ h9 => h9) rfl dX3_add_22 ?_
    refine lv_iconst (v := 1) hx hb dX3_add_25 (by decide) ?_
    refine wn_iadd hx hb (n) (1) rfl rfl dX3_add_26 ?_
    refine va_put (D := G.1) (ci := 3) (v := .int (nI (n + 1))) (ty := .int) (C := RX3) (T := TX3) (N := 2) hx hb hts hi3 tyX3 tyX3_ok nmX3 hown hK hP hD hS 0 rfl rfl 1 (by decide) (hts (.fieldLink RX3 15 "ConflictEnumerator$SelectionList" "size" "I") (List.mem_of_getElem? (i := 1) rfl)) (fun _ h9 => h9) rfl (by decide +kernel) rfl rfl (Nat.le_of_ble_eq_true rfl) dX3_add_27 (fun H locs hP hD hS => ?_)
    have hP : va_P G.1 vwCl [(h0, OB 3 [.ref hb0, .int (nI (n + 1))]), (hb0, AI G 252 (va_up f n x))] H := hP
    have hD : va_D A [(h0, OB 3 [.ref hb0, .int (nI (n + 1))]), (hb0, AI G 252 (va_up f n x))] := hD
    exact ret _ _ _ _ _ _ _ (Nat.le_of_ble_eq_true rfl) (Nat.le_of_ble_eq_true rfl) (rfl) (hP.sub (ws' := [(h0, OB 3 [.ref hb0, .int (nI (n + 1))]), (hb0, AI G 252 (va_up f n x))]) [0, 1] rfl) (hD.sub (ws' := [(h0, OB 3 [.ref hb0, .int (nI (n + 1))]), (hb0, AI G 252 (va_up f n x))]) [0, 1] (by decide) rfl) hS dX3_add_30
abbrev rmX3_clear : Room := { frames := 0, cells := 0, slots := 0, locals := 0 }
set_option maxHeartbeats 4000000 in
set_option maxRecDepth 100000 in
theorem c_X3_clear (l : Launch) (G : GT) (h0 hb0 : Nat) (f : Nat → Int32) (n : Nat)  : Cv l yX3_clear wsX3_clear rmX3_clear G [.ref h0] [(h0, OB 3 [.ref hb0, .int (nI n)]), (hb0, AI G 252 f)] (fun u => u = [(h0, OB 3 [.ref hb0, .int (nI 0)]), (hb0, AI G 252 f)]) := by
  refine Cv.of (cc := cX3_clear) (maxL := 1) (by decide) rfl (Nat.le_of_ble_eq_true rfl) ?_
  intro p e s m below meth c A ls Q hx hb hml hts hown hin hA hS hP hK hN hSS hD hl ret
  have hown : s.vm.findClass RX3 = some m.cls := hown
  have hl : lv_has ls 1 [(0, .ref h0)] := hl
  have hi3 : ∀ w ∈ wsX30, w ∈ wsX3_clear := mem_places [2, 3] (by decide +kernel)
  refine lv_aload_n hx hb dX3_clear_0 rfl (lv_at hl 0 rfl) ?_
  refine lv_iconst (v := 0) hx hb dX3_clear_1 (by decide) ?_
  refine va_put (D := G.1) (ci := 3) (v := .int 0) (ty := .int) (C := RX3) (T := TX3) (N := 2) hx hb hts hi3 tyX3 tyX3_ok nmX3 hown hK hP hD hS 0 rfl rfl 1 (by decide) (hts (.fieldLink RX3 15 "ConflictEnumerator$SelectionList" "size" "I") (List.mem_of_getElem? (i := 1) rfl)) (fun _ h9 => h9) rfl (by decide +kernel) rfl rfl (Nat.le_of_ble_eq_true rfl) dX3_clear_2 (fun H locs hP hD hS => ?_)
  have hP : va_P G.1 vwCl [(h0, OB 3 [.ref hb0, .int 0]), (hb0, AI G 252 f)] H := hP
  have hD : va_D A [(h0, OB 3 [.ref hb0, .int 0]), (hb0, AI G 252 f)] := hD
  exact ret _ _ _ _ _ _ _ (Nat.le_of_ble_eq_true rfl) (Nat.le_of_ble_eq_true rfl) (rfl) (hP.sub (ws' := [(h0, OB 3 [.ref hb0, .int 0]), (hb0, AI G 252 f)]) [0, 1] rfl) (hD.sub (ws' := [(h0, OB 3 [.ref hb0, .int 0]), (hb0, AI G 252 f)]) [0, 1] (by decide) rfl) hS dX3_clear_5
abbrev rmX3_copyFrom : Room := { frames := 1, cells := 0, slots := 0, locals := 60 }
set_option maxHeartbeats 4000000 in
set_option maxRecDepth 100000 in
theorem c_X3_copyFrom (l : Launch) (G : GT) (h0 hb0 : Nat) (f : Nat → Int32) (n : Nat) (h1 hb1 : Nat) (f1 : Nat → Int32) (n1 : Nat)  : Cv l yX3_copyFrom wsX3_copyFrom rmX3_copyFrom G [.ref h0, .ref h1] [(h0, OB 3 [.ref hb0, .int (nI n)]), (hb0, AI G 252 f), (h1, OB 3 [.ref hb1, .int (nI n1)]), (hb1, AI G 252 f1)] (fun u => u = [(h0, OB 3 [.ref hb0, .int (nI n1)]), (hb0, AI G 252 f1), (h1, OB 3 [.ref hb1, .int (nI n1)]), (hb1, AI G 252 f1)]) := by
  refine Cv.of (cc := cX3_copyFrom) (maxL := 2) (by decide) rfl (Nat.le_of_ble_eq_true rfl) ?_
  intro p e s m below meth c A ls Q hx hb hml hts hown hin hA hS hP hK hN hSS hD hl ret
  have hown : s.vm.findClass RX3 = some m.cls := hown
  have hl : lv_has ls 2 [(0, .ref h0), (1, .ref h1)] := hl
  have hi3 : ∀ w ∈ wsX30, w ∈ wsX3_copyFrom := mem_places [7, 8] (by decide +kernel)
  refine lv_aload_n hx hb dX3_copyFrom_0 rfl (lv_at hl 1 rfl) ?_
  refine va_get (D := G.1) (ci := 3) (v := .ref hb1) (C := RX3) (T := TX3) (N := 2) hx hb hts hi3 hown hK hP 2 rfl rfl 0 (by decide) (hts (.fieldLink RX3 9 "ConflictEnumerator$SelectionList" "selections" "[I") (List.mem_of_getElem? (i := 1) rfl)) (fun _ h9 => h9) rfl dX3_copyFrom_1 ?_
  refine lv_iconst (v := 0) hx hb dX3_copyFrom_4 (by decide) ?_
  refine lv_aload_n hx hb dX3_copyFrom_5 rfl (lv_at hl 0 rfl) ?_
  refine va_get (D := G.1) (ci := 3) (v := .ref hb0) (C := RX3) (T := TX3) (N := 2) hx hb hts hi3 hown hK hP 0 rfl rfl 0 (by decide) (hts (.fieldLink RX3 9 "ConflictEnumerator$SelectionList" "selections" "[I") (List.mem_of_getElem? (i := 1) rfl)) (fun _ h9 => h9) rfl dX3_copyFrom_6 ?_
  refine lv_iconst (v := 0) hx hb dX3_copyFrom_9 (by decide) ?_
  refine lv_sipush (v := 252) hx hb dX3_copyFrom_10 (by decide) ?_
  refine wa_copyi hx hb (by rw [hml]; exact hl.1.symm) hown (hts (.methodLink RX3 19 arraycopyName) (List.mem_of_getElem? (i := 2) rfl)) (hts (.native arraycopyName) (List.mem_of_getElem? (i := 3) rfl)) (hts (.static arraycopyName) (List.mem_of_getElem? (i := 4) rfl)) (hts (.initialized "java/lang/System") (List.mem_of_getElem? (i := 5) rfl)) hK hP hD hS 3 1 rfl rfl (n := 252) rfl rfl rfl (by decide) (Nat.le_of_ble_eq_true rfl) (Nat.le_of_ble_eq_true rfl) dX3_copyFrom_13 (fun H locs hP hD hS => ?_)
  have hP : va_P G.1 vwCl [(h0, OB 3 [.ref hb0, .int (nI n)]), (hb0, AI G 252 f1), (h1, OB 3 [.ref hb1, .int (nI n1)]), (hb1, AI G 252 f1)] H := hP
  have hD : va_D A [(h0, OB 3 [.ref hb0, .int (nI n)]), (hb0, AI G 252 f1), (h1, OB 3 [.ref hb1, .int (nI n1)]), (hb1, AI G 252 f1)] := hD
  refine lv_aload_n hx hb dX3_copyFrom_16 rfl (lv_at hl 0 rfl) ?_
  refine lv_aload_n hx hb dX3_copyFrom_17 rfl (lv_at hl 1 rfl) ?_
  refine va_get (D := G.1) (ci := 3) (v := .int (nI n1)) (C := RX3) (T := TX3) (N := 2) hx hb hts hi3 hown hK hP 2 rfl rfl 1 (by decide) (hts (.fieldLink RX3 15 "ConflictEnumerator$SelectionList" "size" "I") (List.mem_of_getElem? (i := 6) rfl)) (fun _ h9 => h9) rfl dX3_copyFrom_18 ?_
  refine va_put (D := G.1) (ci := 3) (v := .int (nI n1)) (ty := .int) (C := RX3) (T := TX3) (N := 2) hx hb hts hi3 tyX3 tyX3_ok nmX3 hown hK hP hD hS 0 rfl rfl 1 (by decide) (hts (.fieldLink RX3 15 "ConflictEnumerator$SelectionList" "size" "I") (List.mem_of_getElem? (i := 6) rfl)) (fun _ h9 => h9) rfl (by decide +kernel) rfl rfl (Nat.le_of_ble_eq_true rfl) dX3_copyFrom_21 (fun H locs hP hD hS => ?_)
  have hP : va_P G.1 vwCl [(h0, OB 3 [.ref hb0, .int (nI n1)]), (hb0, AI G 252 f1), (h1, OB 3 [.ref hb1, .int (nI n1)]), (hb1, AI G 252 f1)] H := hP
  have hD : va_D A [(h0, OB 3 [.ref hb0, .int (nI n1)]), (hb0, AI G 252 f1), (h1, OB 3 [.ref hb1, .int (nI n1)]), (hb1, AI G 252 f1)] := hD
  exact ret _ _ _ _ _ _ _ (Nat.le_of_ble_eq_true rfl) (Nat.le_of_ble_eq_true rfl) (rfl) (hP.sub (ws' := [(h0, OB 3 [.ref hb0, .int (nI n1)]), (hb0, AI G 252 f1), (h1, OB 3 [.ref hb1, .int (nI n1)]), (hb1, AI G 252 f1)]) [0, 1, 2, 3] rfl) (hD.sub (ws' := [(h0, OB 3 [.ref hb0, .int (nI n1)]), (hb0, AI G 252 f1), (h1, OB 3 [.ref hb1, .int (nI n1)]), (hb1, AI G 252 f1)]) [0, 1, 2, 3] (by decide) rfl) hS dX3_copyFrom_24
abbrev rmX5_init : Room := { frames := 1, cells := 1, slots := 120, locals := 12 }
set_option maxHeartbeats 4000000 in
set_option maxRecDepth 100000 in
theorem c_X5_init (l : Launch) (G : GT) (h0 : Nat)  : Cv l yX5_init wsX5_init rmX5_init G [.ref h0] [(h0, OB 5 [.null, .int 0])] (fun u => ∃ (hb0 : Nat), u = [(h0, OB 5 [.ref hb0, .int (nI 0)]), (hb0, AI G 120 (fun _ => 0))]) := by
  refine Cv.of (cc := cX5_init) (maxL := 1) (by decide) rfl (Nat.le_of_ble_eq_true rfl) ?_
  intro p e s m below meth c A ls Q hx hb hml hts hown hin hA hS hP hK hN hSS hD hl ret
  have hown : s.vm.findClass RX5 = some m.cls := hown
  have hl : lv_has ls 1 [(0, .ref h0)] := hl
  have hi5 : ∀ w ∈ wsX50, w ∈ wsX5_init := mem_places [6, 7] (by decide +kernel)
  refine lv_aload_n hx hb dX5_init_0 rfl (lv_at hl 0 rfl) ?_
  refine W.objInit hx hb hown (hts (.methodLink RX5 3 objectInit) (List.mem_of_getElem? (i := 1) rfl)) (hts (.instanceMethod objectInit) (List.mem_of_getElem? (i := 2) rfl)) (hts _ (List.mem_of_getElem? (i := 3) rfl)) rfl (by rw [hml]; exact hl.1) rfl dX5_init_1 (Nat.le_of_ble_eq_true rfl) (Nat.le_of_ble_eq_true rfl) ?_
  refine W.eq (g2 := F0 m 4 ls []) rfl ?_
  refine lv_aload_n hx hb dX5_init_4 rfl (lv_at hl 0 rfl) ?_
  refine lv_bipush (v := 120) hx hb dX5_init_5 (by decide) ?_
  refine wa_newI hx hb (hts (.arrayClass .int) (List.mem_of_getElem? (i := 4) rfl)) hK hP hD hS hA (n := 120) 120 (by decide) rfl (by decide) (Nat.le_of_ble_eq_true rfl) (Nat.le_of_ble_eq_true rfl) dX5_init_7 (fun q7 H hP hD hS => ?_)
  have hP : va_P G.1 vwCl [(h0, OB 5 [.null, .int 0]), (q7, AI G 120 (fun _ => 0))] H := hP
  have hD : va_D A [(h0, OB 5 [.null, .int 0]), (q7, AI G 120 (fun _ => 0))] := hD
  refine W.widen (k := 1) (n := 120) (Nat.le_of_ble_eq_true rfl) (Nat.le_of_ble_eq_true rfl) ?_
  refine va_putF (D := G.1) (ci := 5) (v := .ref q7) (ty := .array (.int)) (C := RX5) (T := TX5) (N := 2) hx hb hts hi5 tyX5 tyX5_ok nmX5 hown hK hP hD hS 0 rfl rfl 0 (by decide) (hts (.fieldLink RX5 9 "ConflictEnumerator$Text" "characters" "[I") (List.mem_of_getElem? (i := 5) rfl)) (fun _ h9 => h9) rfl hin rfl (by decide +kernel) rfl rfl (Nat.le_of_ble_eq_true rfl) dX5_init_9 (fun H locs hP hD hS => ?_)
  have hP : va_P G.1 vwCl [(h0, OB 5 [.ref q7, .int 0]), (q7, AI G 120 (fun _ => 0))] H := hP
  have hD : va_D A [(h0, OB 5 [.ref q7, .int 0]), (q7, AI G 120 (fun _ => 0))] := hD
  exact ret _ _ _ _ _ _ _ (Nat.le_of_ble_eq_true rfl) (Nat.le_of_ble_eq_true rfl) (⟨q7, rfl⟩) (hP.sub (ws' := [(h0, OB 5 [.ref q7, .int 0]), (q7, AI G 120 (fun _ => 0))]) [0, 1] rfl) (hD.sub (ws' := [(h0, OB 5 [.ref q7, .int 0]), (q7, AI G 120 (fun _ => 0))]) [0, 1] (by decide) rfl) hS dX5_init_12
abbrev rmX5_length : Room := { frames := 0, cells := 0, slots := 0, locals := 0 }
set_option maxHeartbeats 4000000 in
set_option maxRecDepth 100000 in
theorem c_X5_length (l : Launch) (G : GT) (h0 hb0 : Nat) (f : Nat → Int32) (n : Nat)  : Ci l yX5_length wsX5_length rmX5_length G [.ref h0] [(h0, OB 5 [.ref hb0, .int (nI n)]), (hb0, AI G 120 f)] (fun r u => r = nI n ∧ u = [(h0, OB 5 [.ref hb0, .int (nI n)]), (hb0, AI G 120 f)]) := by
  refine Ci.of (cc := cX5_length) (maxL := 1) (ty := .int) (by decide) rfl (Nat.le_of_ble_eq_true rfl) ?_
  intro p e s m below meth c A ls Q hx hb hml hts hown hA hS hP hK hN hSS hD hl ret
  have hown : s.vm.findClass RX5 = some m.cls := hown
  have hl : lv_has ls 1 [(0, .ref h0)] := hl
  have hi5 : ∀ w ∈ wsX50, w ∈ wsX5_length := mem_places [2, 3] (by decide +kernel)
  refine lv_aload_n hx hb dX5_length_0 rfl (lv_at hl 0 rfl) ?_
  refine va_get (D := G.1) (ci := 5) (v := .int (nI n)) (C := RX5) (T := TX5) (N := 2) hx hb hts hi5 hown hK hP 0 rfl rfl 1 (by decide) (hts (.fieldLink RX5 15 "ConflictEnumerator$Text" "length" "I") (List.mem_of_getElem? (i := 1) rfl)) (fun _ h9 => h9) rfl dX5_length_1 ?_
  exact ret (nI n) _ _ _ _ _ _ _ (Nat.le_of_ble_eq_true rfl) (Nat.le_of_ble_eq_true rfl) (rfl) (⟨rfl, rfl⟩) (hP.sub (ws' := [(h0, OB 5 [.ref hb0, .int (nI n)]), (hb0, AI G 120 f)]) [0, 1] rfl) (hD.sub (ws' := [(h0, OB 5 [.ref hb0, .int (nI n)]), (hb0, AI G 120 f)]) [0, 1] (by decide) rfl) hS dX5_length_4
abbrev rmX5_isFull : Room := { frames := 0, cells := 0, slots := 0, locals := 0 }
set_option maxHeartbeats 4000000 in
set_option maxRecDepth 100000 in
theorem c_X5_isFull (l : Launch) (G : GT) (h0 hb0 : Nat) (f : Nat → Int32) (n : Nat) (hn : n ≤ 120) : Ci l yX5_isFull wsX5_isFull rmX5_isFull G [.ref h0] [(h0, OB 5 [.ref hb0, .int (nI n)]), (hb0, AI G 120 f)] (fun r u => r = bI (decide (120 ≤ n)) ∧ u = [(h0, OB 5 [.ref hb0, .int (nI n)]), (hb0, AI G 120 f)]) := by
  refine Ci.of (cc := cX5_isFull) (maxL := 1) (ty := .boolean) (by decide) rfl (Nat.le_of_ble_eq_true rfl) ?_
  intro p e s m below meth c A ls Q hx hb hml hts hown hA hS hP hK hN hSS hD hl ret
  have hown : s.vm.findClass RX5 = some m.cls := hown
  have hl : lv_has ls 1 [(0, .ref h0)] := hl
  have hi5 : ∀ w ∈ wsX50, w ∈ wsX5_isFull := mem_places [2, 3] (by decide +kernel)
  refine lv_aload_n hx hb dX5_isFull_0 rfl (lv_at hl 0 rfl) ?_
  refine va_get (D := G.1) (ci := 5) (v := .int (nI n)) (C := RX5) (T := TX5) (N := 2) hx hb hts hi5 hown hK hP 0 rfl rfl 1 (by decide) (hts (.fieldLink RX5 15 "ConflictEnumerator$Text" "length" "I") (List.mem_of_getElem? (i := 1) rfl)) (fun _ h9 => h9) rfl dX5_isFull_1 ?_
  refine lv_bipush (v := 120) hx hb dX5_isFull_4 (by decide) ?_
  refine lv_icmp_lt (tgt := 13) hx hb dX5_isFull_6 (by decide) (fun c_6 => ?_) (fun c_6 => ?_)
  ·
    have c_6 : n < 120 := (nI_ltI (a := n) (b := 120) (by omega) (by omega)).mp c_6
    refine lv_iconst (v := 0) hx hb dX5_isFull_13 (by decide) ?_
    exact ret 0 _ _ _ _ _ _ _ (Nat.le_of_ble_eq_true rfl) (Nat.le_of_ble_eq_true rfl) (rfl) (⟨by simp [bI] <;> omega, rfl⟩) (hP.sub (ws' := [(h0, OB 5 [.ref hb0, .int (nI n)]), (hb0, AI G 120 f)]) [0, 1] rfl) (hD.sub (ws' := [(h0, OB 5 [.ref hb0, .int (nI n)]), (hb0, AI G 120 f)]) [0, 1] (by decide) rfl) hS dX5_isFull_14
  ·
    have c_6 : 120 ≤ n := by have h9 := mt (nI_ltI (a := n) (b := 120) (by omega) (by omega)).mpr c_6; omega
    refine lv_iconst (v := 1) hx hb dX5_isFull_9 (by decide) ?_
    refine lv_goto (tgt := 14) hx hb dX5_isFull_10 (by decide) ?_
    exact ret 1 _ _ _ _ _ _ _ (Nat.le_of_ble_eq_true rfl) (Nat.le_of_ble_eq_true rfl) (rfl) (⟨by simp [bI] <;> omega, rfl⟩) (hP.sub (ws' := [(h0, OB 5 [.ref hb0, .int (nI n)]), (hb0, AI G 120 f)]) [0, 1] rfl) (hD.sub (ws' := [(h0, OB 5 [.ref hb0, .int (nI n)]), (hb0, AI G 120 f)]) [0, 1] (by decide) rfl) hS dX5_isFull_14
abbrev rmX5_add : Room := { frames := 0, cells := 0, slots := 0, locals := 0 }
set_option maxHeartbeats 4000000 in
set_option maxRecDepth 100000 in
theorem c_X5_add (l : Launch) (G : GT) (h0 hb0 : Nat) (f : Nat → Int32) (n : Nat) (x : Int32) (hn : n < 120) : Cv l yX5_add wsX5_add rmX5_add G [.ref h0, .int x] [(h0, OB 5 [.ref hb0, .int (nI n)]), (hb0, AI G 120 f)] (fun u => u = [(h0, OB 5 [.ref hb0, .int (nI (n + 1))]), (hb0, AI G 120 (va_up f n x))]) := by
  refine Cv.of (cc := cX5_add) (maxL := 2) (by decide) rfl (Nat.le_of_ble_eq_true rfl) ?_
  intro p e s m below meth c A ls Q hx hb hml hts hown hin hA hS hP hK hN hSS hD hl ret
  have hown : s.vm.findClass RX5 = some m.cls := hown
  have hl : lv_has ls 2 [(0, .ref h0), (1, .int x)] := hl
  have hi5 : ∀ w ∈ wsX50, w ∈ wsX5_add := mem_places [3, 4] (by decide +kernel)
  refine lv_aload_n hx hb dX5_add_0 rfl (lv_at hl 0 rfl) ?_
  refine va_get (D := G.1) (ci := 5) (v := .int (nI n)) (C := RX5) (T := TX5) (N := 2) hx hb hts hi5 hown hK hP 0 rfl rfl 1 (by decide) (hts (.fieldLink RX5 15 "ConflictEnumerator$Text" "length" "I") (List.mem_of_getElem? (i := 1) rfl)) (fun _ h9 => h9) rfl dX5_add_1 ?_
  refine lv_bipush (v := 120) hx hb dX5_add_4 (by decide) ?_
  refine lv_icmp_ge (tgt := 29) hx hb dX5_add_6 (by decide) (fun c_6 => ?_) (fun c_6 => ?_)
  ·
    have c_6 : 120 ≤ n := (nI_leI (a := 120) (b := n) (by omega) (by omega)).mp c_6
    omega
  ·
    have c_6 : n < 120 := by have h9 := mt (nI_leI (a := 120) (b := n) (by omega) (by omega)).mpr c_6; omega
    refine lv_aload_n hx hb dX5_add_9 rfl (lv_at hl 0 rfl) ?_
    refine va_get (D := G.1) (ci := 5) (v := .ref hb0) (C := RX5) (T := TX5) (N := 2) hx hb hts hi5 hown hK hP 0 rfl rfl 0 (by decide) (hts (.fieldLink RX5 9 "ConflictEnumerator$Text" "characters" "[I") (List.mem_of_getElem? (i := 2) rfl)) (fun _ h9 => h9) rfl dX5_add_10 ?_
    refine lv_aload_n hx hb dX5_add_13 rfl (lv_at hl 0 rfl) ?_
    refine va_get (D := G.1) (ci := 5) (v := .int (nI n)) (C := RX5) (T := TX5) (N := 2) hx hb hts hi5 hown hK hP 0 rfl rfl 1 (by decide) (hts (.fieldLink RX5 15 "ConflictEnumerator$Text" "length" "I") (List.mem_of_getElem? (i := 1) rfl)) (fun _ h9 => h9) rfl dX5_add_14 ?_
    refine lv_iload_n hx hb dX5_add_17 rfl (lv_at hl 1 rfl) ?_
    refine wa_iast hx hb hK hP hD hS 1 rfl (n) (rfl) (by omega) (by decide) dX5_add_18 (fun H locs hP hD hS => ?_)
    have hP : va_P G.1 vwCl [(h0, OB 5 [.ref hb0, .int (nI n)]), (hb0, AI G 120 (va_up f n x))] H := hP
    have hD : va_D A [(h0, OB 5 [.ref hb0, .int (nI n)]), (hb0, AI G 120 (va_up f n x))] := hD
    refine lv_aload_n hx hb dX5_add_19 rfl (lv_at hl 0 rfl) ?_
    refine lv_dup hx hb dX5_add_20 rfl ?_
    refine va_get (D := G.1) (ci := 5) (v := .int (nI n)) (C := RX5) (T := TX5) (N := 2) hx hb hts hi5 hown hK hP 0 rfl rfl 1 (by decide) (hts (.fieldLink RX5 15 "ConflictEnumerator$Text" "length" "I") (List.mem_of_getElem? (i := 1) rfl)) (fun _ h9 => h9) rfl dX5_add_21 ?_
    refine lv_iconst (v := 1) hx hb dX5_add_24 (by decide) ?_
    refine wn_iadd hx hb (n) (1) rfl rfl dX5_add_25 ?_
    refine va_put (D := G.1) (ci := 5) (v := .int (nI (n + 1))) (ty := .int) (C := RX5) (T := TX5) (N := 2) hx hb hts hi5 tyX5 tyX5_ok nmX5 hown hK hP hD hS 0 rfl rfl 1 (by decide) (hts (.fieldLink RX5 15 "ConflictEnumerator$Text" "length" "I") (List.mem_of_getElem? (i := 1) rfl)) (fun _ h9 => h9) rfl (by decide +kernel) rfl rfl (Nat.le_of_ble_eq_true rfl) dX5_add_26 (fun H locs hP hD hS => ?_)
    have hP : va_P G.1 vwCl [(h0, OB 5 [.ref hb0, .int (nI (n + 1))]), (hb0, AI G 120 (va_up f n x))] H := hP
    have hD : va_D A [(h0, OB 5 [.ref hb0, .int (nI (n + 1))]), (hb0, AI G 120 (va_up f n x))] := hD
    exact ret _ _ _ _ _ _ _ (Nat.le_of_ble_eq_true rfl) (Nat.le_of_ble_eq_true rfl) (rfl) (hP.sub (ws' := [(h0, OB 5 [.ref hb0, .int (nI (n + 1))]), (hb0, AI G 120 (va_up f n x))]) [0, 1] rfl) (hD.sub (ws' := [(h0, OB 5 [.ref hb0, .int (nI (n + 1))]), (hb0, AI G 120 (va_up f n x))]) [0, 1] (by decide) rfl) hS dX5_add_29
abbrev rmX5_clear : Room := { frames := 0, cells := 0, slots := 0, locals := 0 }
set_option maxHeartbeats 4000000 in
set_option maxRecDepth 100000 in
theorem c_X5_clear (l : Launch) (G : GT) (h0 hb0 : Nat) (f : Nat → Int32) (n : Nat)  : Cv l yX5_clear wsX5_clear rmX5_clear G [.ref h0] [(h0, OB 5 [.ref hb0, .int (nI n)]), (hb0, AI G 120 f)] (fun u => u = [(h0, OB 5 [.ref hb0, .int (nI 0)]), (hb0, AI G 120 f)]) := by
  refine Cv.of (cc := cX5_clear) (maxL := 1) (by decide) rfl (Nat.le_of_ble_eq_true rfl) ?_
  intro p e s m below meth c A ls Q hx hb hml hts hown hin hA hS hP hK hN hSS hD hl ret
  have hown : s.vm.findClass RX5 = some m.cls := hown
  have hl : lv_has ls 1 [(0, .ref h0)] := hl
  have hi5 : ∀ w ∈ wsX50, w ∈ wsX5_clear := mem_places [2, 3] (by decide +kernel)
  refine lv_aload_n hx hb dX5_clear_0 rfl (lv_at hl 0 rfl) ?_
  refine lv_iconst (v := 0) hx hb dX5_clear_1 (by decide) ?_
  refine va_put (D := G.1) (ci := 5) (v := .int 0) (ty := .int) (C := RX5) (T := TX5) (N := 2) hx hb hts hi5 tyX5 tyX5_ok nmX5 hown hK hP hD hS 0 rfl rfl 1 (by decide) (hts (.fieldLink RX5 15 "ConflictEnumerator$Text" "length" "I") (List.mem_of_getElem? (i := 1) rfl)) (fun _ h9 => h9) rfl (by decide +kernel) rfl rfl (Nat.le_of_ble_eq_true rfl) dX5_clear_2 (fun H locs hP hD hS => ?_)
  have hP : va_P G.1 vwCl [(h0, OB 5 [.ref hb0, .int 0]), (hb0, AI G 120 f)] H := hP
  have hD : va_D A [(h0, OB 5 [.ref hb0, .int 0]), (hb0, AI G 120 f)] := hD
  exact ret _ _ _ _ _ _ _ (Nat.le_of_ble_eq_true rfl) (Nat.le_of_ble_eq_true rfl) (rfl) (hP.sub (ws' := [(h0, OB 5 [.ref hb0, .int 0]), (hb0, AI G 120 f)]) [0, 1] rfl) (hD.sub (ws' := [(h0, OB 5 [.ref hb0, .int 0]), (hb0, AI G 120 f)]) [0, 1] (by decide) rfl) hS dX5_clear_5
abbrev rmX5_at : Room := { frames := 0, cells := 0, slots := 0, locals := 0 }
set_option maxHeartbeats 4000000 in
set_option maxRecDepth 100000 in
theorem c_X5_at (l : Launch) (G : GT) (h0 hb0 : Nat) (f : Nat → Int32) (n : Nat) (k : Int32) (hn : n ≤ 120) : Ci l yX5_at wsX5_at rmX5_at G [.ref h0, .int k] [(h0, OB 5 [.ref hb0, .int (nI n)]), (hb0, AI G 120 f)] (fun r u => r = getF f n k ∧ u = [(h0, OB 5 [.ref hb0, .int (nI n)]), (hb0, AI G 120 f)]) := by
  refine Ci.of (cc := cX5_at) (maxL := 2) (ty := .int) (by decide) rfl (Nat.le_of_ble_eq_true rfl) ?_
  intro p e s m below meth c A ls Q hx hb hml hts hown hA hS hP hK hN hSS hD hl ret
  have hown : s.vm.findClass RX5 = some m.cls := hown
  have hl : lv_has ls 2 [(0, .ref h0), (1, .int k)] := hl
  have hi5 : ∀ w ∈ wsX50, w ∈ wsX5_at := mem_places [3, 4] (by decide +kernel)
  refine lv_iload_n hx hb dX5_at_0 rfl (lv_at hl 1 rfl) ?_
  refine lv_if_lt (tgt := 12) hx hb dX5_at_1 (by decide) (fun c_1 => ?_) (fun c_1 => ?_)
  ·
    refine lv_bipush (v := (-9)) hx hb dX5_at_12 (by decide) ?_
    exact ret (-9) _ _ _ _ _ _ _ (Nat.le_of_ble_eq_true rfl) (Nat.le_of_ble_eq_true rfl) (rfl) (⟨by unfold getF; rw [if_neg (by first | rw [ng_inB c_1]; decide | rw [ge_inB c_9]; decide)], rfl⟩) (hP.sub (ws' := [(h0, OB 5 [.ref hb0, .int (nI n)]), (hb0, AI G 120 f)]) [0, 1] rfl) (hD.sub (ws' := [(h0, OB 5 [.ref hb0, .int (nI n)]), (hb0, AI G 120 f)]) [0, 1] (by decide) rfl) hS dX5_at_14
  ·
    refine lv_iload_n hx hb dX5_at_4 rfl (lv_at hl 1 rfl) ?_
    refine lv_aload_n hx hb dX5_at_5 rfl (lv_at hl 0 rfl) ?_
    refine va_get (D := G.1) (ci := 5) (v := .int (nI n)) (C := RX5) (T := TX5) (N := 2) hx hb hts hi5 hown hK hP 0 rfl rfl 1 (by decide) (hts (.fieldLink RX5 15 "ConflictEnumerator$Text" "length" "I") (List.mem_of_getElem? (i := 1) rfl)) (fun _ h9 => h9) rfl dX5_at_6 ?_
    refine lv_icmp_lt (tgt := 15) hx hb dX5_at_9 (by decide) (fun c_9 => ?_) (fun c_9 => ?_)
    ·
      obtain ⟨j, hj, hkj⟩ := inB_t (by omega) (lt_inB c_1 c_9)
      refine lv_aload_n hx hb dX5_at_15 rfl (lv_at hl 0 rfl) ?_
      refine va_get (D := G.1) (ci := 5) (v := .ref hb0) (C := RX5) (T := TX5) (N := 2) hx hb hts hi5 hown hK hP 0 rfl rfl 0 (by decide) (hts (.fieldLink RX5 9 "ConflictEnumerator$Text" "characters" "[I") (List.mem_of_getElem? (i := 2) rfl)) (fun _ h9 => h9) rfl dX5_at_16 ?_
      refine lv_iload_n hx hb dX5_at_19 rfl (lv_at hl 1 rfl) ?_
      refine wa_iald hx hb hK hP 1 rfl (j) (hkj) (by omega) (by decide) dX5_at_20 ?_
      exact ret (f j) _ _ _ _ _ _ _ (Nat.le_of_ble_eq_true rfl) (Nat.le_of_ble_eq_true rfl) (rfl) (⟨by rw [hkj, getF_nI hj (by omega)], rfl⟩) (hP.sub (ws' := [(h0, OB 5 [.ref hb0, .int (nI n)]), (hb0, AI G 120 f)]) [0, 1] rfl) (hD.sub (ws' := [(h0, OB 5 [.ref hb0, .int (nI n)]), (hb0, AI G 120 f)]) [0, 1] (by decide) rfl) hS dX5_at_21
    ·
      refine lv_bipush (v := (-9)) hx hb dX5_at_12 (by decide) ?_
      exact ret (-9) _ _ _ _ _ _ _ (Nat.le_of_ble_eq_true rfl) (Nat.le_of_ble_eq_true rfl) (rfl) (⟨by unfold getF; rw [if_neg (by first | rw [ng_inB c_1]; decide | rw [ge_inB c_9]; decide)], rfl⟩) (hP.sub (ws' := [(h0, OB 5 [.ref hb0, .int (nI n)]), (hb0, AI G 120 f)]) [0, 1] rfl) (hD.sub (ws' := [(h0, OB 5 [.ref hb0, .int (nI n)]), (hb0, AI G 120 f)]) [0, 1] (by decide) rfl) hS dX5_at_14
abbrev rmX5_isLetter : Room := { frames := 1, cells := 0, slots := 0, locals := 21 }
set_option maxHeartbeats 4000000 in
set_option maxRecDepth 100000 in
theorem c_X5_isLetter (l : Launch) (G : GT) (h0 hb0 : Nat) (f : Nat → Int32) (n : Nat) (k : Int32) (hn : n ≤ 120) : Ci l yX5_isLetter wsX5_isLetter rmX5_isLetter G [.ref h0, .int k] [(h0, OB 5 [.ref hb0, .int (nI n)]), (hb0, AI G 120 f)] (fun r u => r = bI (letB (getF f n k)) ∧ u = [(h0, OB 5 [.ref hb0, .int (nI n)]), (hb0, AI G 120 f)]) := by
  refine Ci.of (cc := cX5_isLetter) (maxL := 3) (ty := .boolean) (by decide) rfl (Nat.le_of_ble_eq_true rfl) ?_
  intro p e s m below meth c A ls Q hx hb hml hts hown hA hS hP hK hN hSS hD hl ret
  have hown : s.vm.findClass RX5 = some m.cls := hown
  have hl : lv_has ls 3 [(0, .ref h0), (1, .int k)] := hl
  refine lv_aload_n hx hb dX5_isLetter_0 rfl (lv_at hl 0 rfl) ?_
  refine lv_iload_n hx hb dX5_isLetter_1 rfl (lv_at hl 1 rfl) ?_
  refine call_Vi (rest := []) (As := [.int k]) (wr := []) (c1 := 0) (s1 := 0) ⟨hx, hb, hml, hown, hts⟩ (c_X5_at l G h0 hb0 f n k (by first | assumption | omega)) (cwV 1 hts gX5_isLetter_X5_at rfl rfl rfl (by decide +kernel) ⟨Nat.le_of_ble_eq_true rfl, Nat.le_of_ble_eq_true rfl⟩) hK hN hSS hP hD hS hA 0 5 rfl rfl rfl [0, 1] [] rfl rfl (by decide) (by decide) (by decide) rfl hl.1 rfl (Nat.le_of_ble_eq_true rfl) dX5_isLetter_2 ⟨Nat.le_of_ble_eq_true rfl, Nat.le_of_ble_eq_true rfl⟩ rfl rfl (fun r_2 u_2 H locs hpo hP hD hS => ?_)
  obtain ⟨hr9, rfl⟩ := hpo
  subst r_2
  have hP : va_P G.1 vwCl [(h0, OB 5 [.ref hb0, .int (nI n)]), (hb0, AI G 120 f)] H := hP
  have hD : va_D A [(h0, OB 5 [.ref hb0, .int (nI n)]), (hb0, AI G 120 f)] := hD
  refine lv_istore_n (lv' := [(2, .int (getF f n k)), (0, .ref h0), (1, .int k)]) hx hb dX5_isLetter_5 rfl hl (by decide) rfl (fun ls hl => ?_)
  refine lv_iload_n hx hb dX5_isLetter_6 rfl (lv_at hl 0 rfl) ?_
  refine lv_bipush (v := 97) hx hb dX5_isLetter_7 (by decide) ?_
  refine lv_icmp_lt (tgt := 22) hx hb dX5_isLetter_9 (by decide) (fun c_9 => ?_) (fun c_9 => ?_)
  ·
    refine lv_iconst (v := 0) hx hb dX5_isLetter_22 (by decide) ?_
    exact ret 0 _ _ _ _ _ _ _ (Nat.le_of_ble_eq_true rfl) (Nat.le_of_ble_eq_true rfl) (rfl) (⟨by simp [bI, letB, c_9], rfl⟩) (hP.sub (ws' := [(h0, OB 5 [.ref hb0, .int (nI n)]), (hb0, AI G 120 f)]) [0, 1] rfl) (hD.sub (ws' := [(h0, OB 5 [.ref hb0, .int (nI n)]), (hb0, AI G 120 f)]) [0, 1] (by decide) rfl) hS dX5_isLetter_23
  ·
    refine lv_iload_n hx hb dX5_isLetter_12 rfl (lv_at hl 0 rfl) ?_
    refine lv_bipush (v := 122) hx hb dX5_isLetter_13 (by decide) ?_
    refine lv_icmp_gt (tgt := 22) hx hb dX5_isLetter_15 (by decide) (fun c_15 => ?_) (fun c_15 => ?_)
    ·
      refine lv_iconst (v := 0) hx hb dX5_isLetter_22 (by decide) ?_
      exact ret 0 _ _ _ _ _ _ _ (Nat.le_of_ble_eq_true rfl) (Nat.le_of_ble_eq_true rfl) (rfl) (⟨by simp [bI, letB, c_9, c_15], rfl⟩) (hP.sub (ws' := [(h0, OB 5 [.ref hb0, .int (nI n)]), (hb0, AI G 120 f)]) [0, 1] rfl) (hD.sub (ws' := [(h0, OB 5 [.ref hb0, .int (nI n)]), (hb0, AI G 120 f)]) [0, 1] (by decide) rfl) hS dX5_isLetter_23
    ·
      refine lv_iconst (v := 1) hx hb dX5_isLetter_18 (by decide) ?_
      refine lv_goto (tgt := 23) hx hb dX5_isLetter_19 (by decide) ?_
      exact ret 1 _ _ _ _ _ _ _ (Nat.le_of_ble_eq_true rfl) (Nat.le_of_ble_eq_true rfl) (rfl) (⟨by simp [bI, letB, c_9, c_15], rfl⟩) (hP.sub (ws' := [(h0, OB 5 [.ref hb0, .int (nI n)]), (hb0, AI G 120 f)]) [0, 1] rfl) (hD.sub (ws' := [(h0, OB 5 [.ref hb0, .int (nI n)]), (hb0, AI G 120 f)]) [0, 1] (by decide) rfl) hS dX5_isLetter_23
abbrev rmJ6_bitCount_0f7a4 : Room := { frames := 0, cells := 0, slots := 0, locals := 0 }
set_option maxHeartbeats 4000000 in
set_option maxRecDepth 100000 in
theorem c_J6_bitCount_0f7a4 (l : Launch) (G : GT) (x : Int32)  : Ci l yJ6_bitCount_0f7a4 wsJ6_bitCount_0f7a4 rmJ6_bitCount_0f7a4 G [.int x] [] (fun r u => r = bcI x ∧ u = []) := by
  refine Ci.of (cc := cJ6_bitCount_0f7a4) (maxL := 1) (ty := .int) (by decide) rfl (Nat.le_of_ble_eq_true rfl) ?_
  intro p e s m below meth c A ls Q hx hb hml hts hown hA hS hP hK hN hSS hD hl ret
  have hown : s.vm.findClass RJ6 = some m.cls := hown
  have hl : lv_has ls 1 [(0, .int x)] := hl
  refine lv_iload_n hx hb dJ6_bitCount_0f7a4_0 rfl (lv_at hl 0 rfl) ?_
  refine lv_iload_n hx hb dJ6_bitCount_0f7a4_1 rfl (lv_at hl 0 rfl) ?_
  refine lv_iconst (v := 1) hx hb dJ6_bitCount_0f7a4_2 (by decide) ?_
  refine lv_iushr (v := ((x : Int32).toUInt32 >>> ((1 : Int32).toUInt32 &&& Int32.toUInt32 31)).toInt32) hx hb dJ6_bitCount_0f7a4_3 rfl ?_
  refine lv_ldcw (v := (1431655765)) hx hb hown (hts (.constant RJ6 265 (1431655765)) (List.mem_of_getElem? (i := 1) rfl)) dJ6_bitCount_0f7a4_4 ?_
  refine lv_iand hx hb dJ6_bitCount_0f7a4_7 ?_
  refine lv_isub hx hb dJ6_bitCount_0f7a4_8 ?_
  refine lv_topi (fun x1 e_x1 => ?_)
  refine lv_istore_n (lv' := [(0, .int x1)]) hx hb dJ6_bitCount_0f7a4_9 rfl hl (by decide) rfl (fun ls hl => ?_)
  refine lv_iload_n hx hb dJ6_bitCount_0f7a4_10 rfl (lv_at hl 0 rfl) ?_
  refine lv_ldcw (v := (858993459)) hx hb hown (hts (.constant RJ6 266 (858993459)) (List.mem_of_getElem? (i := 2) rfl)) dJ6_bitCount_0f7a4_11 ?_
  refine lv_iand hx hb dJ6_bitCount_0f7a4_14 ?_
  refine lv_iload_n hx hb dJ6_bitCount_0f7a4_15 rfl (lv_at hl 0 rfl) ?_
  refine lv_iconst (v := 2) hx hb dJ6_bitCount_0f7a4_16 (by decide) ?_
  refine lv_iushr (v := ((x1 : Int32).toUInt32 >>> ((2 : Int32).toUInt32 &&& Int32.toUInt32 31)).toInt32) hx hb dJ6_bitCount_0f7a4_17 rfl ?_
  refine lv_ldcw (v := (858993459)) hx hb hown (hts (.constant RJ6 266 (858993459)) (List.mem_of_getElem? (i := 2) rfl)) dJ6_bitCount_0f7a4_18 ?_
  refine lv_iand hx hb dJ6_bitCount_0f7a4_21 ?_
  refine lv_iadd hx hb dJ6_bitCount_0f7a4_22 ?_
  refine lv_topi (fun x2 e_x2 => ?_)
  refine lv_istore_n (lv' := [(0, .int x2)]) hx hb dJ6_bitCount_0f7a4_23 rfl hl (by decide) rfl (fun ls hl => ?_)
  refine lv_iload_n hx hb dJ6_bitCount_0f7a4_24 rfl (lv_at hl 0 rfl) ?_
  refine lv_iload_n hx hb dJ6_bitCount_0f7a4_25 rfl (lv_at hl 0 rfl) ?_
  refine lv_iconst (v := 4) hx hb dJ6_bitCount_0f7a4_26 (by decide) ?_
  refine lv_iushr (v := ((x2 : Int32).toUInt32 >>> ((4 : Int32).toUInt32 &&& Int32.toUInt32 31)).toInt32) hx hb dJ6_bitCount_0f7a4_27 rfl ?_
  refine lv_iadd hx hb dJ6_bitCount_0f7a4_28 ?_
  refine lv_ldcw (v := (252645135)) hx hb hown (hts (.constant RJ6 267 (252645135)) (List.mem_of_getElem? (i := 3) rfl)) dJ6_bitCount_0f7a4_29 ?_
  refine lv_iand hx hb dJ6_bitCount_0f7a4_32 ?_
  refine lv_topi (fun x3 e_x3 => ?_)
  refine lv_istore_n (lv' := [(0, .int x3)]) hx hb dJ6_bitCount_0f7a4_33 rfl hl (by decide) rfl (fun ls hl => ?_)
  refine lv_iload_n hx hb dJ6_bitCount_0f7a4_34 rfl (lv_at hl 0 rfl) ?_
  refine lv_iload_n hx hb dJ6_bitCount_0f7a4_35 rfl (lv_at hl 0 rfl) ?_
  refine lv_bipush (v := 8) hx hb dJ6_bitCount_0f7a4_36 (by decide) ?_
  refine lv_iushr (v := ((x3 : Int32).toUInt32 >>> ((8 : Int32).toUInt32 &&& Int32.toUInt32 31)).toInt32) hx hb dJ6_bitCount_0f7a4_38 rfl ?_
  refine lv_iadd hx hb dJ6_bitCount_0f7a4_39 ?_
  refine lv_topi (fun x4 e_x4 => ?_)
  refine lv_istore_n (lv' := [(0, .int x4)]) hx hb dJ6_bitCount_0f7a4_40 rfl hl (by decide) rfl (fun ls hl => ?_)
  refine lv_iload_n hx hb dJ6_bitCount_0f7a4_41 rfl (lv_at hl 0 rfl) ?_
  refine lv_iload_n hx hb dJ6_bitCount_0f7a4_42 rfl (lv_at hl 0 rfl) ?_
  refine lv_bipush (v := 16) hx hb dJ6_bitCount_0f7a4_43 (by decide) ?_
  refine lv_iushr (v := ((x4 : Int32).toUInt32 >>> ((16 : Int32).toUInt32 &&& Int32.toUInt32 31)).toInt32) hx hb dJ6_bitCount_0f7a4_45 rfl ?_
  refine lv_iadd hx hb dJ6_bitCount_0f7a4_46 ?_
  refine lv_topi (fun x5 e_x5 => ?_)
  refine lv_istore_n (lv' := [(0, .int x5)]) hx hb dJ6_bitCount_0f7a4_47 rfl hl (by decide) rfl (fun ls hl => ?_)
  refine lv_iload_n hx hb dJ6_bitCount_0f7a4_48 rfl (lv_at hl 0 rfl) ?_
  refine lv_bipush (v := 63) hx hb dJ6_bitCount_0f7a4_49 (by decide) ?_
  refine lv_iand hx hb dJ6_bitCount_0f7a4_51 ?_
  exact ret (x5 &&& 63) _ _ _ _ _ _ _ (Nat.le_of_ble_eq_true rfl) (Nat.le_of_ble_eq_true rfl) (rfl) (⟨by subst_vars; rfl, rfl⟩) (hP.sub (ws' := []) [] rfl) (hD.sub (ws' := []) [] (by decide) rfl) hS dJ6_bitCount_0f7a4_52
