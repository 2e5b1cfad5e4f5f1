abbrev rmX0_size : Room := { frames := 0, cells := 0, slots := 0, locals := 0 }
set_option maxHeartbeats 4000000 in
set_option maxRecDepth 100000 in
theorem c_X0_size (l : Launch) (G : GT) (h0 hm hw : Nat) (md : Nat → Int64) (wt : Nat → Int32) (n : Nat)  : Ci l yX0_size wsX0_size rmX0_size G [.ref h0] [(h0, OB 0 [.ref hm, .ref hw, .int (nI n)]), (hm, AJ G 10 md), (hw, AI G 10 wt)] (fun r u => r = nI n ∧ u = [(h0, OB 0 [.ref hm, .ref hw, .int (nI n)]), (hm, AJ G 10 md), (hw, AI G 10 wt)]) := by
  refine Ci.of (cc := cX0_size) (maxL := 1) (ty := .int) (by decide) rfl (Nat.le_of_ble_eq_true rfl) ?_
  intro p e s m below meth c A ls Q hx hb hml hts hown hA hS hP hK hN hSS hD hl ret
  have hown : s.vm.findClass RX0 = some m.cls := hown
  have hl : lv_has ls 1 [(0, .ref h0)] := hl
  have hi0 : ∀ w ∈ wsX00, w ∈ wsX0_size := mem_places [2, 3, 4] (by decide +kernel)
  refine lv_aload_n hx hb dX0_size_0 rfl (lv_at hl 0 rfl) ?_
  refine va_get (D := G.1) (ci := 0) (v := .int (nI n)) (C := RX0) (T := TX0) (N := 3) hx hb hts hi0 hown hK hP 0 rfl rfl 2 (by decide) (hts (.fieldLink RX0 19 "ConflictEnumerator$Constraints" "size" "I") (List.mem_of_getElem? (i := 1) rfl)) (fun _ h9 => h9) rfl dX0_size_1 ?_
  exact ret (nI n) _ _ _ _ _ _ _ (Nat.le_of_ble_eq_true rfl) (Nat.le_of_ble_eq_true rfl) (rfl) (⟨rfl, rfl⟩) (hP.sub (ws' := [(h0, OB 0 [.ref hm, .ref hw, .int (nI n)]), (hm, AJ G 10 md), (hw, AI G 10 wt)]) [0, 1, 2] rfl) (hD.sub (ws' := [(h0, OB 0 [.ref hm, .ref hw, .int (nI n)]), (hm, AJ G 10 md), (hw, AI G 10 wt)]) [0, 1, 2] (by decide) rfl) hS dX0_size_4
abbrev rmX0_isFull : Room := { frames := 0, cells := 0, slots := 0, locals := 0 }
set_option maxHeartbeats 4000000 in
set_option maxRecDepth 100000 in
theorem c_X0_isFull (l : Launch) (G : GT) (h0 hm hw : Nat) (md : Nat → Int64) (wt : Nat → Int32) (n : Nat) (hn : n ≤ 10) : Ci l yX0_isFull wsX0_isFull rmX0_isFull G [.ref h0] [(h0, OB 0 [.ref hm, .ref hw, .int (nI n)]), (hm, AJ G 10 md), (hw, AI G 10 wt)] (fun r u => r = bI (decide (10 ≤ n)) ∧ u = [(h0, OB 0 [.ref hm, .ref hw, .int (nI n)]), (hm, AJ G 10 md), (hw, AI G 10 wt)]) := by
  refine Ci.of (cc := cX0_isFull) (maxL := 1) (ty := .boolean) (by decide) rfl (Nat.le_of_ble_eq_true rfl) ?_
  intro p e s m below meth c A ls Q hx hb hml hts hown hA hS hP hK hN hSS hD hl ret
  have hown : s.vm.findClass RX0 = some m.cls := hown
  have hl : lv_has ls 1 [(0, .ref h0)] := hl
  have hi0 : ∀ w ∈ wsX00, w ∈ wsX0_isFull := mem_places [2, 3, 4] (by decide +kernel)
  refine lv_aload_n hx hb dX0_isFull_0 rfl (lv_at hl 0 rfl) ?_
  refine va_get (D := G.1) (ci := 0) (v := .int (nI n)) (C := RX0) (T := TX0) (N := 3) hx hb hts hi0 hown hK hP 0 rfl rfl 2 (by decide) (hts (.fieldLink RX0 19 "ConflictEnumerator$Constraints" "size" "I") (List.mem_of_getElem? (i := 1) rfl)) (fun _ h9 => h9) rfl dX0_isFull_1 ?_
  refine lv_bipush (v := 10) hx hb dX0_isFull_4 (by decide) ?_
  refine lv_icmp_lt (tgt := 13) hx hb dX0_isFull_6 (by decide) (fun c_6 => ?_) (fun c_6 => ?_)
  ·
    have c_6 : n < 10 := (nI_ltI (a := n) (b := 10) (by omega) (by omega)).mp c_6
    refine lv_iconst (v := 0) hx hb dX0_isFull_13 (by decide) ?_
    exact ret 0 _ _ _ _ _ _ _ (Nat.le_of_ble_eq_true rfl) (Nat.le_of_ble_eq_true rfl) (rfl) (⟨by simp [bI, c_6] <;> omega, rfl⟩) (hP.sub (ws' := [(h0, OB 0 [.ref hm, .ref hw, .int (nI n)]), (hm, AJ G 10 md), (hw, AI G 10 wt)]) [0, 1, 2] rfl) (hD.sub (ws' := [(h0, OB 0 [.ref hm, .ref hw, .int (nI n)]), (hm, AJ G 10 md), (hw, AI G 10 wt)]) [0, 1, 2] (by decide) rfl) hS dX0_isFull_14
  ·
    have c_6 : 10 ≤ n := by have h9 := mt (nI_ltI (a := n) (b := 10) (by omega) (by omega)).mpr c_6; omega
    refine lv_iconst (v := 1) hx hb dX0_isFull_9 (by decide) ?_
    refine lv_goto (tgt := 14) hx hb dX0_isFull_10 (by decide) ?_
    exact ret 1 _ _ _ _ _ _ _ (Nat.le_of_ble_eq_true rfl) (Nat.le_of_ble_eq_true rfl) (rfl) (⟨by simp [bI, c_6] <;> omega, rfl⟩) (hP.sub (ws' := [(h0, OB 0 [.ref hm, .ref hw, .int (nI n)]), (hm, AJ G 10 md), (hw, AI G 10 wt)]) [0, 1, 2] rfl) (hD.sub (ws' := [(h0, OB 0 [.ref hm, .ref hw, .int (nI n)]), (hm, AJ G 10 md), (hw, AI G 10 wt)]) [0, 1, 2] (by decide) rfl) hS dX0_isFull_14
abbrev rmX0_has : Room := { frames := 0, cells := 0, slots := 0, locals := 0 }
set_option maxHeartbeats 4000000 in
set_option maxRecDepth 100000 in
theorem c_X0_has (l : Launch) (G : GT) (h0 hm hw : Nat) (md : Nat → Int64) (wt : Nat → Int32) (n : Nat) (k : Int32)  : Ci l yX0_has wsX0_has rmX0_has G [.ref h0, .int k] [(h0, OB 0 [.ref hm, .ref hw, .int (nI n)]), (hm, AJ G 10 md), (hw, AI G 10 wt)] (fun r u => r = bI (inB k n) ∧ u = [(h0, OB 0 [.ref hm, .ref hw, .int (nI n)]), (hm, AJ G 10 md), (hw, AI G 10 wt)]) := by
  refine Ci.of (cc := cX0_has) (maxL := 2) (ty := .boolean) (by decide) rfl (Nat.le_of_ble_eq_true rfl) ?_
  intro p e s m below meth c A ls Q hx hb hml hts hown hA hS hP hK hN hSS hD hl ret
  have hown : s.vm.findClass RX0 = some m.cls := hown
  have hl : lv_has ls 2 [(0, .ref h0), (1, .int k)] := hl
  have hi0 : ∀ w ∈ wsX00, w ∈ wsX0_has := mem_places [2, 3, 4] (by decide +kernel)
  refine lv_iload_n hx hb dX0_has_0 rfl (lv_at hl 1 rfl) ?_
  refine lv_if_lt (tgt := 16) hx hb dX0_has_1 (by decide) (fun c_1 => ?_) (fun c_1 => ?_)
  ·
    refine lv_iconst (v := 0) hx hb dX0_has_16 (by decide) ?_
    exact ret 0 _ _ _ _ _ _ _ (Nat.le_of_ble_eq_true rfl) (Nat.le_of_ble_eq_true rfl) (rfl) (⟨by simp [bI, inB, c_1], rfl⟩) (hP.sub (ws' := [(h0, OB 0 [.ref hm, .ref hw, .int (nI n)]), (hm, AJ G 10 md), (hw, AI G 10 wt)]) [0, 1, 2] rfl) (hD.sub (ws' := [(h0, OB 0 [.ref hm, .ref hw, .int (nI n)]), (hm, AJ G 10 md), (hw, AI G 10 wt)]) [0, 1, 2] (by decide) rfl) hS dX0_has_17
  ·
    refine lv_iload_n hx hb dX0_has_4 rfl (lv_at hl 1 rfl) ?_
    refine lv_aload_n hx hb dX0_has_5 rfl (lv_at hl 0 rfl) ?_
    refine va_get (D := G.1) (ci := 0) (v := .int (nI n)) (C := RX0) (T := TX0) (N := 3) hx hb hts hi0 hown hK hP 0 rfl rfl 2 (by decide) (hts (.fieldLink RX0 19 "ConflictEnumerator$Constraints" "size" "I") (List.mem_of_getElem? (i := 1) rfl)) (fun _ h9 => h9) rfl dX0_has_6 ?_
    refine lv_icmp_ge (tgt := 16) hx hb dX0_has_9 (by decide) (fun c_9 => ?_) (fun c_9 => ?_)
    ·
      have c_9 : ¬ k < (nI n) := Int32.not_lt.mpr c_9
      refine lv_iconst (v := 0) hx hb dX0_has_16 (by decide) ?_
      exact ret 0 _ _ _ _ _ _ _ (Nat.le_of_ble_eq_true rfl) (Nat.le_of_ble_eq_true rfl) (rfl) (⟨by simp [bI, inB, c_1, c_9], rfl⟩) (hP.sub (ws' := [(h0, OB 0 [.ref hm, .ref hw, .int (nI n)]), (hm, AJ G 10 md), (hw, AI G 10 wt)]) [0, 1, 2] rfl) (hD.sub (ws' := [(h0, OB 0 [.ref hm, .ref hw, .int (nI n)]), (hm, AJ G 10 md), (hw, AI G 10 wt)]) [0, 1, 2] (by decide) rfl) hS dX0_has_17
    ·
      have c_9 : k < (nI n) := Int32.not_le.mp c_9
      refine lv_iconst (v := 1) hx hb dX0_has_12 (by decide) ?_
      refine lv_goto (tgt := 17) hx hb dX0_has_13 (by decide) ?_
      exact ret 1 _ _ _ _ _ _ _ (Nat.le_of_ble_eq_true rfl) (Nat.le_of_ble_eq_true rfl) (rfl) (⟨by simp [bI, inB, c_1, c_9], rfl⟩) (hP.sub (ws' := [(h0, OB 0 [.ref hm, .ref hw, .int (nI n)]), (hm, AJ G 10 md), (hw, AI G 10 wt)]) [0, 1, 2] rfl) (hD.sub (ws' := [(h0, OB 0 [.ref hm, .ref hw, .int (nI n)]), (hm, AJ G 10 md), (hw, AI G 10 wt)]) [0, 1, 2] (by decide) rfl) hS dX0_has_17
abbrev rmX0_clear : Room := { frames := 0, cells := 0, slots := 0, locals := 0 }
set_option maxHeartbeats 4000000 in
set_option maxRecDepth 100000 in
theorem c_X0_clear (l : Launch) (G : GT) (h0 hm hw : Nat) (md : Nat → Int64) (wt : Nat → Int32) (n : Nat)  : Cv l yX0_clear wsX0_clear rmX0_clear G [.ref h0] [(h0, OB 0 [.ref hm, .ref hw, .int (nI n)]), (hm, AJ G 10 md), (hw, AI G 10 wt)] (fun u => u = [(h0, OB 0 [.ref hm, .ref hw, .int (nI 0)]), (hm, AJ G 10 md), (hw, AI G 10 wt)]) := by
  refine Cv.of (cc := cX0_clear) (maxL := 1) (by decide) rfl (Nat.le_of_ble_eq_true rfl) ?_
  intro p e s m below meth c A ls Q hx hb hml hts hown hin hA hS hP hK hN hSS hD hl ret
  have hown : s.vm.findClass RX0 = some m.cls := hown
  have hl : lv_has ls 1 [(0, .ref h0)] := hl
  have hi0 : ∀ w ∈ wsX00, w ∈ wsX0_clear := mem_places [2, 3, 4] (by decide +kernel)
  refine lv_aload_n hx hb dX0_clear_0 rfl (lv_at hl 0 rfl) ?_
  refine lv_iconst (v := 0) hx hb dX0_clear_1 (by decide) ?_
  refine va_put (D := G.1) (ci := 0) (v := .int 0) (ty := .int) (C := RX0) (T := TX0) (N := 3) hx hb hts hi0 tyX0 tyX0_ok nmX0 hown hK hP hD hS 0 rfl rfl 2 (by decide) (hts (.fieldLink RX0 19 "ConflictEnumerator$Constraints" "size" "I") (List.mem_of_getElem? (i := 1) rfl)) (fun _ h9 => h9) rfl (by decide +kernel) rfl rfl (Nat.le_of_ble_eq_true rfl) dX0_clear_2 (fun H locs hP hD hS => ?_)
  have hP : va_P G.1 vwCl [(h0, OB 0 [.ref hm, .ref hw, .int 0]), (hm, AJ G 10 md), (hw, AI G 10 wt)] H := hP
  have hD : va_D A [(h0, OB 0 [.ref hm, .ref hw, .int 0]), (hm, AJ G 10 md), (hw, AI G 10 wt)] := hD
  exact ret _ _ _ _ _ _ _ (Nat.le_of_ble_eq_true rfl) (Nat.le_of_ble_eq_true rfl) (rfl) (hP.sub (ws' := [(h0, OB 0 [.ref hm, .ref hw, .int 0]), (hm, AJ G 10 md), (hw, AI G 10 wt)]) [0, 1, 2] rfl) (hD.sub (ws' := [(h0, OB 0 [.ref hm, .ref hw, .int 0]), (hm, AJ G 10 md), (hw, AI G 10 wt)]) [0, 1, 2] (by decide) rfl) hS dX0_clear_5
abbrev rmX0_copyFrom : Room := { frames := 1, cells := 0, slots := 0, locals := 60 }
set_option maxHeartbeats 4000000 in
set_option maxRecDepth 100000 in
theorem c_X0_copyFrom (l : Launch) (G : GT) (h0 hm hw : Nat) (md : Nat → Int64) (wt : Nat → Int32) (n : Nat) (h1 hm1 hw1 : Nat) (md1 : Nat → Int64) (wt1 : Nat → Int32) (n1 : Nat)  : Cv l yX0_copyFrom wsX0_copyFrom rmX0_copyFrom G [.ref h0, .ref h1] [(h0, OB 0 [.ref hm, .ref hw, .int (nI n)]), (hm, AJ G 10 md), (hw, AI G 10 wt), (h1, OB 0 [.ref hm1, .ref hw1, .int (nI n1)]), (hm1, AJ G 10 md1), (hw1, AI G 10 wt1)] (fun u => u = [(h0, OB 0 [.ref hm, .ref hw, .int (nI n1)]), (hm, AJ G 10 md1), (hw, AI G 10 wt1), (h1, OB 0 [.ref hm1, .ref hw1, .int (nI n1)]), (hm1, AJ G 10 md1), (hw1, AI G 10 wt1)]) := by
  refine Cv.of (cc := cX0_copyFrom) (maxL := 2) (by decide) rfl (Nat.le_of_ble_eq_true rfl) ?_
  intro p e s m below meth c A ls Q hx hb hml hts hown hin hA hS hP hK hN hSS hD hl ret
  have hown : s.vm.findClass RX0 = some m.cls := hown
  have hl : lv_has ls 2 [(0, .ref h0), (1, .ref h1)] := hl
  have hi0 : ∀ w ∈ wsX00, w ∈ wsX0_copyFrom := mem_places [8, 9, 10] (by decide +kernel)
  refine lv_aload_n hx hb dX0_copyFrom_0 rfl (lv_at hl 1 rfl) ?_
  refine va_get (D := G.1) (ci := 0) (v := .ref hm1) (C := RX0) (T := TX0) (N := 3) hx hb hts hi0 hown hK hP 3 rfl rfl 0 (by decide) (hts (.fieldLink RX0 9 "ConflictEnumerator$Constraints" "models" "[J") (List.mem_of_getElem? (i := 1) rfl)) (fun _ h9 => h9) rfl dX0_copyFrom_1 ?_
  refine lv_iconst (v := 0) hx hb dX0_copyFrom_4 (by decide) ?_
  refine lv_aload_n hx hb dX0_copyFrom_5 rfl (lv_at hl 0 rfl) ?_
  refine va_get (D := G.1) (ci := 0) (v := .ref hm) (C := RX0) (T := TX0) (N := 3) hx hb hts hi0 hown hK hP 0 rfl rfl 0 (by decide) (hts (.fieldLink RX0 9 "ConflictEnumerator$Constraints" "models" "[J") (List.mem_of_getElem? (i := 1) rfl)) (fun _ h9 => h9) rfl dX0_copyFrom_6 ?_
  refine lv_iconst (v := 0) hx hb dX0_copyFrom_9 (by decide) ?_
  refine lv_bipush (v := 10) hx hb dX0_copyFrom_10 (by decide) ?_
  refine wa_copyl hx hb (by rw [hml]; exact hl.1.symm) hown (hts (.methodLink RX0 23 arraycopyName) (List.mem_of_getElem? (i := 2) rfl)) (hts (.native arraycopyName) (List.mem_of_getElem? (i := 3) rfl)) (hts (.static arraycopyName) (List.mem_of_getElem? (i := 4) rfl)) (hts (.initialized "java/lang/System") (List.mem_of_getElem? (i := 5) rfl)) hK hP hD hS 4 1 rfl rfl (n := 10) rfl rfl rfl (by decide) (Nat.le_of_ble_eq_true rfl) (Nat.le_of_ble_eq_true rfl) dX0_copyFrom_12 (fun H locs hP hD hS => ?_)
  have hP : va_P G.1 vwCl [(h0, OB 0 [.ref hm, .ref hw, .int (nI n)]), (hm, AJ G 10 md1), (hw, AI G 10 wt), (h1, OB 0 [.ref hm1, .ref hw1, .int (nI n1)]), (hm1, AJ G 10 md1), (hw1, AI G 10 wt1)] H := hP
  have hD : va_D A [(h0, OB 0 [.ref hm, .ref hw, .int (nI n)]), (hm, AJ G 10 md1), (hw, AI G 10 wt), (h1, OB 0 [.ref hm1, .ref hw1, .int (nI n1)]), (hm1, AJ G 10 md1), (hw1, AI G 10 wt1)] := hD
  refine lv_aload_n hx hb dX0_copyFrom_15 rfl (lv_at hl 1 rfl) ?_
  refine va_get (D := G.1) (ci := 0) (v := .ref hw1) (C := RX0) (T := TX0) (N := 3) hx hb hts hi0 hown hK hP 3 rfl rfl 1 (by decide) (hts (.fieldLink RX0 15 "ConflictEnumerator$Constraints" "weights" "[I") (List.mem_of_getElem? (i := 6) rfl)) (fun _ h9 => h9) rfl dX0_copyFrom_16 ?_
  refine lv_iconst (v := 0) hx hb dX0_copyFrom_19 (by decide) ?_
  refine lv_aload_n hx hb dX0_copyFrom_20 rfl (lv_at hl 0 rfl) ?_
  refine va_get (D := G.1) (ci := 0) (v := .ref hw) (C := RX0) (T := TX0) (N := 3) hx hb hts hi0 hown hK hP 0 rfl rfl 1 (by decide) (hts (.fieldLink RX0 15 "ConflictEnumerator$Constraints" "weights" "[I") (List.mem_of_getElem? (i := 6) rfl)) (fun _ h9 => h9) rfl dX0_copyFrom_21 ?_
  refine lv_iconst (v := 0) hx hb dX0_copyFrom_24 (by decide) ?_
  refine lv_bipush (v := 10) hx hb dX0_copyFrom_25 (by decide) ?_
  refine wa_copyi hx hb (by rw [hml]; exact hl.1.symm) hown (hts (.methodLink RX0 23 arraycopyName) (List.mem_of_getElem? (i := 2) rfl)) (hts (.native arraycopyName) (List.mem_of_getElem? (i := 3) rfl)) (hts (.static arraycopyName) (List.mem_of_getElem? (i := 4) rfl)) (hts (.initialized "java/lang/System") (List.mem_of_getElem? (i := 5) rfl)) hK hP hD hS 5 2 rfl rfl (n := 10) rfl rfl rfl (by decide) (Nat.le_of_ble_eq_true rfl) (Nat.le_of_ble_eq_true rfl) dX0_copyFrom_27 (fun H locs hP hD hS => ?_)
  have hP : va_P G.1 vwCl [(h0, OB 0 [.ref hm, .ref hw, .int (nI n)]), (hm, AJ G 10 md1), (hw, AI G 10 wt1), (h1, OB 0 [.ref hm1, .ref hw1, .int (nI n1)]), (hm1, AJ G 10 md1), (hw1, AI G 10 wt1)] H := hP
  have hD : va_D A [(h0, OB 0 [.ref hm, .ref hw, .int (nI n)]), (hm, AJ G 10 md1), (hw, AI G 10 wt1), (h1, OB 0 [.ref hm1, .ref hw1, .int (nI n1)]), (hm1, AJ G 10 md1), (hw1, AI G 10 wt1)] := hD
  refine lv_aload_n hx hb dX0_copyFrom_30 rfl (lv_at hl 0 rfl) ?_
  refine lv_aload_n hx hb dX0_copyFrom_31 rfl (lv_at hl 1 rfl) ?_
  refine va_get (D := G.1) (ci := 0) (v := .int (nI n1)) (C := RX0) (T := TX0) (N := 3) hx hb hts hi0 hown hK hP 3 rfl rfl 2 (by decide) (hts (.fieldLink RX0 19 "ConflictEnumerator$Constraints" "size" "I") (List.mem_of_getElem? (i := 7) rfl)) (fun _ h9 => h9) rfl dX0_copyFrom_32 ?_
  refine va_put (D := G.1) (ci := 0) (v := .int (nI n1)) (ty := .int) (C := RX0) (T := TX0) (N := 3) hx hb hts hi0 tyX0 tyX0_ok nmX0 hown hK hP hD hS 0 rfl rfl 2 (by decide) (hts (.fieldLink RX0 19 "ConflictEnumerator$Constraints" "size" "I") (List.mem_of_getElem? (i := 7) rfl)) (fun _ h9 => h9) rfl (by decide +kernel) rfl rfl (Nat.le_of_ble_eq_true rfl) dX0_copyFrom_35 (fun H locs hP hD hS => ?_)
  have hP : va_P G.1 vwCl [(h0, OB 0 [.ref hm, .ref hw, .int (nI n1)]), (hm, AJ G 10 md1), (hw, AI G 10 wt1), (h1, OB 0 [.ref hm1, .ref hw1, .int (nI n1)]), (hm1, AJ G 10 md1), (hw1, AI G 10 wt1)] H := hP
  have hD : va_D A [(h0, OB 0 [.ref hm, .ref hw, .int (nI n1)]), (hm, AJ G 10 md1), (hw, AI G 10 wt1), (h1, OB 0 [.ref hm1, .ref hw1, .int (nI n1)]), (hm1, AJ G 10 md1), (hw1, AI G 10 wt1)] := hD
  exact ret _ _ _ _ _ _ _ (Nat.le_of_ble_eq_true rfl) (Nat.le_of_ble_eq_true rfl) (rfl) (hP.sub (ws' := [(h0, OB 0 [.ref hm, .ref hw, .int (nI n1)]), (hm, AJ G 10 md1), (hw, AI G 10 wt1), (h1, OB 0 [.ref hm1, .ref hw1, .int (nI n1)]), (hm1, AJ G 10 md1), (hw1, AI G 10 wt1)]) [0, 1, 2, 3, 4, 5] rfl) (hD.sub (ws' := [(h0, OB 0 [.ref hm, .ref hw, .int (nI n1)]), (hm, AJ G 10 md1), (hw, AI G 10 wt1), (h1, OB 0 [.ref hm1, .ref hw1, .int (nI n1)]), (hm1, AJ G 10 md1), (hw1, AI G 10 wt1)]) [0, 1, 2, 3, 4, 5] (by decide) rfl) hS dX0_copyFrom_38
abbrev rmX0_add : Room := { frames := 0, cells := 0, slots := 0, locals := 0 }
set_option maxHeartbeats 4000000 in
set_option maxRecDepth 100000 in
theorem c_X0_add (l : Launch) (G : GT) (h0 hm hw : Nat) (md : Nat → Int64) (wt : Nat → Int32) (n : Nat) (x : Int64) (w : Int32) (hn : n < 10) : Cv l yX0_add wsX0_add rmX0_add G [.ref h0, .long x, .int w] [(h0, OB 0 [.ref hm, .ref hw, .int (nI n)]), (hm, AJ G 10 md), (hw, AI G 10 wt)] (fun u => u = [(h0, OB 0 [.ref hm, .ref hw, .int (nI (n + 1))]), (hm, AJ G 10 (va_up md n x)), (hw, AI G 10 (va_up wt n w))]) := by
  refine Cv.of (cc := cX0_add) (maxL := 4) (by decide) rfl (Nat.le_of_ble_eq_true rfl) ?_
  intro p e s m below meth c A ls Q hx hb hml hts hown hin hA hS hP hK hN hSS hD hl ret
  have hown : s.vm.findClass RX0 = some m.cls := hown
  have hl : lv_has ls 4 [(0, .ref h0), (1, .long x), (3, .int w)] := hl
  have hi0 : ∀ w ∈ wsX00, w ∈ wsX0_add := mem_places [4, 5, 6] (by decide +kernel)
  refine lv_aload_n hx hb dX0_add_0 rfl (lv_at hl 0 rfl) ?_
  refine va_get (D := G.1) (ci := 0) (v := .int (nI n)) (C := RX0) (T := TX0) (N := 3) hx hb hts hi0 hown hK hP 0 rfl rfl 2 (by decide) (hts (.fieldLink RX0 19 "ConflictEnumerator$Constraints" "size" "I") (List.mem_of_getElem? (i := 1) rfl)) (fun _ h9 => h9) rfl dX0_add_1 ?_
  refine lv_bipush (v := 10) hx hb dX0_add_4 (by decide) ?_
  refine lv_icmp_ge (tgt := 39) hx hb dX0_add_6 (by decide) (fun c_6 => ?_) (fun c_6 => ?_)
  ·
    have c_6 : 10 ≤ n := (nI_leI (a := 10) (b := n) (by omega) (by omega)).mp c_6
    omega
  ·
    have c_6 : n < 10 := by have h9 := mt (nI_leI (a := 10) (b := n) (by omega) (by omega)).mpr c_6; omega
    refine lv_aload_n hx hb dX0_add_9 rfl (lv_at hl 0 rfl) ?_
    refine va_get (D := G.1) (ci := 0) (v := .ref hm) (C := RX0) (T := TX0) (N := 3) hx hb hts hi0 hown hK hP 0 rfl rfl 0 (by decide) (hts (.fieldLink RX0 9 "ConflictEnumerator$Constraints" "models" "[J") (List.mem_of_getElem? (i := 2) rfl)) (fun _ h9 => h9) rfl dX0_add_10 ?_
    refine lv_aload_n hx hb dX0_add_13 rfl (lv_at hl 0 rfl) ?_
    refine va_get (D := G.1) (ci := 0) (v := .int (nI n)) (C := RX0) (T := TX0) (N := 3) hx hb hts hi0 hown hK hP 0 rfl rfl 2 (by decide) (hts (.fieldLink RX0 19 "ConflictEnumerator$Constraints" "size" "I") (List.mem_of_getElem? (i := 1) rfl)) (fun _ h9 => h9) rfl dX0_add_14 ?_
    refine lv_lload_n hx hb dX0_add_17 rfl (lv_at hl 1 rfl) ?_
    refine wa_last hx hb hK hP hD hS 1 rfl (n) (rfl) (by omega) (by decide) dX0_add_18 (fun H locs hP hD hS => ?_)
    have hP : va_P G.1 vwCl [(h0, OB 0 [.ref hm, .ref hw, .int (nI n)]), (hm, AJ G 10 (va_up md n x)), (hw, AI G 10 wt)] H := hP
    have hD : va_D A [(h0, OB 0 [.ref hm, .ref hw, .int (nI n)]), (hm, AJ G 10 (va_up md n x)), (hw, AI G 10 wt)] := hD
    refine lv_aload_n hx hb dX0_add_19 rfl (lv_at hl 0 rfl) ?_
    refine va_get (D := G.1) (ci := 0) (v := .ref hw) (C := RX0) (T := TX0) (N := 3) hx hb hts hi0 hown hK hP 0 rfl rfl 1 (by decide) (hts (.fieldLink RX0 15 "ConflictEnumerator$Constraints" "weights" "[I") (List.mem_of_getElem? (i := 3) rfl)) (fun _ h9 => h9) rfl dX0_add_20 ?_
    refine lv_aload_n hx hb dX0_add_23 rfl (lv_at hl 0 rfl) ?_
    refine va_get (D := G.1) (ci := 0) (v := .int (nI n)) (C := RX0) (T := TX0) (N := 3) hx hb hts hi0 hown hK hP 0 rfl rfl 2 (by decide) (hts (.fieldLink RX0 19 "ConflictEnumerator$Constraints" "size" "I") (List.mem_of_getElem? (i := 1) rfl)) (fun _ h9 => h9) rfl dX0_add_24 ?_
    refine lv_iload_n hx hb dX0_add_27 rfl (lv_at hl 2 rfl) ?_
    refine wa_iast hx hb hK hP hD hS 2 rfl (n) (rfl) (by omega) (by decide) dX0_add_28 (fun H locs hP hD hS => ?_)
    have hP : va_P G.1 vwCl [(h0, OB 0 [.ref hm, .ref hw, .int (nI n)]), (hm, AJ G 10 (va_up md n x)), (hw, AI G 10 (va_up wt n w))] H := hP
    have hD : va_D A [(h0, OB 0 [.ref hm, .ref hw, .int (nI n)]), (hm, AJ G 10 (va_up md n x)), (hw, AI G 10 (va_up wt n w))] := hD
    refine lv_aload_n hx hb dX0_add_29 rfl (lv_at hl 0 rfl) ?_
    refine lv_dup hx hb dX0_add_30 rfl ?_
    refine va_get (D := G.1) (ci := 0) (v := .int (nI n)) (C := RX0) (T := TX0) (N := 3) hx hb hts hi0 hown hK hP 0 rfl rfl 2 (by decide) (hts (.fieldLink RX0 19 "ConflictEnumerator$Constraints" "size" "I") (List.mem_of_getElem? (i := 1) rfl)) (fun _ h9 => h9) rfl dX0_add_31 ?_
    refine lv_iconst (v := 1) hx hb dX0_add_34 (by decide) ?_
    refine wn_iadd hx hb (n) (1) rfl rfl dX0_add_35 ?_
    refine va_put (D := G.1) (ci := 0) (v := .int (nI (n + 1))) (ty := .int) (C := RX0) (T := TX0) (N := 3) hx hb hts hi0 tyX0 tyX0_ok nmX0 hown hK hP hD hS 0 rfl rfl 2 (by decide) (hts (.fieldLink RX0 19 "ConflictEnumerator$Constraints" "size" "I") (List.mem_of_getElem? (i := 1) rfl)) (fun _ h9 => h9) rfl (by decide +kernel) rfl rfl (Nat.le_of_ble_eq_true rfl) dX0_add_36 (fun H locs hP hD hS => ?_)
    have hP : va_P G.1 vwCl [(h0, OB 0 [.ref hm, .ref hw, .int (nI (n + 1))]), (hm, AJ G 10 (va_up md n x)), (hw, AI G 10 (va_up wt n w))] H := hP
    have hD : va_D A [(h0, OB 0 [.ref hm, .ref hw, .int (nI (n + 1))]), (hm, AJ G 10 (va_up md n x)), (hw, AI G 10 (va_up wt n w))] := hD
    exact ret _ _ _ _ _ _ _ (Nat.le_of_ble_eq_true rfl) (Nat.le_of_ble_eq_true rfl) (rfl) (hP.sub (ws' := [(h0, OB 0 [.ref hm, .ref hw, .int (nI (n + 1))]), (hm, AJ G 10 (va_up md n x)), (hw, AI G 10 (va_up wt n w))]) [0, 1, 2] rfl) (hD.sub (ws' := [(h0, OB 0 [.ref hm, .ref hw, .int (nI (n + 1))]), (hm, AJ G 10 (va_up md n x)), (hw, AI G 10 (va_up wt n w))]) [0, 1, 2] (by decide) rfl) hS dX0_add_39
abbrev rmX0_delete : Room := { frames := 1, cells := 0, slots := 0, locals := 21 }
set_option maxHeartbeats 4000000 in
set_option maxRecDepth 100000 in
theorem c_X0_delete (l : Launch) (G : GT) (h0 hm hw : Nat) (md : Nat → Int64) (wt : Nat → Int32) (n : Nat) (k : Nat) (hn : n ≤ 10) (hk1 : k < n) : Cv l yX0_delete wsX0_delete rmX0_delete G [.ref h0, .int (nI k)] [(h0, OB 0 [.ref hm, .ref hw, .int (nI n)]), (hm, AJ G 10 md), (hw, AI G 10 wt)] (fun u => u = [(h0, OB 0 [.ref hm, .ref hw, .int (nI (n - 1))]), (hm, AJ G 10 (dlF md k (n - 1))), (hw, AI G 10 (dlF wt k (n - 1)))]) := by
  refine Cv.of (cc := cX0_delete) (maxL := 3) (by decide) rfl (Nat.le_of_ble_eq_true rfl) ?_
  intro p e s m below meth c A ls Q hx hb hml hts hown hin hA hS hP hK hN hSS hD hl ret
  have hown : s.vm.findClass RX0 = some m.cls := hown
  have hl : lv_has ls 3 [(0, .ref h0), (1, .int (nI k))] := hl
  have hi0 : ∀ w ∈ wsX00, w ∈ wsX0_delete := mem_places [9, 10, 11] (by decide +kernel)
  refine lv_aload_n hx hb dX0_delete_0 rfl (lv_at hl 0 rfl) ?_
  refine lv_iload_n hx hb dX0_delete_1 rfl (lv_at hl 1 rfl) ?_
  refine call_Vi (rest := []) (As := [.int (nI k)]) (wr := []) (c1 := 0) (s1 := 0) ⟨hx, hb, hml, hown, hts⟩ (c_X0_has l G h0 hm hw md wt n (nI k) ) (cwV 1 hts gX0_delete_X0_has rfl rfl rfl (by decide +kernel) ⟨Nat.le_of_ble_eq_true rfl, Nat.le_of_ble_eq_true rfl⟩) hK hN hSS hP hD hS hA 0 0 rfl rfl rfl [0, 1, 2] [] rfl rfl (by decide) (by decide) (by decide) rfl hl.1 rfl (Nat.le_of_ble_eq_true rfl) dX0_delete_2 ⟨Nat.le_of_ble_eq_true rfl, Nat.le_of_ble_eq_true rfl⟩ rfl rfl (fun r_2 u_2 H locs hpo hP hD hS => ?_)
  obtain ⟨hr9, rfl⟩ := hpo
  subst r_2
  have hP : va_P G.1 vwCl [(h0, OB 0 [.ref hm, .ref hw, .int (nI n)]), (hm, AJ G 10 md), (hw, AI G 10 wt)] H := hP
  have hD : va_D A [(h0, OB 0 [.ref hm, .ref hw, .int (nI n)]), (hm, AJ G 10 md), (hw, AI G 10 wt)] := hD
  refine wb_ne (tgt := 9) hx hb dX0_delete_5 (by decide) (fun c_5 => ?_) (fun c_5 => ?_)
  ·
    refine lv_iload_n hx hb dX0_delete_9 rfl (lv_at hl 1 rfl) ?_
    refine lv_istore_n (lv' := [(2, .int (nI k)), (0, .ref h0), (1, .int (nI k))]) hx hb dX0_delete_10 rfl hl (by decide) rfl (fun ls hl => ?_)
    have L11 : ∀ (kf : Nat) (i : Nat) (f : Nat → Int64) (g : Nat → Int32) (H : Heap) (locs : List Loc) (ls : Array Slot), n - i < kf → (i < n) → (k ≤ i) → (f = dlF md k i) → (g = dlF wt k i) → va_P G.1 vwCl [(h0, OB 0 [.ref hm, .ref hw, .int (nI n)]), (hm, AJ G 10 f), (hw, AI G 10 g)] H → va_D A [(h0, OB 0 [.ref hm, .ref hw, .int (nI n)]), (hm, AJ G 10 f), (hw, AI G 10 g)] → va_S A s.heap H locs → lv_has ls 3 [(0, .ref h0), (1, .int (nI k)), (2, .int (nI i))] → W p l e rmX0_delete s m ([.ref h0, .int (nI k)] : List Value).toArray below meth c H locs 0 0 Q (F0 m 11 ls []) := by
      intro kf
      induction kf with
      | zero => intro i f g H locs ls h; exact absurd h (Nat.not_lt_zero _)
      | succ kf ih =>
        intro i f g H locs ls hk hi hki hf hg hP hD hS hl
        refine lv_iload_n hx hb dX0_delete_11 rfl (lv_at hl 2 rfl) ?_
        refine lv_iconst (v := 1) hx hb dX0_delete_12 (by decide) ?_
        refine wn_iadd hx hb (i) (1) rfl rfl dX0_delete_13 ?_
        refine lv_aload_n hx hb dX0_delete_14 rfl (lv_at hl 0 rfl) ?_
        refine va_get (D := G.1) (ci := 0) (v := .int (nI n)) (C := RX0) (T := TX0) (N := 3) hx hb hts hi0 hown hK hP 0 rfl rfl 2 (by decide) (hts (.fieldLink RX0 19 "ConflictEnumerator$Constraints" "size" "I") (List.mem_of_getElem? (i := 1) rfl)) (fun _ h9 => h9) rfl dX0_delete_15 ?_
        refine lv_icmp_ge (tgt := 55) hx hb dX0_delete_18 (by decide) (fun c_18 => ?_) (fun c_18 => ?_)
        ·
          have c_18 : n ≤ (i + 1) := (nI_leI (a := n) (b := i + 1) (by omega) (by omega)).mp c_18
          obtain rfl : i = n - 1 := by omega
          refine lv_aload_n hx hb dX0_delete_55 rfl (lv_at hl 0 rfl) ?_
          refine lv_dup hx hb dX0_delete_56 rfl ?_
          refine va_get (D := G.1) (ci := 0) (v := .int (nI n)) (C := RX0) (T := TX0) (N := 3) hx hb hts hi0 hown hK hP 0 rfl rfl 2 (by decide) (hts (.fieldLink RX0 19 "ConflictEnumerator$Constraints" "size" "I") (List.mem_of_getElem? (i := 1) rfl)) (fun _ h9 => h9) rfl dX0_delete_57 ?_
          refine lv_iconst (v := 1) hx hb dX0_delete_60 (by decide) ?_
          refine wn_isub hx hb (n) (1) rfl rfl (by omega) dX0_delete_61 ?_
          refine va_put (D := G.1) (ci := 0) (v := .int (nI (n - 1))) (ty := .int) (C := RX0) (T := TX0) (N := 3) hx hb hts hi0 tyX0 tyX0_ok nmX0 hown hK hP hD hS 0 rfl rfl 2 (by decide) (hts (.fieldLink RX0 19 "ConflictEnumerator$Constraints" "size" "I") (List.mem_of_getElem? (i := 1) rfl)) (fun _ h9 => h9) rfl (by decide +kernel) rfl rfl (Nat.le_of_ble_eq_true rfl) dX0_delete_62 (fun H locs hP hD hS => ?_)
          have hP : va_P G.1 vwCl [(h0, OB 0 [.ref hm, .ref hw, .int (nI (n - 1))]), (hm, AJ G 10 f), (hw, AI G 10 g)] H := hP
          have hD : va_D A [(h0, OB 0 [.ref hm, .ref hw, .int (nI (n - 1))]), (hm, AJ G 10 f), (hw, AI G 10 g)] := hD
          exact ret _ _ _ _ _ _ _ (Nat.le_of_ble_eq_true rfl) (Nat.le_of_ble_eq_true rfl) (by subst hf hg; rfl) (hP.sub (ws' := [(h0, OB 0 [.ref hm, .ref hw, .int (nI (n - 1))]), (hm, AJ G 10 f), (hw, AI G 10 g)]) [0, 1, 2] rfl) (hD.sub (ws' := [(h0, OB 0 [.ref hm, .ref hw, .int (nI (n - 1))]), (hm, AJ G 10 f), (hw, AI G 10 g)]) [0, 1, 2] (by decide) rfl) hS dX0_delete_65
        ·
          have c_18 : (i + 1) < n := by have h9 := mt (nI_leI (a := n) (b := i + 1) (by omega) (by omega)).mpr c_18; omega
          refine lv_aload_n hx hb dX0_delete_21 rfl (lv_at hl 0 rfl) ?_
          refine va_get (D := G.1) (ci := 0) (v := .ref hm) (C := RX0) (T := TX0) (N := 3) hx hb hts hi0 hown hK hP 0 rfl rfl 0 (by decide) (hts (.fieldLink RX0 9 "ConflictEnumerator$Constraints" "models" "[J") (List.mem_of_getElem? (i := 2) rfl)) (fun _ h9 => h9) rfl dX0_delete_22 ?_
          refine lv_iload_n hx hb dX0_delete_25 rfl (lv_at hl 2 rfl) ?_
          refine lv_aload_n hx hb dX0_delete_26 rfl (lv_at hl 0 rfl) ?_
          refine va_get (D := G.1) (ci := 0) (v := .ref hm) (C := RX0) (T := TX0) (N := 3) hx hb hts hi0 hown hK hP 0 rfl rfl 0 (by decide) (hts (.fieldLink RX0 9 "ConflictEnumerator$Constraints" "models" "[J") (List.mem_of_getElem? (i := 2) rfl)) (fun _ h9 => h9) rfl dX0_delete_27 ?_
          refine lv_iload_n hx hb dX0_delete_30 rfl (lv_at hl 2 rfl) ?_
          refine lv_iconst (v := 1) hx hb dX0_delete_31 (by decide) ?_
          refine wn_iadd hx hb (i) (1) rfl rfl dX0_delete_32 ?_
          refine wa_lald hx hb hK hP 1 rfl (i + 1) (rfl) (by omega) (by decide) dX0_delete_33 ?_
          refine wa_last hx hb hK hP hD hS 1 rfl (i) (rfl) (by omega) (by decide) dX0_delete_34 (fun H locs hP hD hS => ?_)
          have hP : va_P G.1 vwCl [(h0, OB 0 [.ref hm, .ref hw, .int (nI n)]), (hm, AJ G 10 (va_up f i (f (i + 1)))), (hw, AI G 10 g)] H := hP
          have hD : va_D A [(h0, OB 0 [.ref hm, .ref hw, .int (nI n)]), (hm, AJ G 10 (va_up f i (f (i + 1)))), (hw, AI G 10 g)] := hD
          refine lv_aload_n hx hb dX0_delete_35 rfl (lv_at hl 0 rfl) ?_
          refine va_get (D := G.1) (ci := 0) (v := .ref hw) (C := RX0) (T := TX0) (N := 3) hx hb hts hi0 hown hK hP 0 rfl rfl 1 (by decide) (hts (.fieldLink RX0 15 "ConflictEnumerator$Constraints" "weights" "[I") (List.mem_of_getElem? (i := 3) rfl)) (fun _ h9 => h9) rfl dX0_delete_36 ?_
          refine lv_iload_n hx hb dX0_delete_39 rfl (lv_at hl 2 rfl) ?_
          refine lv_aload_n hx hb dX0_delete_40 rfl (lv_at hl 0 rfl) ?_
          refine va_get (D := G.1) (ci := 0) (v := .ref hw) (C := RX0) (T := TX0) (N := 3) hx hb hts hi0 hown hK hP 0 rfl rfl 1 (by decide) (hts (.fieldLink RX0 15 "ConflictEnumerator$Constraints" "weights" "[I") (List.mem_of_getElem? (i := 3) rfl)) (fun _ h9 => h9) rfl dX0_delete_41 ?_
          refine lv_iload_n hx hb dX0_delete_44 rfl (lv_at hl 2 rfl) ?_
          refine lv_iconst (v := 1) hx hb dX0_delete_45 (by decide) ?_
          refine wn_iadd hx hb (i) (1) rfl rfl dX0_delete_46 ?_
          refine wa_iald hx hb hK hP 2 rfl (i + 1) (rfl) (by omega) (by decide) dX0_delete_47 ?_
          refine wa_iast hx hb hK hP hD hS 2 rfl (i) (rfl) (by omega) (by decide) dX0_delete_48 (fun H locs hP hD hS => ?_)
          have hP : va_P G.1 vwCl [(h0, OB 0 [.ref hm, .ref hw, .int (nI n)]), (hm, AJ G 10 (va_up f i (f (i + 1)))), (hw, AI G 10 (va_up g i (g (i + 1))))] H := hP
          have hD : va_D A [(h0, OB 0 [.ref hm, .ref hw, .int (nI n)]), (hm, AJ G 10 (va_up f i (f (i + 1)))), (hw, AI G 10 (va_up g i (g (i + 1))))] := hD
          refine lv_iinc (v := nI (i + 1)) (lv' := [(2, .int (nI (i + 1))), (0, .ref h0), (1, .int (nI k))]) hx hb dX0_delete_49 hl (k := 2) rfl (nI_inc (i) 1) (by decide) rfl (fun ls hl => ?_)
          refine lv_goto (tgt := 11) hx hb dX0_delete_52 (by decide) ?_
          exact ih (i + 1) (va_up f i (f (i + 1))) (va_up g i (g (i + 1))) _ _ _ (by omega) (by omega) (by omega) (by subst hf; exact dlF_s md k i hki) (by subst hg; exact dlF_s wt k i hki) (hP.sub (ws' := [(h0, OB 0 [.ref hm, .ref hw, .int (nI n)]), (hm, AJ G 10 (va_up f i (f (i + 1)))), (hw, AI G 10 (va_up g i (g (i + 1))))]) [0, 1, 2] rfl) (hD.sub (ws' := [(h0, OB 0 [.ref hm, .ref hw, .int (nI n)]), (hm, AJ G 10 (va_up f i (f (i + 1)))), (hw, AI G 10 (va_up g i (g (i + 1))))]) [0, 1, 2] (by decide) rfl) hS (lv_sub (l' := [(0, .ref h0), (1, .int (nI k)), (2, .int (nI (i + 1)))]) hl [1, 2, 0] rfl)
    exact L11 ((n - k) + 1) k md wt _ _ _ (Nat.lt_succ_self _) (hk1) (Nat.le_refl k) ((dlF_0 md k).symm) ((dlF_0 wt k).symm) (hP.sub (ws' := [(h0, OB 0 [.ref hm, .ref hw, .int (nI n)]), (hm, AJ G 10 md), (hw, AI G 10 wt)]) [0, 1, 2] rfl) (hD.sub (ws' := [(h0, OB 0 [.ref hm, .ref hw, .int (nI n)]), (hm, AJ G 10 md), (hw, AI G 10 wt)]) [0, 1, 2] (by decide) rfl) hS (lv_sub (l' := [(0, .ref h0), (1, .int (nI k)), (2, .int (nI k))]) hl [1, 2, 0] rfl)
  ·
    exact absurd c_5 (by rw [inB_nI hk1 (by omega)]; decide)
abbrev rmX0_weightOf : Room := { frames := 1, cells := 0, slots := 0, locals := 21 }
set_option maxHeartbeats 4000000 in
set_option maxRecDepth 100000 in
theorem c_X0_weightOf (l : Launch) (G : GT) (h0 hm hw : Nat) (md : Nat → Int64) (wt : Nat → Int32) (n : Nat) (j : Nat) (hn : n ≤ 10) (hj : j < n) : Ci l yX0_weightOf wsX0_weightOf rmX0_weightOf G [.ref h0, .int (nI j)] [(h0, OB 0 [.ref hm, .ref hw, .int (nI n)]), (hm, AJ G 10 md), (hw, AI G 10 wt)] (fun r u => r = wt j ∧ u = [(h0, OB 0 [.ref hm, .ref hw, .int (nI n)]), (hm, AJ G 10 md), (hw, AI G 10 wt)]) := by
  refine Ci.of (cc := cX0_weightOf) (maxL := 2) (ty := .int) (by decide) rfl (Nat.le_of_ble_eq_true rfl) ?_
  intro p e s m below meth c A ls Q hx hb hml hts hown hA hS hP hK hN hSS hD hl ret
  have hown : s.vm.findClass RX0 = some m.cls := hown
  have hl : lv_has ls 2 [(0, .ref h0), (1, .int (nI j))] := hl
  have hi0 : ∀ w ∈ wsX00, w ∈ wsX0_weightOf := mem_places [8, 9, 10] (by decide +kernel)
  refine lv_aload_n hx hb dX0_weightOf_0 rfl (lv_at hl 0 rfl) ?_
  refine lv_iload_n hx hb dX0_weightOf_1 rfl (lv_at hl 1 rfl) ?_
  refine call_Vi (rest := []) (As := [.int (nI j)]) (wr := []) (c1 := 0) (s1 := 0) ⟨hx, hb, hml, hown, hts⟩ (c_X0_has l G h0 hm hw md wt n (nI j) ) (cwV 1 hts gX0_weightOf_X0_has rfl rfl rfl (by decide +kernel) ⟨Nat.le_of_ble_eq_true rfl, Nat.le_of_ble_eq_true rfl⟩) hK hN hSS hP hD hS hA 0 0 rfl rfl rfl [0, 1, 2] [] rfl rfl (by decide) (by decide) (by decide) rfl hl.1 rfl (Nat.le_of_ble_eq_true rfl) dX0_weightOf_2 ⟨Nat.le_of_ble_eq_true rfl, Nat.le_of_ble_eq_true rfl⟩ rfl rfl (fun r_2 u_2 H locs hpo hP hD hS => ?_)
  obtain ⟨hr9, rfl⟩ := hpo
  subst r_2
  have hP : va_P G.1 vwCl [(h0, OB 0 [.ref hm, .ref hw, .int (nI n)]), (hm, AJ G 10 md), (hw, AI G 10 wt)] H := hP
  have hD : va_D A [(h0, OB 0 [.ref hm, .ref hw, .int (nI n)]), (hm, AJ G 10 md), (hw, AI G 10 wt)] := hD
  refine wb_eq (tgt := 17) hx hb dX0_weightOf_5 (by decide) (fun c_5 => ?_) (fun c_5 => ?_)
  ·
    exact absurd c_5 (by rw [inB_nI hj (by omega)]; decide)
  ·
    refine lv_aload_n hx hb dX0_weightOf_8 rfl (lv_at hl 0 rfl) ?_
    refine va_get (D := G.1) (ci := 0) (v := .ref hw) (C := RX0) (T := TX0) (N := 3) hx hb hts hi0 hown hK hP 0 rfl rfl 1 (by decide) (hts (.fieldLink RX0 15 "ConflictEnumerator$Constraints" "weights" "[I") (List.mem_of_getElem? (i := 1) rfl)) (fun _ h9 => h9) rfl dX0_weightOf_9 ?_
    refine lv_iload_n hx hb dX0_weightOf_12 rfl (lv_at hl 1 rfl) ?_
    refine wa_iald hx hb hK hP 2 rfl (j) (rfl) (by omega) (by decide) dX0_weightOf_13 ?_
    refine lv_goto (tgt := 18) hx hb dX0_weightOf_14 (by decide) ?_
    exact ret (wt j) _ _ _ _ _ _ _ (Nat.le_of_ble_eq_true rfl) (Nat.le_of_ble_eq_true rfl) (rfl) (⟨rfl, rfl⟩) (hP.sub (ws' := [(h0, OB 0 [.ref hm, .ref hw, .int (nI n)]), (hm, AJ G 10 md), (hw, AI G 10 wt)]) [0, 1, 2] rfl) (hD.sub (ws' := [(h0, OB 0 [.ref hm, .ref hw, .int (nI n)]), (hm, AJ G 10 md), (hw, AI G 10 wt)]) [0, 1, 2] (by decide) rfl) hS dX0_weightOf_18
abbrev rmX0_isHard : Room := { frames := 2, cells := 0, slots := 0, locals := 42 }
set_option maxHeartbeats 4000000 in
set_option maxRecDepth 100000 in
theorem c_X0_isHard (l : Launch) (G : GT) (h0 hm hw : Nat) (md : Nat → Int64) (wt : Nat → Int32) (n : Nat) (j : Nat) (hn : n ≤ 10) (hj : j < n) : Ci l yX0_isHard wsX0_isHard rmX0_isHard G [.ref h0, .int (nI j)] [(h0, OB 0 [.ref hm, .ref hw, .int (nI n)]), (hm, AJ G 10 md), (hw, AI G 10 wt)] (fun r u => r = bI (wt j == 0) ∧ u = [(h0, OB 0 [.ref hm, .ref hw, .int (nI n)]), (hm, AJ G 10 md), (hw, AI G 10 wt)]) := by
  refine Ci.of (cc := cX0_isHard) (maxL := 2) (ty := .boolean) (by decide) rfl (Nat.le_of_ble_eq_true rfl) ?_
  intro p e s m below meth c A ls Q hx hb hml hts hown hA hS hP hK hN hSS hD hl ret
  have hown : s.vm.findClass RX0 = some m.cls := hown
  have hl : lv_has ls 2 [(0, .ref h0), (1, .int (nI j))] := hl
  refine lv_aload_n hx hb dX0_isHard_0 rfl (lv_at hl 0 rfl) ?_
  refine lv_iload_n hx hb dX0_isHard_1 rfl (lv_at hl 1 rfl) ?_
  refine call_Vi (rest := []) (As := [.int (nI j)]) (wr := []) (c1 := 0) (s1 := 0) ⟨hx, hb, hml, hown, hts⟩ (c_X0_weightOf l G h0 hm hw md wt n j (by first | assumption | omega) (by first | assumption | omega)) (cwV 1 hts gX0_isHard_X0_weightOf rfl rfl rfl (by decide +kernel) ⟨Nat.le_of_ble_eq_true rfl, Nat.le_of_ble_eq_true rfl⟩) hK hN hSS hP hD hS hA 0 0 rfl rfl rfl [0, 1, 2] [] rfl rfl (by decide) (by decide) (by decide) rfl hl.1 rfl (Nat.le_of_ble_eq_true rfl) dX0_isHard_2 ⟨Nat.le_of_ble_eq_true rfl, Nat.le_of_ble_eq_true rfl⟩ rfl rfl (fun r_2 u_2 H locs hpo hP hD hS => ?_)
  obtain ⟨hr9, rfl⟩ := hpo
  subst r_2
  have hP : va_P G.1 vwCl [(h0, OB 0 [.ref hm, .ref hw, .int (nI n)]), (hm, AJ G 10 md), (hw, AI G 10 wt)] H := hP
  have hD : va_D A [(h0, OB 0 [.ref hm, .ref hw, .int (nI n)]), (hm, AJ G 10 md), (hw, AI G 10 wt)] := hD
  refine lv_if_ne (tgt := 12) hx hb dX0_isHard_5 (by decide) (fun c_5 => ?_) (fun c_5 => ?_)
  ·
    refine lv_iconst (v := 0) hx hb dX0_isHard_12 (by decide) ?_
    exact ret 0 _ _ _ _ _ _ _ (Nat.le_of_ble_eq_true rfl) (Nat.le_of_ble_eq_true rfl) (rfl) (⟨by simp [bI, c_5], rfl⟩) (hP.sub (ws' := [(h0, OB 0 [.ref hm, .ref hw, .int (nI n)]), (hm, AJ G 10 md), (hw, AI G 10 wt)]) [0, 1, 2] rfl) (hD.sub (ws' := [(h0, OB 0 [.ref hm, .ref hw, .int (nI n)]), (hm, AJ G 10 md), (hw, AI G 10 wt)]) [0, 1, 2] (by decide) rfl) hS dX0_isHard_13
  ·
    refine lv_iconst (v := 1) hx hb dX0_isHard_8 (by decide) ?_
    refine lv_goto (tgt := 13) hx hb dX0_isHard_9 (by decide) ?_
    exact ret 1 _ _ _ _ _ _ _ (Nat.le_of_ble_eq_true rfl) (Nat.le_of_ble_eq_true rfl) (rfl) (⟨by simp [bI, c_5], rfl⟩) (hP.sub (ws' := [(h0, OB 0 [.ref hm, .ref hw, .int (nI n)]), (hm, AJ G 10 md), (hw, AI G 10 wt)]) [0, 1, 2] rfl) (hD.sub (ws' := [(h0, OB 0 [.ref hm, .ref hw, .int (nI n)]), (hm, AJ G 10 md), (hw, AI G 10 wt)]) [0, 1, 2] (by decide) rfl) hS dX0_isHard_13
abbrev rmX0_changeWeight : Room := { frames := 1, cells := 0, slots := 0, locals := 21 }
set_option maxHeartbeats 4000000 in
set_option maxRecDepth 100000 in
theorem c_X0_changeWeight (l : Launch) (G : GT) (h0 hm hw : Nat) (md : Nat → Int64) (wt : Nat → Int32) (n : Nat) (j : Nat) (w : Int32) (hn : n ≤ 10) (hj : j < n) : Cv l yX0_changeWeight wsX0_changeWeight rmX0_changeWeight G [.ref h0, .int (nI j), .int w] [(h0, OB 0 [.ref hm, .ref hw, .int (nI n)]), (hm, AJ G 10 md), (hw, AI G 10 wt)] (fun u => u = [(h0, OB 0 [.ref hm, .ref hw, .int (nI n)]), (hm, AJ G 10 md), (hw, AI G 10 (va_up wt j w))]) := by
  refine Cv.of (cc := cX0_changeWeight) (maxL := 3) (by decide) rfl (Nat.le_of_ble_eq_true rfl) ?_
  intro p e s m below meth c A ls Q hx hb hml hts hown hin hA hS hP hK hN hSS hD hl ret
  have hown : s.vm.findClass RX0 = some m.cls := hown
  have hl : lv_has ls 3 [(0, .ref h0), (1, .int (nI j)), (2, .int w)] := hl
  have hi0 : ∀ w ∈ wsX00, w ∈ wsX0_changeWeight := mem_places [8, 9, 10] (by decide +kernel)
  refine lv_aload_n hx hb dX0_changeWeight_0 rfl (lv_at hl 0 rfl) ?_
  refine lv_iload_n hx hb dX0_changeWeight_1 rfl (lv_at hl 1 rfl) ?_
  refine call_Vi (rest := []) (As := [.int (nI j)]) (wr := []) (c1 := 0) (s1 := 0) ⟨hx, hb, hml, hown, hts⟩ (c_X0_has l G h0 hm hw md wt n (nI j) ) (cwV 1 hts gX0_changeWeight_X0_has rfl rfl rfl (by decide +kernel) ⟨Nat.le_of_ble_eq_true rfl, Nat.le_of_ble_eq_true rfl⟩) hK hN hSS hP hD hS hA 0 0 rfl rfl rfl [0, 1, 2] [] rfl rfl (by decide) (by decide) (by decide) rfl hl.1 rfl (Nat.le_of_ble_eq_true rfl) dX0_changeWeight_2 ⟨Nat.le_of_ble_eq_true rfl, Nat.le_of_ble_eq_true rfl⟩ rfl rfl (fun r_2 u_2 H locs hpo hP hD hS => ?_)
  obtain ⟨hr9, rfl⟩ := hpo
  subst r_2
  have hP : va_P G.1 vwCl [(h0, OB 0 [.ref hm, .ref hw, .int (nI n)]), (hm, AJ G 10 md), (hw, AI G 10 wt)] H := hP
  have hD : va_D A [(h0, OB 0 [.ref hm, .ref hw, .int (nI n)]), (hm, AJ G 10 md), (hw, AI G 10 wt)] := hD
  refine wb_eq (tgt := 15) hx hb dX0_changeWeight_5 (by decide) (fun c_5 => ?_) (fun c_5 => ?_)
  ·
    exact absurd c_5 (by rw [inB_nI hj (by omega)]; decide)
  ·
    refine lv_aload_n hx hb dX0_changeWeight_8 rfl (lv_at hl 0 rfl) ?_
    refine va_get (D := G.1) (ci := 0) (v := .ref hw) (C := RX0) (T := TX0) (N := 3) hx hb hts hi0 hown hK hP 0 rfl rfl 1 (by decide) (hts (.fieldLink RX0 15 "ConflictEnumerator$Constraints" "weights" "[I") (List.mem_of_getElem? (i := 1) rfl)) (fun _ h9 => h9) rfl dX0_changeWeight_9 ?_
    refine lv_iload_n hx hb dX0_changeWeight_12 rfl (lv_at hl 1 rfl) ?_
    refine lv_iload_n hx hb dX0_changeWeight_13 rfl (lv_at hl 2 rfl) ?_
    refine wa_iast hx hb hK hP hD hS 2 rfl (j) (rfl) (by omega) (by decide) dX0_changeWeight_14 (fun H locs hP hD hS => ?_)
    have hP : va_P G.1 vwCl [(h0, OB 0 [.ref hm, .ref hw, .int (nI n)]), (hm, AJ G 10 md), (hw, AI G 10 (va_up wt j w))] H := hP
    have hD : va_D A [(h0, OB 0 [.ref hm, .ref hw, .int (nI n)]), (hm, AJ G 10 md), (hw, AI G 10 (va_up wt j w))] := hD
    exact ret _ _ _ _ _ _ _ (Nat.le_of_ble_eq_true rfl) (Nat.le_of_ble_eq_true rfl) (rfl) (hP.sub (ws' := [(h0, OB 0 [.ref hm, .ref hw, .int (nI n)]), (hm, AJ G 10 md), (hw, AI G 10 (va_up wt j w))]) [0, 1, 2] rfl) (hD.sub (ws' := [(h0, OB 0 [.ref hm, .ref hw, .int (nI n)]), (hm, AJ G 10 md), (hw, AI G 10 (va_up wt j w))]) [0, 1, 2] (by decide) rfl) hS dX0_changeWeight_15
abbrev rmX0_softMask : Room := { frames := 0, cells := 0, slots := 0, locals := 0 }
set_option maxHeartbeats 4000000 in
set_option maxRecDepth 100000 in
theorem c_X0_softMask (l : Launch) (G : GT) (h0 hm hw : Nat) (md : Nat → Int64) (wt : Nat → Int32) (n : Nat) (hn : n ≤ 10) : Ci l yX0_softMask wsX0_softMask rmX0_softMask G [.ref h0] [(h0, OB 0 [.ref hm, .ref hw, .int (nI n)]), (hm, AJ G 10 md), (hw, AI G 10 wt)] (fun r u => r = softM wt n ∧ u = [(h0, OB 0 [.ref hm, .ref hw, .int (nI n)]), (hm, AJ G 10 md), (hw, AI G 10 wt)]) := by
  refine Ci.of (cc := cX0_softMask) (maxL := 3) (ty := .int) (by decide) rfl (Nat.le_of_ble_eq_true rfl) ?_
  intro p e s m below meth c A ls Q hx hb hml hts hown hA hS hP hK hN hSS hD hl ret
  have hown : s.vm.findClass RX0 = some m.cls := hown
  have hl : lv_has ls 3 [(0, .ref h0)] := hl
  have hi0 : ∀ w ∈ wsX00, w ∈ wsX0_softMask := mem_places [3, 4, 5] (by decide +kernel)
  refine lv_iconst (v := 0) hx hb dX0_softMask_0 (by decide) ?_
  refine lv_istore_n (lv' := [(1, .int 0), (0, .ref h0)]) hx hb dX0_softMask_1 rfl hl (by decide) rfl (fun ls hl => ?_)
  refine lv_iconst (v := 0) hx hb dX0_softMask_2 (by decide) ?_
  refine lv_istore_n (lv' := [(2, .int 0), (1, .int 0), (0, .ref h0)]) hx hb dX0_softMask_3 rfl hl (by decide) rfl (fun ls hl => ?_)
  have L4 : ∀ (kf : Nat) (i : Nat) (acc : Int32) (H : Heap) (locs : List Loc) (ls : Array Slot), n - i < kf → (i ≤ n) → (acc = softM wt i) → va_P G.1 vwCl [(h0, OB 0 [.ref hm, .ref hw, .int (nI n)]), (hm, AJ G 10 md), (hw, AI G 10 wt)] H → va_D A [(h0, OB 0 [.ref hm, .ref hw, .int (nI n)]), (hm, AJ G 10 md), (hw, AI G 10 wt)] → va_S A s.heap H locs → lv_has ls 3 [(0, .ref h0), (1, .int acc), (2, .int (nI i))] → W p l e rmX0_softMask s m ([.ref h0] : List Value).toArray below meth c H locs 0 0 Q (F0 m 4 ls []) := by
    intro kf
    induction kf with
    | zero => intro i acc H locs ls h; exact absurd h (Nat.not_lt_zero _)
    | succ kf ih =>
      intro i acc H locs ls hk hi ha hP hD hS hl
      refine lv_iload_n hx hb dX0_softMask_4 rfl (lv_at hl 2 rfl) ?_
      refine lv_aload_n hx hb dX0_softMask_5 rfl (lv_at hl 0 rfl) ?_
      refine va_get (D := G.1) (ci := 0) (v := .int (nI n)) (C := RX0) (T := TX0) (N := 3) hx hb hts hi0 hown hK hP 0 rfl rfl 2 (by decide) (hts (.fieldLink RX0 19 "ConflictEnumerator$Constraints" "size" "I") (List.mem_of_getElem? (i := 1) rfl)) (fun _ h9 => h9) rfl dX0_softMask_6 ?_
      refine lv_icmp_ge (tgt := 33) hx hb dX0_softMask_9 (by decide) (fun c_9 => ?_) (fun c_9 => ?_)
      ·
        have c_9 : n ≤ i := (nI_leI (a := n) (b := i) (by omega) (by omega)).mp c_9
        refine lv_iload_n hx hb dX0_softMask_33 rfl (lv_at hl 1 rfl) ?_
        exact ret acc _ _ _ _ _ _ _ (Nat.le_of_ble_eq_true rfl) (Nat.le_of_ble_eq_true rfl) (rfl) (⟨by rw [ha, show i = n by omega], rfl⟩) (hP.sub (ws' := [(h0, OB 0 [.ref hm, .ref hw, .int (nI n)]), (hm, AJ G 10 md), (hw, AI G 10 wt)]) [0, 1, 2] rfl) (hD.sub (ws' := [(h0, OB 0 [.ref hm, .ref hw, .int (nI n)]), (hm, AJ G 10 md), (hw, AI G 10 wt)]) [0, 1, 2] (by decide) rfl) hS dX0_softMask_34
      ·
        have c_9 : i < n := by have h9 := mt (nI_leI (a := n) (b := i) (by omega) (by omega)).mpr c_9; omega
        refine lv_aload_n hx hb dX0_softMask_12 rfl (lv_at hl 0 rfl) ?_
        refine va_get (D := G.1) (ci := 0) (v := .ref hw) (C := RX0) (T := TX0) (N := 3) hx hb hts hi0 hown hK hP 0 rfl rfl 1 (by decide) (hts (.fieldLink RX0 15 "ConflictEnumerator$Constraints" "weights" "[I") (List.mem_of_getElem? (i := 2) rfl)) (fun _ h9 => h9) rfl dX0_softMask_13 ?_
        refine lv_iload_n hx hb dX0_softMask_16 rfl (lv_at hl 2 rfl) ?_
        refine wa_iald hx hb hK hP 2 rfl (i) (rfl) (by omega) (by decide) dX0_softMask_17 ?_
        refine lv_if_eq (tgt := 27) hx hb dX0_softMask_18 (by decide) (fun c_18 => ?_) (fun c_18 => ?_)
        ·
          refine lv_iinc (v := nI (i + 1)) (lv' := [(2, .int (nI (i + 1))), (0, .ref h0), (1, .int acc)]) hx hb dX0_softMask_27 hl (k := 2) rfl (nI_inc (i) 1) (by decide) rfl (fun ls hl => ?_)
          refine lv_goto (tgt := 4) hx hb dX0_softMask_30 (by decide) ?_
          exact ih (i + 1) acc _ _ _ (by omega) (by omega) (by simp [softM, ha, c_18]) (hP.sub (ws' := [(h0, OB 0 [.ref hm, .ref hw, .int (nI n)]), (hm, AJ G 10 md), (hw, AI G 10 wt)]) [0, 1, 2] rfl) (hD.sub (ws' := [(h0, OB 0 [.ref hm, .ref hw, .int (nI n)]), (hm, AJ G 10 md), (hw, AI G 10 wt)]) [0, 1, 2] (by decide) rfl) hS (lv_sub (l' := [(0, .ref h0), (1, .int acc), (2, .int (nI (i + 1)))]) hl [1, 2, 0] rfl)
        ·
          refine lv_iload_n hx hb dX0_softMask_21 rfl (lv_at hl 1 rfl) ?_
          refine lv_iconst (v := 1) hx hb dX0_softMask_22 (by decide) ?_
          refine lv_iload_n hx hb dX0_softMask_23 rfl (lv_at hl 2 rfl) ?_
          refine wn_bit hx hb (i) rfl rfl dX0_softMask_24 ?_
          refine lv_ior hx hb dX0_softMask_25 ?_
          refine lv_istore_n (lv' := [(1, .int (acc ||| (bitI i))), (0, .ref h0), (2, .int (nI i))]) hx hb dX0_softMask_26 rfl hl (by decide) rfl (fun ls hl => ?_)
          refine lv_iinc (v := nI (i + 1)) (lv' := [(2, .int (nI (i + 1))), (1, .int (acc ||| (bitI i))), (0, .ref h0)]) hx hb dX0_softMask_27 hl (k := 2) rfl (nI_inc (i) 1) (by decide) rfl (fun ls hl => ?_)
          refine lv_goto (tgt := 4) hx hb dX0_softMask_30 (by decide) ?_
          exact ih (i + 1) (acc ||| (bitI i)) _ _ _ (by omega) (by omega) (by simp [softM, ha, c_18]) (hP.sub (ws' := [(h0, OB 0 [.ref hm, .ref hw, .int (nI n)]), (hm, AJ G 10 md), (hw, AI G 10 wt)]) [0, 1, 2] rfl) (hD.sub (ws' := [(h0, OB 0 [.ref hm, .ref hw, .int (nI n)]), (hm, AJ G 10 md), (hw, AI G 10 wt)]) [0, 1, 2] (by decide) rfl) hS (lv_sub (l' := [(0, .ref h0), (1, .int (acc ||| (bitI i))), (2, .int (nI (i + 1)))]) hl [2, 1, 0] rfl)
  exact L4 ((n - 0) + 1) 0 0 _ _ _ (Nat.lt_succ_self _) (Nat.zero_le n) (rfl) (hP.sub (ws' := [(h0, OB 0 [.ref hm, .ref hw, .int (nI n)]), (hm, AJ G 10 md), (hw, AI G 10 wt)]) [0, 1, 2] rfl) (hD.sub (ws' := [(h0, OB 0 [.ref hm, .ref hw, .int (nI n)]), (hm, AJ G 10 md), (hw, AI G 10 wt)]) [0, 1, 2] (by decide) rfl) hS (lv_sub (l' := [(0, .ref h0), (1, .int 0), (2, .int (nI 0))]) hl [2, 1, 0] rfl)
abbrev rmX0_isSelection : Room := { frames := 1, cells := 0, slots := 0, locals := 22 }
set_option maxHeartbeats 4000000 in
set_option maxRecDepth 100000 in
theorem c_X0_isSelection (l : Launch) (G : GT) (h0 hm hw : Nat) (md : Nat → Int64) (wt : Nat → Int32) (n : Nat) (sel : Int32) (hn : n ≤ 10) : Ci l yX0_isSelection wsX0_isSelection rmX0_isSelection G [.ref h0, .int sel] [(h0, OB 0 [.ref hm, .ref hw, .int (nI n)]), (hm, AJ G 10 md), (hw, AI G 10 wt)] (fun r u => r = bI (selB sel (softM wt n)) ∧ u = [(h0, OB 0 [.ref hm, .ref hw, .int (nI n)]), (hm, AJ G 10 md), (hw, AI G 10 wt)]) := by
  refine Ci.of (cc := cX0_isSelection) (maxL := 2) (ty := .boolean) (by decide) rfl (Nat.le_of_ble_eq_true rfl) ?_
  intro p e s m below meth c A ls Q hx hb hml hts hown hA hS hP hK hN hSS hD hl ret
  have hown : s.vm.findClass RX0 = some m.cls := hown
  have hl : lv_has ls 2 [(0, .ref h0), (1, .int sel)] := hl
  refine lv_iload_n hx hb dX0_isSelection_0 rfl (lv_at hl 1 rfl) ?_
  refine lv_if_lt (tgt := 19) hx hb dX0_isSelection_1 (by decide) (fun c_1 => ?_) (fun c_1 => ?_)
  ·
    refine lv_iconst (v := 0) hx hb dX0_isSelection_19 (by decide) ?_
    exact ret 0 _ _ _ _ _ _ _ (Nat.le_of_ble_eq_true rfl) (Nat.le_of_ble_eq_true rfl) (rfl) (⟨by simp [bI, selB, c_1], rfl⟩) (hP.sub (ws' := [(h0, OB 0 [.ref hm, .ref hw, .int (nI n)]), (hm, AJ G 10 md), (hw, AI G 10 wt)]) [0, 1, 2] rfl) (hD.sub (ws' := [(h0, OB 0 [.ref hm, .ref hw, .int (nI n)]), (hm, AJ G 10 md), (hw, AI G 10 wt)]) [0, 1, 2] (by decide) rfl) hS dX0_isSelection_20
  ·
    refine lv_iload_n hx hb dX0_isSelection_4 rfl (lv_at hl 1 rfl) ?_
    refine lv_aload_n hx hb dX0_isSelection_5 rfl (lv_at hl 0 rfl) ?_
    refine call_Vi (rest := [.int sel]) (As := []) (wr := []) (c1 := 0) (s1 := 0) ⟨hx, hb, hml, hown, hts⟩ (c_X0_softMask l G h0 hm hw md wt n (by first | assumption | omega)) (cwV 0 hts gX0_isSelection_X0_softMask rfl rfl rfl (by decide +kernel) ⟨Nat.le_of_ble_eq_true rfl, Nat.le_of_ble_eq_true rfl⟩) hK hN hSS hP hD hS hA 0 0 rfl rfl rfl [0, 1, 2] [] rfl rfl (by decide) (by decide) (by decide) rfl hl.1 rfl (Nat.le_of_ble_eq_true rfl) dX0_isSelection_6 ⟨Nat.le_of_ble_eq_true rfl, Nat.le_of_ble_eq_true rfl⟩ rfl rfl (fun r_6 u_6 H locs hpo hP hD hS => ?_)
    obtain ⟨hr9, rfl⟩ := hpo
    subst r_6
    have hP : va_P G.1 vwCl [(h0, OB 0 [.ref hm, .ref hw, .int (nI n)]), (hm, AJ G 10 md), (hw, AI G 10 wt)] H := hP
    have hD : va_D A [(h0, OB 0 [.ref hm, .ref hw, .int (nI n)]), (hm, AJ G 10 md), (hw, AI G 10 wt)] := hD
    refine lv_iconst (v := (-1)) hx hb dX0_isSelection_9 (by decide) ?_
    refine wn_inot hx hb rfl dX0_isSelection_10 ?_
    refine lv_iand hx hb dX0_isSelection_11 ?_
    refine lv_if_ne (tgt := 19) hx hb dX0_isSelection_12 (by decide) (fun c_12 => ?_) (fun c_12 => ?_)
    ·
      refine lv_iconst (v := 0) hx hb dX0_isSelection_19 (by decide) ?_
      exact ret 0 _ _ _ _ _ _ _ (Nat.le_of_ble_eq_true rfl) (Nat.le_of_ble_eq_true rfl) (rfl) (⟨by simp [bI, selB, c_1, c_12], rfl⟩) (hP.sub (ws' := [(h0, OB 0 [.ref hm, .ref hw, .int (nI n)]), (hm, AJ G 10 md), (hw, AI G 10 wt)]) [0, 1, 2] rfl) (hD.sub (ws' := [(h0, OB 0 [.ref hm, .ref hw, .int (nI n)]), (hm, AJ G 10 md), (hw, AI G 10 wt)]) [0, 1, 2] (by decide) rfl) hS dX0_isSelection_20
    ·
      refine lv_iconst (v := 1) hx hb dX0_isSelection_15 (by decide) ?_
      refine lv_goto (tgt := 20) hx hb dX0_isSelection_16 (by decide) ?_
      exact ret 1 _ _ _ _ _ _ _ (Nat.le_of_ble_eq_true rfl) (Nat.le_of_ble_eq_true rfl) (rfl) (⟨by simp [bI, selB, c_1, c_12], rfl⟩) (hP.sub (ws' := [(h0, OB 0 [.ref hm, .ref hw, .int (nI n)]), (hm, AJ G 10 md), (hw, AI G 10 wt)]) [0, 1, 2] rfl) (hD.sub (ws' := [(h0, OB 0 [.ref hm, .ref hw, .int (nI n)]), (hm, AJ G 10 md), (hw, AI G 10 wt)]) [0, 1, 2] (by decide) rfl) hS dX0_isSelection_20
abbrev rmX0_totalWeight : Room := { frames := 0, cells := 0, slots := 0, locals := 0 }
set_option maxHeartbeats 4000000 in
set_option maxRecDepth 100000 in
theorem c_X0_totalWeight (l : Launch) (G : GT) (h0 hm hw : Nat) (md : Nat → Int64) (wt : Nat → Int32) (n : Nat) (sel : Int32) (hn : n ≤ 10) : Ci l yX0_totalWeight wsX0_totalWeight rmX0_totalWeight G [.ref h0, .int sel] [(h0, OB 0 [.ref hm, .ref hw, .int (nI n)]), (hm, AJ G 10 md), (hw, AI G 10 wt)] (fun r u => r = totW wt sel n ∧ u = [(h0, OB 0 [.ref hm, .ref hw, .int (nI n)]), (hm, AJ G 10 md), (hw, AI G 10 wt)]) := by
  refine Ci.of (cc := cX0_totalWeight) (maxL := 4) (ty := .int) (by decide) rfl (Nat.le_of_ble_eq_true rfl) ?_
  intro p e s m below meth c A ls Q hx hb hml hts hown hA hS hP hK hN hSS hD hl ret
  have hown : s.vm.findClass RX0 = some m.cls := hown
  have hl : lv_has ls 4 [(0, .ref h0), (1, .int sel)] := hl
  have hi0 : ∀ w ∈ wsX00, w ∈ wsX0_totalWeight := mem_places [3, 4, 5] (by decide +kernel)
  refine lv_iconst (v := 0) hx hb dX0_totalWeight_0 (by decide) ?_
  refine lv_istore_n (lv' := [(2, .int 0), (0, .ref h0), (1, .int sel)]) hx hb dX0_totalWeight_1 rfl hl (by decide) rfl (fun ls hl => ?_)
  refine lv_iconst (v := 0) hx hb dX0_totalWeight_2 (by decide) ?_
  refine lv_istore_n (lv' := [(3, .int 0), (2, .int 0), (0, .ref h0), (1, .int sel)]) hx hb dX0_totalWeight_3 rfl hl (by decide) rfl (fun ls hl => ?_)
  have L4 : ∀ (kf : Nat) (i : Nat) (acc : Int32) (H : Heap) (locs : List Loc) (ls : Array Slot), n - i < kf → (i ≤ n) → (acc = totW wt sel i) → va_P G.1 vwCl [(h0, OB 0 [.ref hm, .ref hw, .int (nI n)]), (hm, AJ G 10 md), (hw, AI G 10 wt)] H → va_D A [(h0, OB 0 [.ref hm, .ref hw, .int (nI n)]), (hm, AJ G 10 md), (hw, AI G 10 wt)] → va_S A s.heap H locs → lv_has ls 4 [(0, .ref h0), (1, .int sel), (2, .int acc), (3, .int (nI i))] → W p l e rmX0_totalWeight s m ([.ref h0, .int sel] : List Value).toArray below meth c H locs 0 0 Q (F0 m 4 ls []) := by
    intro kf
    induction kf with
    | zero => intro i acc H locs ls h; exact absurd h (Nat.not_lt_zero _)
    | succ kf ih =>
      intro i acc H locs ls hk hi ha hP hD hS hl
      refine lv_iload_n hx hb dX0_totalWeight_4 rfl (lv_at hl 3 rfl) ?_
      refine lv_aload_n hx hb dX0_totalWeight_5 rfl (lv_at hl 0 rfl) ?_
      refine va_get (D := G.1) (ci := 0) (v := .int (nI n)) (C := RX0) (T := TX0) (N := 3) hx hb hts hi0 hown hK hP 0 rfl rfl 2 (by decide) (hts (.fieldLink RX0 19 "ConflictEnumerator$Constraints" "size" "I") (List.mem_of_getElem? (i := 1) rfl)) (fun _ h9 => h9) rfl dX0_totalWeight_6 ?_
      refine lv_icmp_ge (tgt := 36) hx hb dX0_totalWeight_9 (by decide) (fun c_9 => ?_) (fun c_9 => ?_)
      ·
        have c_9 : n ≤ i := (nI_leI (a := n) (b := i) (by omega) (by omega)).mp c_9
        refine lv_iload_n hx hb dX0_totalWeight_36 rfl (lv_at hl 2 rfl) ?_
        exact ret acc _ _ _ _ _ _ _ (Nat.le_of_ble_eq_true rfl) (Nat.le_of_ble_eq_true rfl) (rfl) (⟨by rw [ha, show i = n by omega], rfl⟩) (hP.sub (ws' := [(h0, OB 0 [.ref hm, .ref hw, .int (nI n)]), (hm, AJ G 10 md), (hw, AI G 10 wt)]) [0, 1, 2] rfl) (hD.sub (ws' := [(h0, OB 0 [.ref hm, .ref hw, .int (nI n)]), (hm, AJ G 10 md), (hw, AI G 10 wt)]) [0, 1, 2] (by decide) rfl) hS dX0_totalWeight_37
      ·
        have c_9 : i < n := by have h9 := mt (nI_leI (a := n) (b := i) (by omega) (by omega)).mpr c_9; omega
        refine lv_iload_n hx hb dX0_totalWeight_12 rfl (lv_at hl 1 rfl) ?_
        refine lv_iload_n hx hb dX0_totalWeight_13 rfl (lv_at hl 3 rfl) ?_
        refine lv_ishr hx hb dX0_totalWeight_14 ?_
        refine lv_iconst (v := 1) hx hb dX0_totalWeight_15 (by decide) ?_
        refine lv_iand hx hb dX0_totalWeight_16 ?_
        refine lv_iconst (v := 1) hx hb dX0_totalWeight_17 (by decide) ?_
        refine lv_icmp_ne (tgt := 30) hx hb dX0_totalWeight_18 (by decide) (fun c_18 => ?_) (fun c_18 => ?_)
        ·
          refine lv_iinc (v := nI (i + 1)) (lv' := [(3, .int (nI (i + 1))), (0, .ref h0), (1, .int sel), (2, .int acc)]) hx hb dX0_totalWeight_30 hl (k := 3) rfl (nI_inc (i) 1) (by decide) rfl (fun ls hl => ?_)
          refine lv_goto (tgt := 4) hx hb dX0_totalWeight_33 (by decide) ?_
          exact ih (i + 1) acc _ _ _ (by omega) (by omega) (by simp [totW, hasB, ha, c_18]) (hP.sub (ws' := [(h0, OB 0 [.ref hm, .ref hw, .int (nI n)]), (hm, AJ G 10 md), (hw, AI G 10 wt)]) [0, 1, 2] rfl) (hD.sub (ws' := [(h0, OB 0 [.ref hm, .ref hw, .int (nI n)]), (hm, AJ G 10 md), (hw, AI G 10 wt)]) [0, 1, 2] (by decide) rfl) hS (lv_sub (l' := [(0, .ref h0), (1, .int sel), (2, .int acc), (3, .int (nI (i + 1)))]) hl [1, 2, 3, 0] rfl)
        ·
          refine lv_iload_n hx hb dX0_totalWeight_21 rfl (lv_at hl 2 rfl) ?_
          refine lv_aload_n hx hb dX0_totalWeight_22 rfl (lv_at hl 0 rfl) ?_
          refine va_get (D := G.1) (ci := 0) (v := .ref hw) (C := RX0) (T := TX0) (N := 3) hx hb hts hi0 hown hK hP 0 rfl rfl 1 (by decide) (hts (.fieldLink RX0 15 "ConflictEnumerator$Constraints" "weights" "[I") (List.mem_of_getElem? (i := 2) rfl)) (fun _ h9 => h9) rfl dX0_totalWeight_23 ?_
          refine lv_iload_n hx hb dX0_totalWeight_26 rfl (lv_at hl 3 rfl) ?_
          refine wa_iald hx hb hK hP 2 rfl (i) (rfl) (by omega) (by decide) dX0_totalWeight_27 ?_
          refine lv_iadd hx hb dX0_totalWeight_28 ?_
          refine lv_istore_n (lv' := [(2, .int (acc + (wt i))), (0, .ref h0), (1, .int sel), (3, .int (nI i))]) hx hb dX0_totalWeight_29 rfl hl (by decide) rfl (fun ls hl => ?_)
          refine lv_iinc (v := nI (i + 1)) (lv' := [(3, .int (nI (i + 1))), (2, .int (acc + (wt i))), (0, .ref h0), (1, .int sel)]) hx hb dX0_totalWeight_30 hl (k := 3) rfl (nI_inc (i) 1) (by decide) rfl (fun ls hl => ?_)
          refine lv_goto (tgt := 4) hx hb dX0_totalWeight_33 (by decide) ?_
          exact ih (i + 1) (acc + (wt i)) _ _ _ (by omega) (by omega) (by simp [totW, hasB, ha, c_18]) (hP.sub (ws' := [(h0, OB 0 [.ref hm, .ref hw, .int (nI n)]), (hm, AJ G 10 md), (hw, AI G 10 wt)]) [0, 1, 2] rfl) (hD.sub (ws' := [(h0, OB 0 [.ref hm, .ref hw, .int (nI n)]), (hm, AJ G 10 md), (hw, AI G 10 wt)]) [0, 1, 2] (by decide) rfl) hS (lv_sub (l' := [(0, .ref h0), (1, .int sel), (2, .int (acc + (wt i))), (3, .int (nI (i + 1)))]) hl [2, 3, 1, 0] rfl)
  exact L4 ((n - 0) + 1) 0 0 _ _ _ (Nat.lt_succ_self _) (Nat.zero_le n) (rfl) (hP.sub (ws' := [(h0, OB 0 [.ref hm, .ref hw, .int (nI n)]), (hm, AJ G 10 md), (hw, AI G 10 wt)]) [0, 1, 2] rfl) (hD.sub (ws' := [(h0, OB 0 [.ref hm, .ref hw, .int (nI n)]), (hm, AJ G 10 md), (hw, AI G 10 wt)]) [0, 1, 2] (by decide) rfl) hS (lv_sub (l' := [(0, .ref h0), (1, .int sel), (2, .int 0), (3, .int (nI 0))]) hl [2, 3, 1, 0] rfl)
abbrev rmX0_modelsOf : Room := { frames := 0, cells := 0, slots := 0, locals := 0 }
set_option maxHeartbeats 4000000 in
set_option maxRecDepth 100000 in
theorem c_X0_modelsOf (l : Launch) (G : GT) (h0 hm hw : Nat) (md : Nat → Int64) (wt : Nat → Int32) (n : Nat) (sel : Int32) (hn : n ≤ 10) : Cl l yX0_modelsOf wsX0_modelsOf rmX0_modelsOf G [.ref h0, .int sel] [(h0, OB 0 [.ref hm, .ref hw, .int (nI n)]), (hm, AJ G 10 md), (hw, AI G 10 wt)] (fun r u => r = modsOf md wt sel n ∧ u = [(h0, OB 0 [.ref hm, .ref hw, .int (nI n)]), (hm, AJ G 10 md), (hw, AI G 10 wt)]) := by
  refine Cl.of (cc := cX0_modelsOf) (maxL := 5) (by decide) rfl (Nat.le_of_ble_eq_true rfl) ?_
  intro p e s m below meth c A ls Q hx hb hml hts hown hA hS hP hK hN hSS hD hl ret
  have hown : s.vm.findClass RX0 = some m.cls := hown
  have hl : lv_has ls 5 [(0, .ref h0), (1, .int sel)] := hl
  have hi0 : ∀ w ∈ wsX00, w ∈ wsX0_modelsOf := mem_places [5, 6, 7] (by decide +kernel)
  refine lv_ldc2 (v := (-1)) hx hb hown (hts (.constantLong RX0 41 (-1)) (List.mem_of_getElem? (i := 1) rfl)) dX0_modelsOf_0 ?_
  refine lv_lstore_n (lv' := [(2, .long (-1)), (0, .ref h0), (1, .int sel)]) hx hb dX0_modelsOf_3 rfl hl (by decide) rfl (fun ls hl => ?_)
  refine lv_iconst (v := 0) hx hb dX0_modelsOf_4 (by decide) ?_
  refine lv_istore (lv' := [(4, .int 0), (2, .long (-1)), (0, .ref h0), (1, .int sel)]) hx hb dX0_modelsOf_5 hl (by decide) rfl (fun ls hl => ?_)
  have L7 : ∀ (kf : Nat) (i : Nat) (acc : Int64) (H : Heap) (locs : List Loc) (ls : Array Slot), n - i < kf → (i ≤ n) → (acc = modsOf md wt sel i) → va_P G.1 vwCl [(h0, OB 0 [.ref hm, .ref hw, .int (nI n)]), (hm, AJ G 10 md), (hw, AI G 10 wt)] H → va_D A [(h0, OB 0 [.ref hm, .ref hw, .int (nI n)]), (hm, AJ G 10 md), (hw, AI G 10 wt)] → va_S A s.heap H locs → lv_has ls 5 [(0, .ref h0), (1, .int sel), (2, .long acc), (4, .int (nI i))] → W p l e rmX0_modelsOf s m ([.ref h0, .int sel] : List Value).toArray below meth c H locs 0 0 Q (F0 m 7 ls []) := by
    intro kf
    induction kf with
    | zero => intro i acc H locs ls h; exact absurd h (Nat.not_lt_zero _)
    | succ kf ih =>
      intro i acc H locs ls hk hi ha hP hD hS hl
      refine lv_iload hx hb dX0_modelsOf_7 (lv_at hl 3 rfl) ?_
      refine lv_aload_n hx hb dX0_modelsOf_9 rfl (lv_at hl 0 rfl) ?_
      refine va_get (D := G.1) (ci := 0) (v := .int (nI n)) (C := RX0) (T := TX0) (N := 3) hx hb hts hi0 hown hK hP 0 rfl rfl 2 (by decide) (hts (.fieldLink RX0 19 "ConflictEnumerator$Constraints" "size" "I") (List.mem_of_getElem? (i := 2) rfl)) (fun _ h9 => h9) rfl dX0_modelsOf_10 ?_
      refine lv_icmp_ge (tgt := 52) hx hb dX0_modelsOf_13 (by decide) (fun c_13 => ?_) (fun c_13 => ?_)
      ·
        have c_13 : n ≤ i := (nI_leI (a := n) (b := i) (by omega) (by omega)).mp c_13
        refine lv_lload_n hx hb dX0_modelsOf_52 rfl (lv_at hl 2 rfl) ?_
        exact ret acc _ _ _ _ _ _ _ (Nat.le_of_ble_eq_true rfl) (Nat.le_of_ble_eq_true rfl) (⟨by rw [ha, show i = n by omega], rfl⟩) (hP.sub (ws' := [(h0, OB 0 [.ref hm, .ref hw, .int (nI n)]), (hm, AJ G 10 md), (hw, AI G 10 wt)]) [0, 1, 2] rfl) (hD.sub (ws' := [(h0, OB 0 [.ref hm, .ref hw, .int (nI n)]), (hm, AJ G 10 md), (hw, AI G 10 wt)]) [0, 1, 2] (by decide) rfl) hS dX0_modelsOf_53
      ·
        have c_13 : i < n := by have h9 := mt (nI_leI (a := n) (b := i) (by omega) (by omega)).mpr c_13; omega
        refine lv_aload_n hx hb dX0_modelsOf_16 rfl (lv_at hl 0 rfl) ?_
        refine va_get (D := G.1) (ci := 0) (v := .ref hw) (C := RX0) (T := TX0) (N := 3) hx hb hts hi0 hown hK hP 0 rfl rfl 1 (by decide) (hts (.fieldLink RX0 15 "ConflictEnumerator$Constraints" "weights" "[I") (List.mem_of_getElem? (i := 3) rfl)) (fun _ h9 => h9) rfl dX0_modelsOf_17 ?_
        refine lv_iload hx hb dX0_modelsOf_20 (lv_at hl 3 rfl) ?_
        refine wa_iald hx hb hK hP 2 rfl (i) (rfl) (by omega) (by decide) dX0_modelsOf_22 ?_
        refine lv_if_eq (tgt := 36) hx hb dX0_modelsOf_23 (by decide) (fun c_23 => ?_) (fun c_23 => ?_)
        ·
          refine lv_lload_n hx hb dX0_modelsOf_36 rfl (lv_at hl 2 rfl) ?_
          refine lv_aload_n hx hb dX0_modelsOf_37 rfl (lv_at hl 0 rfl) ?_
          refine va_get (D := G.1) (ci := 0) (v := .ref hm) (C := RX0) (T := TX0) (N := 3) hx hb hts hi0 hown hK hP 0 rfl rfl 0 (by decide) (hts (.fieldLink RX0 9 "ConflictEnumerator$Constraints" "models" "[J") (List.mem_of_getElem? (i := 4) rfl)) (fun _ h9 => h9) rfl dX0_modelsOf_38 ?_
          refine lv_iload hx hb dX0_modelsOf_41 (lv_at hl 3 rfl) ?_
          refine wa_lald hx hb hK hP 1 rfl (i) (rfl) (by omega) (by decide) dX0_modelsOf_43 ?_
          refine lv_land hx hb dX0_modelsOf_44 ?_
          refine lv_lstore_n (lv' := [(2, .long (acc &&& (md i))), (0, .ref h0), (1, .int sel), (4, .int (nI i))]) hx hb dX0_modelsOf_45 rfl hl (by decide) rfl (fun ls hl => ?_)
          refine lv_iinc (v := nI (i + 1)) (lv' := [(4, .int (nI (i + 1))), (2, .long (acc &&& (md i))), (0, .ref h0), (1, .int sel)]) hx hb dX0_modelsOf_46 hl (k := 3) rfl (nI_inc (i) 1) (by decide) rfl (fun ls hl => ?_)
          refine lv_goto (tgt := 7) hx hb dX0_modelsOf_49 (by decide) ?_
          exact ih (i + 1) (acc &&& (md i)) _ _ _ (by omega) (by omega) (by simp [modsOf, hasB, ha, c_13, c_23]) (hP.sub (ws' := [(h0, OB 0 [.ref hm, .ref hw, .int (nI n)]), (hm, AJ G 10 md), (hw, AI G 10 wt)]) [0, 1, 2] rfl) (hD.sub (ws' := [(h0, OB 0 [.ref hm, .ref hw, .int (nI n)]), (hm, AJ G 10 md), (hw, AI G 10 wt)]) [0, 1, 2] (by decide) rfl) hS (lv_sub (l' := [(0, .ref h0), (1, .int sel), (2, .long (acc &&& (md i))), (4, .int (nI (i + 1)))]) hl [2, 3, 1, 0] rfl)
        ·
          refine lv_iload_n hx hb dX0_modelsOf_26 rfl (lv_at hl 1 rfl) ?_
          refine lv_iload hx hb dX0_modelsOf_27 (lv_at hl 3 rfl) ?_
          refine lv_ishr hx hb dX0_modelsOf_29 ?_
          refine lv_iconst (v := 1) hx hb dX0_modelsOf_30 (by decide) ?_
          refine lv_iand hx hb dX0_modelsOf_31 ?_
          refine lv_iconst (v := 1) hx hb dX0_modelsOf_32 (by decide) ?_
          refine lv_icmp_ne (tgt := 46) hx hb dX0_modelsOf_33 (by decide) (fun c_33 => ?_) (fun c_33 => ?_)
          ·
            refine lv_iinc (v := nI (i + 1)) (lv' := [(4, .int (nI (i + 1))), (0, .ref h0), (1, .int sel), (2, .long acc)]) hx hb dX0_modelsOf_46 hl (k := 3) rfl (nI_inc (i) 1) (by decide) rfl (fun ls hl => ?_)
            refine lv_goto (tgt := 7) hx hb dX0_modelsOf_49 (by decide) ?_
            exact ih (i + 1) acc _ _ _ (by omega) (by omega) (by simp [modsOf, hasB, ha, c_13, c_23, c_33]) (hP.sub (ws' := [(h0, OB 0 [.ref hm, .ref hw, .int (nI n)]), (hm, AJ G 10 md), (hw, AI G 10 wt)]) [0, 1, 2] rfl) (hD.sub (ws' := [(h0, OB 0 [.ref hm, .ref hw, .int (nI n)]), (hm, AJ G 10 md), (hw, AI G 10 wt)]) [0, 1, 2] (by decide) rfl) hS (lv_sub (l' := [(0, .ref h0), (1, .int sel), (2, .long acc), (4, .int (nI (i + 1)))]) hl [1, 2, 3, 0] rfl)
          ·
            refine lv_lload_n hx hb dX0_modelsOf_36 rfl (lv_at hl 2 rfl) ?_
            refine lv_aload_n hx hb dX0_modelsOf_37 rfl (lv_at hl 0 rfl) ?_
            refine va_get (D := G.1) (ci := 0) (v := .ref hm) (C := RX0) (T := TX0) (N := 3) hx hb hts hi0 hown hK hP 0 rfl rfl 0 (by decide) (hts (.fieldLink RX0 9 "ConflictEnumerator$Constraints" "models" "[J") (List.mem_of_getElem? (i := 4) rfl)) (fun _ h9 => h9) rfl dX0_modelsOf_38 ?_
            refine lv_iload hx hb dX0_modelsOf_41 (lv_at hl 3 rfl) ?_
            refine wa_lald hx hb hK hP 1 rfl (i) (rfl) (by omega) (by decide) dX0_modelsOf_43 ?_
            refine lv_land hx hb dX0_modelsOf_44 ?_
            refine lv_lstore_n (lv' := [(2, .long (acc &&& (md i))), (0, .ref h0), (1, .int sel), (4, .int (nI i))]) hx hb dX0_modelsOf_45 rfl hl (by decide) rfl (fun ls hl => ?_)
            refine lv_iinc (v := nI (i + 1)) (lv' := [(4, .int (nI (i + 1))), (2, .long (acc &&& (md i))), (0, .ref h0), (1, .int sel)]) hx hb dX0_modelsOf_46 hl (k := 3) rfl (nI_inc (i) 1) (by decide) rfl (fun ls hl => ?_)
            refine lv_goto (tgt := 7) hx hb dX0_modelsOf_49 (by decide) ?_
            exact ih (i + 1) (acc &&& (md i)) _ _ _ (by omega) (by omega) (by simp [modsOf, hasB, ha, c_13, c_23, c_33]) (hP.sub (ws' := [(h0, OB 0 [.ref hm, .ref hw, .int (nI n)]), (hm, AJ G 10 md), (hw, AI G 10 wt)]) [0, 1, 2] rfl) (hD.sub (ws' := [(h0, OB 0 [.ref hm, .ref hw, .int (nI n)]), (hm, AJ G 10 md), (hw, AI G 10 wt)]) [0, 1, 2] (by decide) rfl) hS (lv_sub (l' := [(0, .ref h0), (1, .int sel), (2, .long (acc &&& (md i))), (4, .int (nI (i + 1)))]) hl [2, 3, 1, 0] rfl)
  exact L7 ((n - 0) + 1) 0 (-1) _ _ _ (Nat.lt_succ_self _) (Nat.zero_le n) (rfl) (hP.sub (ws' := [(h0, OB 0 [.ref hm, .ref hw, .int (nI n)]), (hm, AJ G 10 md), (hw, AI G 10 wt)]) [0, 1, 2] rfl) (hD.sub (ws' := [(h0, OB 0 [.ref hm, .ref hw, .int (nI n)]), (hm, AJ G 10 md), (hw, AI G 10 wt)]) [0, 1, 2] (by decide) rfl) hS (lv_sub (l' := [(0, .ref h0), (1, .int sel), (2, .long (-1)), (4, .int (nI 0))]) hl [2, 3, 1, 0] rfl)
abbrev rmX0_isSatisfiable : Room := { frames := 1, cells := 0, slots := 0, locals := 24 }
set_option maxHeartbeats 4000000 in
set_option maxRecDepth 100000 in
theorem c_X0_isSatisfiable (l : Launch) (G : GT) (h0 hm hw : Nat) (md : Nat → Int64) (wt : Nat → Int32) (n : Nat) (sel : Int32) (hn : n ≤ 10) : Ci l yX0_isSatisfiable wsX0_isSatisfiable rmX0_isSatisfiable G [.ref h0, .int sel] [(h0, OB 0 [.ref hm, .ref hw, .int (nI n)]), (hm, AJ G 10 md), (hw, AI G 10 wt)] (fun r u => r = bI (satB md wt n sel) ∧ u = [(h0, OB 0 [.ref hm, .ref hw, .int (nI n)]), (hm, AJ G 10 md), (hw, AI G 10 wt)]) := by
  refine Ci.of (cc := cX0_isSatisfiable) (maxL := 2) (ty := .boolean) (by decide) rfl (Nat.le_of_ble_eq_true rfl) ?_
  intro p e s m below meth c A ls Q hx hb hml hts hown hA hS hP hK hN hSS hD hl ret
  have hown : s.vm.findClass RX0 = some m.cls := hown
  have hl : lv_has ls 2 [(0, .ref h0), (1, .int sel)] := hl
  refine lv_aload_n hx hb dX0_isSatisfiable_0 rfl (lv_at hl 0 rfl) ?_
  refine lv_iload_n hx hb dX0_isSatisfiable_1 rfl (lv_at hl 1 rfl) ?_
  refine call_Vl (rest := []) (As := [.int sel]) (wr := []) (c1 := 0) (s1 := 0) ⟨hx, hb, hml, hown, hts⟩ (c_X0_modelsOf l G h0 hm hw md wt n sel (by first | assumption | omega)) (cwV 1 hts gX0_isSatisfiable_X0_modelsOf rfl rfl rfl (by decide +kernel) ⟨Nat.le_of_ble_eq_true rfl, Nat.le_of_ble_eq_true rfl⟩) hK hN hSS hP hD hS hA 0 0 rfl rfl rfl [0, 1, 2] [] rfl rfl (by decide) (by decide) (by decide) rfl hl.1 rfl (Nat.le_of_ble_eq_true rfl) dX0_isSatisfiable_2 ⟨Nat.le_of_ble_eq_true rfl, Nat.le_of_ble_eq_true rfl⟩ rfl rfl (fun r_2 u_2 H locs hpo hP hD hS => ?_)
  obtain ⟨hr9, rfl⟩ := hpo
  subst r_2
  have hP : va_P G.1 vwCl [(h0, OB 0 [.ref hm, .ref hw, .int (nI n)]), (hm, AJ G 10 md), (hw, AI G 10 wt)] H := hP
  have hD : va_D A [(h0, OB 0 [.ref hm, .ref hw, .int (nI n)]), (hm, AJ G 10 md), (hw, AI G 10 wt)] := hD
  refine lv_lconst (v := 0) hx hb dX0_isSatisfiable_5 (by decide) ?_
  refine W.lcmp hx hb dX0_isSatisfiable_6 ?_
  refine wl_eq (tgt := 14) hx hb dX0_isSatisfiable_7 (by decide) (fun c_7 => ?_) (fun c_7 => ?_)
  ·
    refine lv_iconst (v := 0) hx hb dX0_isSatisfiable_14 (by decide) ?_
    exact ret 0 _ _ _ _ _ _ _ (Nat.le_of_ble_eq_true rfl) (Nat.le_of_ble_eq_true rfl) (rfl) (⟨by simp [bI, satB, c_7], rfl⟩) (hP.sub (ws' := [(h0, OB 0 [.ref hm, .ref hw, .int (nI n)]), (hm, AJ G 10 md), (hw, AI G 10 wt)]) [0, 1, 2] rfl) (hD.sub (ws' := [(h0, OB 0 [.ref hm, .ref hw, .int (nI n)]), (hm, AJ G 10 md), (hw, AI G 10 wt)]) [0, 1, 2] (by decide) rfl) hS dX0_isSatisfiable_15
  ·
    refine lv_iconst (v := 1) hx hb dX0_isSatisfiable_10 (by decide) ?_
    refine lv_goto (tgt := 15) hx hb dX0_isSatisfiable_11 (by decide) ?_
    exact ret 1 _ _ _ _ _ _ _ (Nat.le_of_ble_eq_true rfl) (Nat.le_of_ble_eq_true rfl) (rfl) (⟨by simp [bI, satB, c_7], rfl⟩) (hP.sub (ws' := [(h0, OB 0 [.ref hm, .ref hw, .int (nI n)]), (hm, AJ G 10 md), (hw, AI G 10 wt)]) [0, 1, 2] rfl) (hD.sub (ws' := [(h0, OB 0 [.ref hm, .ref hw, .int (nI n)]), (hm, AJ G 10 md), (hw, AI G 10 wt)]) [0, 1, 2] (by decide) rfl) hS dX0_isSatisfiable_15
abbrev rmX0_smallestModel : Room := { frames := 1, cells := 0, slots := 0, locals := 24 }
set_option maxHeartbeats 4000000 in
set_option maxRecDepth 100000 in
theorem c_X0_smallestModel (l : Launch) (G : GT) (h0 hm hw : Nat) (md : Nat → Int64) (wt : Nat → Int32) (n : Nat) (sel : Int32) (hn : n ≤ 10) : Ci l yX0_smallestModel wsX0_smallestModel rmX0_smallestModel G [.ref h0, .int sel] [(h0, OB 0 [.ref hm, .ref hw, .int (nI n)]), (hm, AJ G 10 md), (hw, AI G 10 wt)] (fun r u => r = firstB (modsOf md wt sel n) 0 64 ∧ u = [(h0, OB 0 [.ref hm, .ref hw, .int (nI n)]), (hm, AJ G 10 md), (hw, AI G 10 wt)]) := by
  refine Ci.of (cc := cX0_smallestModel) (maxL := 5) (ty := .int) (by decide) rfl (Nat.le_of_ble_eq_true rfl) ?_
  intro p e s m below meth c A ls Q hx hb hml hts hown hA hS hP hK hN hSS hD hl ret
  have hown : s.vm.findClass RX0 = some m.cls := hown
  have hl : lv_has ls 5 [(0, .ref h0), (1, .int sel)] := hl
  refine lv_aload_n hx hb dX0_smallestModel_0 rfl (lv_at hl 0 rfl) ?_
  refine lv_iload_n hx hb dX0_smallestModel_1 rfl (lv_at hl 1 rfl) ?_
  refine call_Vl (rest := []) (As := [.int sel]) (wr := []) (c1 := 0) (s1 := 0) ⟨hx, hb, hml, hown, hts⟩ (c_X0_modelsOf l G h0 hm hw md wt n sel (by first | assumption | omega)) (cwV 1 hts gX0_smallestModel_X0_modelsOf rfl rfl rfl (by decide +kernel) ⟨Nat.le_of_ble_eq_true rfl, Nat.le_of_ble_eq_true rfl⟩) hK hN hSS hP hD hS hA 0 0 rfl rfl rfl [0, 1, 2] [] rfl rfl (by decide) (by decide) (by decide) rfl hl.1 rfl (Nat.le_of_ble_eq_true rfl) dX0_smallestModel_2 ⟨Nat.le_of_ble_eq_true rfl, Nat.le_of_ble_eq_true rfl⟩ rfl rfl (fun r_2 u_2 H locs hpo hP hD hS => ?_)
  obtain ⟨hr9, rfl⟩ := hpo
  subst r_2
  have hP : va_P G.1 vwCl [(h0, OB 0 [.ref hm, .ref hw, .int (nI n)]), (hm, AJ G 10 md), (hw, AI G 10 wt)] H := hP
  have hD : va_D A [(h0, OB 0 [.ref hm, .ref hw, .int (nI n)]), (hm, AJ G 10 md), (hw, AI G 10 wt)] := hD
  refine lv_lstore_n (lv' := [(2, .long (modsOf md wt sel n)), (0, .ref h0), (1, .int sel)]) hx hb dX0_smallestModel_5 rfl hl (by decide) rfl (fun ls hl => ?_)
  refine lv_iconst (v := 0) hx hb dX0_smallestModel_6 (by decide) ?_
  refine lv_istore (lv' := [(4, .int 0), (2, .long (modsOf md wt sel n)), (0, .ref h0), (1, .int sel)]) hx hb dX0_smallestModel_7 hl (by decide) rfl (fun ls hl => ?_)
  have L9 : ∀ (kf : Nat) (a : Nat) (H : Heap) (locs : List Loc) (ls : Array Slot), 64 - a < kf → (a ≤ 64) → (firstB (modsOf md wt sel n) a (64 - a) = firstB (modsOf md wt sel n) 0 64) → va_P G.1 vwCl [(h0, OB 0 [.ref hm, .ref hw, .int (nI n)]), (hm, AJ G 10 md), (hw, AI G 10 wt)] H → va_D A [(h0, OB 0 [.ref hm, .ref hw, .int (nI n)]), (hm, AJ G 10 md), (hw, AI G 10 wt)] → va_S A s.heap H locs → lv_has ls 5 [(0, .ref h0), (1, .int sel), (2, .long (modsOf md wt sel n)), (4, .int (nI a))] → W p l e rmX0_smallestModel s m ([.ref h0, .int sel] : List Value).toArray below meth c H locs 0 0 Q (F0 m 9 ls []) := by
    intro kf
    induction kf with
    | zero => intro a H locs ls h; exact absurd h (Nat.not_lt_zero _)
    | succ kf ih =>
      intro a H locs ls hk ha hb9 hP hD hS hl
      refine lv_iload hx hb dX0_smallestModel_9 (lv_at hl 3 rfl) ?_
      refine lv_bipush (v := 64) hx hb dX0_smallestModel_11 (by decide) ?_
      refine lv_icmp_ge (tgt := 36) hx hb dX0_smallestModel_13 (by decide) (fun c_13 => ?_) (fun c_13 => ?_)
      ·
        have c_13 : 64 ≤ a := (nI_leI (a := 64) (b := a) (by omega) (by omega)).mp c_13
        refine lv_bipush (v := (-9)) hx hb dX0_smallestModel_36 (by decide) ?_
        exact ret (-9) _ _ _ _ _ _ _ (Nat.le_of_ble_eq_true rfl) (Nat.le_of_ble_eq_true rfl) (rfl) (⟨by rw [← hb9, show 64 - a = 0 by omega]; rfl, rfl⟩) (hP.sub (ws' := [(h0, OB 0 [.ref hm, .ref hw, .int (nI n)]), (hm, AJ G 10 md), (hw, AI G 10 wt)]) [0, 1, 2] rfl) (hD.sub (ws' := [(h0, OB 0 [.ref hm, .ref hw, .int (nI n)]), (hm, AJ G 10 md), (hw, AI G 10 wt)]) [0, 1, 2] (by decide) rfl) hS dX0_smallestModel_38
      ·
        have c_13 : a < 64 := by have h9 := mt (nI_leI (a := 64) (b := a) (by omega) (by omega)).mpr c_13; omega
        refine lv_lload_n hx hb dX0_smallestModel_16 rfl (lv_at hl 2 rfl) ?_
        refine lv_iload hx hb dX0_smallestModel_17 (lv_at hl 3 rfl) ?_
        refine lv_lushr (v := ((modsOf md wt sel n : Int64).toUInt64 >>> ((nI a : Int32).toInt64.toUInt64 &&& Int64.toUInt64 63)).toInt64) hx hb dX0_smallestModel_19 rfl ?_
        refine lv_lconst (v := 1) hx hb dX0_smallestModel_20 (by decide) ?_
        refine lv_land hx hb dX0_smallestModel_21 ?_
        refine lv_lconst (v := 1) hx hb dX0_smallestModel_22 (by decide) ?_
        refine W.lcmp hx hb dX0_smallestModel_23 ?_
        refine wl_ne (tgt := 30) hx hb dX0_smallestModel_24 (by decide) (fun c_24 => ?_) (fun c_24 => ?_)
        ·
          refine lv_iinc (v := nI (a + 1)) (lv' := [(4, .int (nI (a + 1))), (0, .ref h0), (1, .int sel), (2, .long (modsOf md wt sel n))]) hx hb dX0_smallestModel_30 hl (k := 3) rfl (nI_inc (a) 1) (by decide) rfl (fun ls hl => ?_)
          refine lv_goto (tgt := 9) hx hb dX0_smallestModel_33 (by decide) ?_
          exact ih (a + 1) _ _ _ (by omega) (by omega) (by rw [← hb9, show 64 - a = (64 - (a + 1)) + 1 by omega, firstB, if_neg (mt bitL_1.mpr c_24)]) (hP.sub (ws' := [(h0, OB 0 [.ref hm, .ref hw, .int (nI n)]), (hm, AJ G 10 md), (hw, AI G 10 wt)]) [0, 1, 2] rfl) (hD.sub (ws' := [(h0, OB 0 [.ref hm, .ref hw, .int (nI n)]), (hm, AJ G 10 md), (hw, AI G 10 wt)]) [0, 1, 2] (by decide) rfl) hS (lv_sub (l' := [(0, .ref h0), (1, .int sel), (2, .long (modsOf md wt sel n)), (4, .int (nI (a + 1)))]) hl [1, 2, 3, 0] rfl)
        ·
          refine lv_iload hx hb dX0_smallestModel_27 (lv_at hl 3 rfl) ?_
          exact ret (nI a) _ _ _ _ _ _ _ (Nat.le_of_ble_eq_true rfl) (Nat.le_of_ble_eq_true rfl) (rfl) (⟨by rw [← hb9, show 64 - a = (64 - (a + 1)) + 1 by omega, firstB, if_pos (bitL_1.mp c_24)], rfl⟩) (hP.sub (ws' := [(h0, OB 0 [.ref hm, .ref hw, .int (nI n)]), (hm, AJ G 10 md), (hw, AI G 10 wt)]) [0, 1, 2] rfl) (hD.sub (ws' := [(h0, OB 0 [.ref hm, .ref hw, .int (nI n)]), (hm, AJ G 10 md), (hw, AI G 10 wt)]) [0, 1, 2] (by decide) rfl) hS dX0_smallestModel_29
  exact L9 ((64 - 0) + 1) 0 _ _ _ (Nat.lt_succ_self _) (Nat.zero_le 64) (rfl) (hP.sub (ws' := [(h0, OB 0 [.ref hm, .ref hw, .int (nI n)]), (hm, AJ G 10 md), (hw, AI G 10 wt)]) [0, 1, 2] rfl) (hD.sub (ws' := [(h0, OB 0 [.ref hm, .ref hw, .int (nI n)]), (hm, AJ G 10 md), (hw, AI G 10 wt)]) [0, 1, 2] (by decide) rfl) hS (lv_sub (l' := [(0, .ref h0), (1, .int sel), (2, .long (modsOf md wt sel n)), (4, .int (nI 0))]) hl [2, 3, 1, 0] rfl)
abbrev rmX0_violatedBy : Room := { frames := 0, cells := 0, slots := 0, locals := 0 }
set_option maxHeartbeats 4000000 in
set_option maxRecDepth 100000 in
theorem c_X0_violatedBy (l : Launch) (G : GT) (h0 hm hw : Nat) (md : Nat → Int64) (wt : Nat → Int32) (n : Nat) (a : Nat) (hn : n ≤ 10) : Ci l yX0_violatedBy wsX0_violatedBy rmX0_violatedBy G [.ref h0, .int (nI a)] [(h0, OB 0 [.ref hm, .ref hw, .int (nI n)]), (hm, AJ G 10 md), (hw, AI G 10 wt)] (fun r u => r = violM md a n ∧ u = [(h0, OB 0 [.ref hm, .ref hw, .int (nI n)]), (hm, AJ G 10 md), (hw, AI G 10 wt)]) := by
  refine Ci.of (cc := cX0_violatedBy) (maxL := 4) (ty := .int) (by decide) rfl (Nat.le_of_ble_eq_true rfl) ?_
  intro p e s m below meth c A ls Q hx hb hml hts hown hA hS hP hK hN hSS hD hl ret
  have hown : s.vm.findClass RX0 = some m.cls := hown
  have hl : lv_has ls 4 [(0, .ref h0), (1, .int (nI a))] := hl
  have hi0 : ∀ w ∈ wsX00, w ∈ wsX0_violatedBy := mem_places [3, 4, 5] (by decide +kernel)
  refine lv_iconst (v := 0) hx hb dX0_violatedBy_0 (by decide) ?_
  refine lv_istore_n (lv' := [(2, .int 0), (0, .ref h0), (1, .int (nI a))]) hx hb dX0_violatedBy_1 rfl hl (by decide) rfl (fun ls hl => ?_)
  refine lv_iconst (v := 0) hx hb dX0_violatedBy_2 (by decide) ?_
  refine lv_istore_n (lv' := [(3, .int 0), (2, .int 0), (0, .ref h0), (1, .int (nI a))]) hx hb dX0_violatedBy_3 rfl hl (by decide) rfl (fun ls hl => ?_)
  have L4 : ∀ (kf : Nat) (i : Nat) (acc : Int32) (H : Heap) (locs : List Loc) (ls : Array Slot), n - i < kf → (i ≤ n) → (acc = violM md a i) → va_P G.1 vwCl [(h0, OB 0 [.ref hm, .ref hw, .int (nI n)]), (hm, AJ G 10 md), (hw, AI G 10 wt)] H → va_D A [(h0, OB 0 [.ref hm, .ref hw, .int (nI n)]), (hm, AJ G 10 md), (hw, AI G 10 wt)] → va_S A s.heap H locs → lv_has ls 4 [(0, .ref h0), (1, .int (nI a)), (2, .int acc), (3, .int (nI i))] → W p l e rmX0_violatedBy s m ([.ref h0, .int (nI a)] : List Value).toArray below meth c H locs 0 0 Q (F0 m 4 ls []) := by
    intro kf
    induction kf with
    | zero => intro i acc H locs ls h; exact absurd h (Nat.not_lt_zero _)
    | succ kf ih =>
      intro i acc H locs ls hk hi ha hP hD hS hl
      refine lv_iload_n hx hb dX0_violatedBy_4 rfl (lv_at hl 3 rfl) ?_
      refine lv_aload_n hx hb dX0_violatedBy_5 rfl (lv_at hl 0 rfl) ?_
      refine va_get (D := G.1) (ci := 0) (v := .int (nI n)) (C := RX0) (T := TX0) (N := 3) hx hb hts hi0 hown hK hP 0 rfl rfl 2 (by decide) (hts (.fieldLink RX0 19 "ConflictEnumerator$Constraints" "size" "I") (List.mem_of_getElem? (i := 1) rfl)) (fun _ h9 => h9) rfl dX0_violatedBy_6 ?_
      refine lv_icmp_ge (tgt := 39) hx hb dX0_violatedBy_9 (by decide) (fun c_9 => ?_) (fun c_9 => ?_)
      ·
        have c_9 : n ≤ i := (nI_leI (a := n) (b := i) (by omega) (by omega)).mp c_9
        refine lv_iload_n hx hb dX0_violatedBy_39 rfl (lv_at hl 2 rfl) ?_
        exact ret acc _ _ _ _ _ _ _ (Nat.le_of_ble_eq_true rfl) (Nat.le_of_ble_eq_true rfl) (rfl) (⟨by rw [ha, show i = n by omega], rfl⟩) (hP.sub (ws' := [(h0, OB 0 [.ref hm, .ref hw, .int (nI n)]), (hm, AJ G 10 md), (hw, AI G 10 wt)]) [0, 1, 2] rfl) (hD.sub (ws' := [(h0, OB 0 [.ref hm, .ref hw, .int (nI n)]), (hm, AJ G 10 md), (hw, AI G 10 wt)]) [0, 1, 2] (by decide) rfl) hS dX0_violatedBy_40
      ·
        have c_9 : i < n := by have h9 := mt (nI_leI (a := n) (b := i) (by omega) (by omega)).mpr c_9; omega
        refine lv_aload_n hx hb dX0_violatedBy_12 rfl (lv_at hl 0 rfl) ?_
        refine va_get (D := G.1) (ci := 0) (v := .ref hm) (C := RX0) (T := TX0) (N := 3) hx hb hts hi0 hown hK hP 0 rfl rfl 0 (by decide) (hts (.fieldLink RX0 9 "ConflictEnumerator$Constraints" "models" "[J") (List.mem_of_getElem? (i := 2) rfl)) (fun _ h9 => h9) rfl dX0_violatedBy_13 ?_
        refine lv_iload_n hx hb dX0_violatedBy_16 rfl (lv_at hl 3 rfl) ?_
        refine wa_lald hx hb hK hP 1 rfl (i) (rfl) (by omega) (by decide) dX0_violatedBy_17 ?_
        refine lv_iload_n hx hb dX0_violatedBy_18 rfl (lv_at hl 1 rfl) ?_
        refine lv_lushr (v := ((md i : Int64).toUInt64 >>> ((nI a : Int32).toInt64.toUInt64 &&& Int64.toUInt64 63)).toInt64) hx hb dX0_violatedBy_19 rfl ?_
        refine lv_lconst (v := 1) hx hb dX0_violatedBy_20 (by decide) ?_
        refine lv_land hx hb dX0_violatedBy_21 ?_
        refine lv_lconst (v := 0) hx hb dX0_violatedBy_22 (by decide) ?_
        refine W.lcmp hx hb dX0_violatedBy_23 ?_
        refine wl_ne (tgt := 33) hx hb dX0_violatedBy_24 (by decide) (fun c_24 => ?_) (fun c_24 => ?_)
        ·
          refine lv_iinc (v := nI (i + 1)) (lv' := [(3, .int (nI (i + 1))), (0, .ref h0), (1, .int (nI a)), (2, .int acc)]) hx hb dX0_violatedBy_33 hl (k := 3) rfl (nI_inc (i) 1) (by decide) rfl (fun ls hl => ?_)
          refine lv_goto (tgt := 4) hx hb dX0_violatedBy_36 (by decide) ?_
          exact ih (i + 1) acc _ _ _ (by omega) (by omega) (by first | (have h9 := bitL_0.mp c_24; simp [violM, h9, ha]; done) | (have h9 := mt bitL_0.mpr c_24; simp at h9; simp [violM, h9, ha])) (hP.sub (ws' := [(h0, OB 0 [.ref hm, .ref hw, .int (nI n)]), (hm, AJ G 10 md), (hw, AI G 10 wt)]) [0, 1, 2] rfl) (hD.sub (ws' := [(h0, OB 0 [.ref hm, .ref hw, .int (nI n)]), (hm, AJ G 10 md), (hw, AI G 10 wt)]) [0, 1, 2] (by decide) rfl) hS (lv_sub (l' := [(0, .ref h0), (1, .int (nI a)), (2, .int acc), (3, .int (nI (i + 1)))]) hl [1, 2, 3, 0] rfl)
        ·
          refine lv_iload_n hx hb dX0_violatedBy_27 rfl (lv_at hl 2 rfl) ?_
          refine lv_iconst (v := 1) hx hb dX0_violatedBy_28 (by decide) ?_
          refine lv_iload_n hx hb dX0_violatedBy_29 rfl (lv_at hl 3 rfl) ?_
          refine wn_bit hx hb (i) rfl rfl dX0_violatedBy_30 ?_
          refine lv_ior hx hb dX0_violatedBy_31 ?_
          refine lv_istore_n (lv' := [(2, .int (acc ||| (bitI i))), (0, .ref h0), (1, .int (nI a)), (3, .int (nI i))]) hx hb dX0_violatedBy_32 rfl hl (by decide) rfl (fun ls hl => ?_)
          refine lv_iinc (v := nI (i + 1)) (lv' := [(3, .int (nI (i + 1))), (2, .int (acc ||| (bitI i))), (0, .ref h0), (1, .int (nI a))]) hx hb dX0_violatedBy_33 hl (k := 3) rfl (nI_inc (i) 1) (by decide) rfl (fun ls hl => ?_)
          refine lv_goto (tgt := 4) hx hb dX0_violatedBy_36 (by decide) ?_
          exact ih (i + 1) (acc ||| (bitI i)) _ _ _ (by omega) (by omega) (by first | (have h9 := bitL_0.mp c_24; simp [violM, h9, ha]; done) | (have h9 := mt bitL_0.mpr c_24; simp at h9; simp [violM, h9, ha])) (hP.sub (ws' := [(h0, OB 0 [.ref hm, .ref hw, .int (nI n)]), (hm, AJ G 10 md), (hw, AI G 10 wt)]) [0, 1, 2] rfl) (hD.sub (ws' := [(h0, OB 0 [.ref hm, .ref hw, .int (nI n)]), (hm, AJ G 10 md), (hw, AI G 10 wt)]) [0, 1, 2] (by decide) rfl) hS (lv_sub (l' := [(0, .ref h0), (1, .int (nI a)), (2, .int (acc ||| (bitI i))), (3, .int (nI (i + 1)))]) hl [2, 3, 1, 0] rfl)
  exact L4 ((n - 0) + 1) 0 0 _ _ _ (Nat.lt_succ_self _) (Nat.zero_le n) (rfl) (hP.sub (ws' := [(h0, OB 0 [.ref hm, .ref hw, .int (nI n)]), (hm, AJ G 10 md), (hw, AI G 10 wt)]) [0, 1, 2] rfl) (hD.sub (ws' := [(h0, OB 0 [.ref hm, .ref hw, .int (nI n)]), (hm, AJ G 10 md), (hw, AI G 10 wt)]) [0, 1, 2] (by decide) rfl) hS (lv_sub (l' := [(0, .ref h0), (1, .int (nI a)), (2, .int 0), (3, .int (nI 0))]) hl [2, 3, 1, 0] rfl)
abbrev rmX0_grow : Room := { frames := 2, cells := 0, slots := 0, locals := 45 }
set_option maxHeartbeats 4000000 in
set_option maxRecDepth 100000 in
theorem c_X0_grow (l : Launch) (G : GT) (h0 hm hw : Nat) (md : Nat → Int64) (wt : Nat → Int32) (n : Nat) (sel : Int32) (hn : n ≤ 10) : Ci l yX0_grow wsX0_grow rmX0_grow G [.ref h0, .int sel] [(h0, OB 0 [.ref hm, .ref hw, .int (nI n)]), (hm, AJ G 10 md), (hw, AI G 10 wt)] (fun r u => r = growF (satB md wt n) (softM wt n) sel n ∧ u = [(h0, OB 0 [.ref hm, .ref hw, .int (nI n)]), (hm, AJ G 10 md), (hw, AI G 10 wt)]) := by
  refine Ci.of (cc := cX0_grow) (maxL := 6) (ty := .int) (by decide) rfl (Nat.le_of_ble_eq_true rfl) ?_
  intro p e s m below meth c A ls Q hx hb hml hts hown hA hS hP hK hN hSS hD hl ret
  have hown : s.vm.findClass RX0 = some m.cls := hown
  have hl : lv_has ls 6 [(0, .ref h0), (1, .int sel)] := hl
  have hi0 : ∀ w ∈ wsX00, w ∈ wsX0_grow := mem_places [18, 19, 20] (by decide +kernel)
  refine lv_aload_n hx hb dX0_grow_0 rfl (lv_at hl 0 rfl) ?_
  refine call_Vi (rest := []) (As := []) (wr := []) (c1 := 0) (s1 := 0) ⟨hx, hb, hml, hown, hts⟩ (c_X0_softMask l G h0 hm hw md wt n (by first | assumption | omega)) (cwV 0 hts gX0_grow_X0_softMask rfl rfl rfl (by decide +kernel) ⟨Nat.le_of_ble_eq_true rfl, Nat.le_of_ble_eq_true rfl⟩) hK hN hSS hP hD hS hA 0 0 rfl rfl rfl [0, 1, 2] [] rfl rfl (by decide) (by decide) (by decide) rfl hl.1 rfl (Nat.le_of_ble_eq_true rfl) dX0_grow_1 ⟨Nat.le_of_ble_eq_true rfl, Nat.le_of_ble_eq_true rfl⟩ rfl rfl (fun r_1 u_1 H locs hpo hP hD hS => ?_)
  obtain ⟨hr9, rfl⟩ := hpo
  subst r_1
  have hP : va_P G.1 vwCl [(h0, OB 0 [.ref hm, .ref hw, .int (nI n)]), (hm, AJ G 10 md), (hw, AI G 10 wt)] H := hP
  have hD : va_D A [(h0, OB 0 [.ref hm, .ref hw, .int (nI n)]), (hm, AJ G 10 md), (hw, AI G 10 wt)] := hD
  refine lv_istore_n (lv' := [(2, .int (softM wt n)), (0, .ref h0), (1, .int sel)]) hx hb dX0_grow_4 rfl hl (by decide) rfl (fun ls hl => ?_)
  refine lv_iload_n hx hb dX0_grow_5 rfl (lv_at hl 2 rfl) ?_
  refine lv_istore_n (lv' := [(3, .int sel), (2, .int (softM wt n)), (0, .ref h0), (1, .int sel)]) hx hb dX0_grow_6 rfl hl (by decide) rfl (fun ls hl => ?_)
  refine lv_iconst (v := 0) hx hb dX0_grow_7 (by decide) ?_
  refine lv_istore (lv' := [(4, .int 0), (3, .int sel), (2, .int (softM wt n)), (0, .ref h0), (1, .int sel)]) hx hb dX0_grow_8 hl (by decide) rfl (fun ls hl => ?_)
  have L10 : ∀ (kf : Nat) (i : Nat) (acc : Int32) (H : Heap) (locs : List Loc) (ls : Array Slot), n - i < kf → (i ≤ n) → (acc = growF (satB md wt n) (softM wt n) sel i) → va_P G.1 vwCl [(h0, OB 0 [.ref hm, .ref hw, .int (nI n)]), (hm, AJ G 10 md), (hw, AI G 10 wt)] H → va_D A [(h0, OB 0 [.ref hm, .ref hw, .int (nI n)]), (hm, AJ G 10 md), (hw, AI G 10 wt)] → va_S A s.heap H locs → lv_has ls 6 [(0, .ref h0), (1, .int sel), (2, .int (softM wt n)), (3, .int acc), (4, .int (nI i))] → W p l e rmX0_grow s m ([.ref h0, .int sel] : List Value).toArray below meth c H locs 0 0 Q (F0 m 10 ls []) := by
    intro kf
    induction kf with
    | zero => intro i acc H locs ls h; exact absurd h (Nat.not_lt_zero _)
    | succ kf ih =>
      intro i acc H locs ls hk hi ha hP hD hS hl
      refine lv_iload hx hb dX0_grow_10 (lv_at hl 4 rfl) ?_
      refine lv_aload_n hx hb dX0_grow_12 rfl (lv_at hl 0 rfl) ?_
      refine va_get (D := G.1) (ci := 0) (v := .int (nI n)) (C := RX0) (T := TX0) (N := 3) hx hb hts hi0 hown hK hP 0 rfl rfl 2 (by decide) (hts (.fieldLink RX0 19 "ConflictEnumerator$Constraints" "size" "I") (List.mem_of_getElem? (i := 1) rfl)) (fun _ h9 => h9) rfl dX0_grow_13 ?_
      refine lv_icmp_ge (tgt := 47) hx hb dX0_grow_16 (by decide) (fun c_16 => ?_) (fun c_16 => ?_)
      ·
        have c_16 : n ≤ i := (nI_leI (a := n) (b := i) (by omega) (by omega)).mp c_16
        refine lv_iload_n hx hb dX0_grow_47 rfl (lv_at hl 3 rfl) ?_
        exact ret acc _ _ _ _ _ _ _ (Nat.le_of_ble_eq_true rfl) (Nat.le_of_ble_eq_true rfl) (rfl) (⟨by rw [ha, show i = n by omega], rfl⟩) (hP.sub (ws' := [(h0, OB 0 [.ref hm, .ref hw, .int (nI n)]), (hm, AJ G 10 md), (hw, AI G 10 wt)]) [0, 1, 2] rfl) (hD.sub (ws' := [(h0, OB 0 [.ref hm, .ref hw, .int (nI n)]), (hm, AJ G 10 md), (hw, AI G 10 wt)]) [0, 1, 2] (by decide) rfl) hS dX0_grow_48
      ·
        have c_16 : i < n := by have h9 := mt (nI_leI (a := n) (b := i) (by omega) (by omega)).mpr c_16; omega
        refine lv_iload_n hx hb dX0_grow_19 rfl (lv_at hl 3 rfl) ?_
        refine lv_iload_n hx hb dX0_grow_20 rfl (lv_at hl 2 rfl) ?_
        refine lv_iconst (v := 1) hx hb dX0_grow_21 (by decide) ?_
        refine lv_iload hx hb dX0_grow_22 (lv_at hl 4 rfl) ?_
        refine wn_bit hx hb (i) rfl rfl dX0_grow_24 ?_
        refine lv_iand hx hb dX0_grow_25 ?_
        refine lv_ior hx hb dX0_grow_26 ?_
        refine lv_istore (lv' := [(5, .int (acc ||| ((softM wt n) &&& (bitI i)))), (0, .ref h0), (1, .int sel), (2, .int (softM wt n)), (3, .int acc), (4, .int (nI i))]) hx hb dX0_grow_27 hl (by decide) rfl (fun ls hl => ?_)
        refine lv_aload_n hx hb dX0_grow_29 rfl (lv_at hl 1 rfl) ?_
        refine lv_iload hx hb dX0_grow_30 (lv_at hl 0 rfl) ?_
        refine call_Vi (rest := []) (As := [.int (acc ||| ((softM wt n) &&& (bitI i)))]) (wr := []) (c1 := 0) (s1 := 0) ⟨hx, hb, hml, hown, hts⟩ (c_X0_isSatisfiable l G h0 hm hw md wt n (acc ||| ((softM wt n) &&& (bitI i))) (by first | assumption | omega)) (cwV 1 hts gX0_grow_X0_isSatisfiable rfl rfl rfl (by decide +kernel) ⟨Nat.le_of_ble_eq_true rfl, Nat.le_of_ble_eq_true rfl⟩) hK hN hSS hP hD hS hA 0 0 rfl rfl rfl [0, 1, 2] [] rfl rfl (by decide) (by decide) (by decide) rfl hl.1 rfl (Nat.le_of_ble_eq_true rfl) dX0_grow_32 ⟨Nat.le_of_ble_eq_true rfl, Nat.le_of_ble_eq_true rfl⟩ rfl rfl (fun r_32 u_32 H locs hpo hP hD hS => ?_)
        obtain ⟨hr9, rfl⟩ := hpo
        subst r_32
        have hP : va_P G.1 vwCl [(h0, OB 0 [.ref hm, .ref hw, .int (nI n)]), (hm, AJ G 10 md), (hw, AI G 10 wt)] H := hP
        have hD : va_D A [(h0, OB 0 [.ref hm, .ref hw, .int (nI n)]), (hm, AJ G 10 md), (hw, AI G 10 wt)] := hD
        refine wb_eq (tgt := 41) hx hb dX0_grow_35 (by decide) (fun c_35 => ?_) (fun c_35 => ?_)
        ·
          refine lv_iinc (v := nI (i + 1)) (lv' := [(4, .int (nI (i + 1))), (5, .int (acc ||| ((softM wt n) &&& (bitI i)))), (0, .ref h0), (1, .int sel), (2, .int (softM wt n)), (3, .int acc)]) hx hb dX0_grow_41 hl (k := 5) rfl (nI_inc (i) 1) (by decide) rfl (fun ls hl => ?_)
          refine lv_goto (tgt := 10) hx hb dX0_grow_44 (by decide) ?_
          exact ih (i + 1) acc _ _ _ (by omega) (by omega) (by subst ha; simp [growF, c_35]) (hP.sub (ws' := [(h0, OB 0 [.ref hm, .ref hw, .int (nI n)]), (hm, AJ G 10 md), (hw, AI G 10 wt)]) [0, 1, 2] rfl) (hD.sub (ws' := [(h0, OB 0 [.ref hm, .ref hw, .int (nI n)]), (hm, AJ G 10 md), (hw, AI G 10 wt)]) [0, 1, 2] (by decide) rfl) hS (lv_sub (l' := [(0, .ref h0), (1, .int sel), (2, .int (softM wt n)), (3, .int acc), (4, .int (nI (i + 1)))]) hl [2, 3, 4, 5, 0] rfl)
        ·
          refine lv_iload hx hb dX0_grow_38 (lv_at hl 0 rfl) ?_
          refine lv_istore_n (lv' := [(3, .int (acc ||| ((softM wt n) &&& (bitI i)))), (5, .int (acc ||| ((softM wt n) &&& (bitI i)))), (0, .ref h0), (1, .int sel), (2, .int (softM wt n)), (4, .int (nI i))]) hx hb dX0_grow_40 rfl hl (by decide) rfl (fun ls hl => ?_)
          refine lv_iinc (v := nI (i + 1)) (lv' := [(4, .int (nI (i + 1))), (3, .int (acc ||| ((softM wt n) &&& (bitI i)))), (5, .int (acc ||| ((softM wt n) &&& (bitI i)))), (0, .ref h0), (1, .int sel), (2, .int (softM wt n))]) hx hb dX0_grow_41 hl (k := 5) rfl (nI_inc (i) 1) (by decide) rfl (fun ls hl => ?_)
          refine lv_goto (tgt := 10) hx hb dX0_grow_44 (by decide) ?_
          exact ih (i + 1) (acc ||| ((softM wt n) &&& (bitI i))) _ _ _ (by omega) (by omega) (by subst ha; simp [growF, c_35]) (hP.sub (ws' := [(h0, OB 0 [.ref hm, .ref hw, .int (nI n)]), (hm, AJ G 10 md), (hw, AI G 10 wt)]) [0, 1, 2] rfl) (hD.sub (ws' := [(h0, OB 0 [.ref hm, .ref hw, .int (nI n)]), (hm, AJ G 10 md), (hw, AI G 10 wt)]) [0, 1, 2] (by decide) rfl) hS (lv_sub (l' := [(0, .ref h0), (1, .int sel), (2, .int (softM wt n)), (3, .int (acc ||| ((softM wt n) &&& (bitI i)))), (4, .int (nI (i + 1)))]) hl [3, 4, 5, 1, 0] rfl)
  exact L10 ((n - 0) + 1) 0 sel _ _ _ (Nat.lt_succ_self _) (Nat.zero_le n) (rfl) (hP.sub (ws' := [(h0, OB 0 [.ref hm, .ref hw, .int (nI n)]), (hm, AJ G 10 md), (hw, AI G 10 wt)]) [0, 1, 2] rfl) (hD.sub (ws' := [(h0, OB 0 [.ref hm, .ref hw, .int (nI n)]), (hm, AJ G 10 md), (hw, AI G 10 wt)]) [0, 1, 2] (by decide) rfl) hS (lv_sub (l' := [(0, .ref h0), (1, .int sel), (2, .int (softM wt n)), (3, .int sel), (4, .int (nI 0))]) hl [3, 4, 2, 1, 0] rfl)
abbrev rmX0_shrink : Room := { frames := 2, cells := 0, slots := 0, locals := 45 }
set_option maxHeartbeats 4000000 in
set_option maxRecDepth 100000 in
theorem c_X0_shrink (l : Launch) (G : GT) (h0 hm hw : Nat) (md : Nat → Int64) (wt : Nat → Int32) (n : Nat) (sel : Int32) (hn : n ≤ 10) : Ci l yX0_shrink wsX0_shrink rmX0_shrink G [.ref h0, .int sel] [(h0, OB 0 [.ref hm, .ref hw, .int (nI n)]), (hm, AJ G 10 md), (hw, AI G 10 wt)] (fun r u => r = shrinkF (satB md wt n) sel n ∧ u = [(h0, OB 0 [.ref hm, .ref hw, .int (nI n)]), (hm, AJ G 10 md), (hw, AI G 10 wt)]) := by
  refine Ci.of (cc := cX0_shrink) (maxL := 5) (ty := .int) (by decide) rfl (Nat.le_of_ble_eq_true rfl) ?_
  intro p e s m below meth c A ls Q hx hb hml hts hown hA hS hP hK hN hSS hD hl ret
  have hown : s.vm.findClass RX0 = some m.cls := hown
  have hl : lv_has ls 5 [(0, .ref h0), (1, .int sel)] := hl
  have hi0 : ∀ w ∈ wsX00, w ∈ wsX0_shrink := mem_places [14, 15, 16] (by decide +kernel)
  refine lv_iload_n hx hb dX0_shrink_0 rfl (lv_at hl 1 rfl) ?_
  refine lv_istore_n (lv' := [(2, .int sel), (0, .ref h0), (1, .int sel)]) hx hb dX0_shrink_1 rfl hl (by decide) rfl (fun ls hl => ?_)
  refine lv_iconst (v := 0) hx hb dX0_shrink_2 (by decide) ?_
  refine lv_istore_n (lv' := [(3, .int 0), (2, .int sel), (0, .ref h0), (1, .int sel)]) hx hb dX0_shrink_3 rfl hl (by decide) rfl (fun ls hl => ?_)
  have L4 : ∀ (kf : Nat) (i : Nat) (acc : Int32) (H : Heap) (locs : List Loc) (ls : Array Slot), n - i < kf → (i ≤ n) → (acc = shrinkF (satB md wt n) sel i) → va_P G.1 vwCl [(h0, OB 0 [.ref hm, .ref hw, .int (nI n)]), (hm, AJ G 10 md), (hw, AI G 10 wt)] H → va_D A [(h0, OB 0 [.ref hm, .ref hw, .int (nI n)]), (hm, AJ G 10 md), (hw, AI G 10 wt)] → va_S A s.heap H locs → lv_has ls 5 [(0, .ref h0), (1, .int sel), (2, .int acc), (3, .int (nI i))] → W p l e rmX0_shrink s m ([.ref h0, .int sel] : List Value).toArray below meth c H locs 0 0 Q (F0 m 4 ls []) := by
    intro kf
    induction kf with
    | zero => intro i acc H locs ls h; exact absurd h (Nat.not_lt_zero _)
    | succ kf ih =>
      intro i acc H locs ls hk hi ha hP hD hS hl
      refine lv_iload_n hx hb dX0_shrink_4 rfl (lv_at hl 3 rfl) ?_
      refine lv_aload_n hx hb dX0_shrink_5 rfl (lv_at hl 0 rfl) ?_
      refine va_get (D := G.1) (ci := 0) (v := .int (nI n)) (C := RX0) (T := TX0) (N := 3) hx hb hts hi0 hown hK hP 0 rfl rfl 2 (by decide) (hts (.fieldLink RX0 19 "ConflictEnumerator$Constraints" "size" "I") (List.mem_of_getElem? (i := 1) rfl)) (fun _ h9 => h9) rfl dX0_shrink_6 ?_
      refine lv_icmp_ge (tgt := 39) hx hb dX0_shrink_9 (by decide) (fun c_9 => ?_) (fun c_9 => ?_)
      ·
        have c_9 : n ≤ i := (nI_leI (a := n) (b := i) (by omega) (by omega)).mp c_9
        refine lv_iload_n hx hb dX0_shrink_39 rfl (lv_at hl 2 rfl) ?_
        exact ret acc _ _ _ _ _ _ _ (Nat.le_of_ble_eq_true rfl) (Nat.le_of_ble_eq_true rfl) (rfl) (⟨by rw [ha, show i = n by omega], rfl⟩) (hP.sub (ws' := [(h0, OB 0 [.ref hm, .ref hw, .int (nI n)]), (hm, AJ G 10 md), (hw, AI G 10 wt)]) [0, 1, 2] rfl) (hD.sub (ws' := [(h0, OB 0 [.ref hm, .ref hw, .int (nI n)]), (hm, AJ G 10 md), (hw, AI G 10 wt)]) [0, 1, 2] (by decide) rfl) hS dX0_shrink_40
      ·
        have c_9 : i < n := by have h9 := mt (nI_leI (a := n) (b := i) (by omega) (by omega)).mpr c_9; omega
        refine lv_iload_n hx hb dX0_shrink_12 rfl (lv_at hl 2 rfl) ?_
        refine lv_iconst (v := 1) hx hb dX0_shrink_13 (by decide) ?_
        refine lv_iload_n hx hb dX0_shrink_14 rfl (lv_at hl 3 rfl) ?_
        refine wn_bit hx hb (i) rfl rfl dX0_shrink_15 ?_
        refine lv_iconst (v := (-1)) hx hb dX0_shrink_16 (by decide) ?_
        refine wn_inot hx hb rfl dX0_shrink_17 ?_
        refine lv_iand hx hb dX0_shrink_18 ?_
        refine lv_istore (lv' := [(4, .int (acc &&& (notI (bitI i)))), (0, .ref h0), (1, .int sel), (2, .int acc), (3, .int (nI i))]) hx hb dX0_shrink_19 hl (by decide) rfl (fun ls hl => ?_)
        refine lv_aload_n hx hb dX0_shrink_21 rfl (lv_at hl 1 rfl) ?_
        refine lv_iload hx hb dX0_shrink_22 (lv_at hl 0 rfl) ?_
        refine call_Vi (rest := []) (As := [.int (acc &&& (notI (bitI i)))]) (wr := []) (c1 := 0) (s1 := 0) ⟨hx, hb, hml, hown, hts⟩ (c_X0_isSatisfiable l G h0 hm hw md wt n (acc &&& (notI (bitI i))) (by first | assumption | omega)) (cwV 1 hts gX0_shrink_X0_isSatisfiable rfl rfl rfl (by decide +kernel) ⟨Nat.le_of_ble_eq_true rfl, Nat.le_of_ble_eq_true rfl⟩) hK hN hSS hP hD hS hA 0 0 rfl rfl rfl [0, 1, 2] [] rfl rfl (by decide) (by decide) (by decide) rfl hl.1 rfl (Nat.le_of_ble_eq_true rfl) dX0_shrink_24 ⟨Nat.le_of_ble_eq_true rfl, Nat.le_of_ble_eq_true rfl⟩ rfl rfl (fun r_24 u_24 H locs hpo hP hD hS => ?_)
        obtain ⟨hr9, rfl⟩ := hpo
        subst r_24
        have hP : va_P G.1 vwCl [(h0, OB 0 [.ref hm, .ref hw, .int (nI n)]), (hm, AJ G 10 md), (hw, AI G 10 wt)] H := hP
        have hD : va_D A [(h0, OB 0 [.ref hm, .ref hw, .int (nI n)]), (hm, AJ G 10 md), (hw, AI G 10 wt)] := hD
        refine wb_ne (tgt := 33) hx hb dX0_shrink_27 (by decide) (fun c_27 => ?_) (fun c_27 => ?_)
        ·
          refine lv_iinc (v := nI (i + 1)) (lv' := [(3, .int (nI (i + 1))), (4, .int (acc &&& (notI (bitI i)))), (0, .ref h0), (1, .int sel), (2, .int acc)]) hx hb dX0_shrink_33 hl (k := 4) rfl (nI_inc (i) 1) (by decide) rfl (fun ls hl => ?_)
          refine lv_goto (tgt := 4) hx hb dX0_shrink_36 (by decide) ?_
          exact ih (i + 1) acc _ _ _ (by omega) (by omega) (by subst ha; simp [shrinkF, c_27]) (hP.sub (ws' := [(h0, OB 0 [.ref hm, .ref hw, .int (nI n)]), (hm, AJ G 10 md), (hw, AI G 10 wt)]) [0, 1, 2] rfl) (hD.sub (ws' := [(h0, OB 0 [.ref hm, .ref hw, .int (nI n)]), (hm, AJ G 10 md), (hw, AI G 10 wt)]) [0, 1, 2] (by decide) rfl) hS (lv_sub (l' := [(0, .ref h0), (1, .int sel), (2, .int acc), (3, .int (nI (i + 1)))]) hl [2, 3, 4, 0] rfl)
        ·
          refine lv_iload hx hb dX0_shrink_30 (lv_at hl 0 rfl) ?_
          refine lv_istore_n (lv' := [(2, .int (acc &&& (notI (bitI i)))), (4, .int (acc &&& (notI (bitI i)))), (0, .ref h0), (1, .int sel), (3, .int (nI i))]) hx hb dX0_shrink_32 rfl hl (by decide) rfl (fun ls hl => ?_)
          refine lv_iinc (v := nI (i + 1)) (lv' := [(3, .int (nI (i + 1))), (2, .int (acc &&& (notI (bitI i)))), (4, .int (acc &&& (notI (bitI i)))), (0, .ref h0), (1, .int sel)]) hx hb dX0_shrink_33 hl (k := 4) rfl (nI_inc (i) 1) (by decide) rfl (fun ls hl => ?_)
          refine lv_goto (tgt := 4) hx hb dX0_shrink_36 (by decide) ?_
          exact ih (i + 1) (acc &&& (notI (bitI i))) _ _ _ (by omega) (by omega) (by subst ha; simp [shrinkF, c_27]) (hP.sub (ws' := [(h0, OB 0 [.ref hm, .ref hw, .int (nI n)]), (hm, AJ G 10 md), (hw, AI G 10 wt)]) [0, 1, 2] rfl) (hD.sub (ws' := [(h0, OB 0 [.ref hm, .ref hw, .int (nI n)]), (hm, AJ G 10 md), (hw, AI G 10 wt)]) [0, 1, 2] (by decide) rfl) hS (lv_sub (l' := [(0, .ref h0), (1, .int sel), (2, .int (acc &&& (notI (bitI i)))), (3, .int (nI (i + 1)))]) hl [3, 4, 1, 0] rfl)
  exact L4 ((n - 0) + 1) 0 sel _ _ _ (Nat.lt_succ_self _) (Nat.zero_le n) (rfl) (hP.sub (ws' := [(h0, OB 0 [.ref hm, .ref hw, .int (nI n)]), (hm, AJ G 10 md), (hw, AI G 10 wt)]) [0, 1, 2] rfl) (hD.sub (ws' := [(h0, OB 0 [.ref hm, .ref hw, .int (nI n)]), (hm, AJ G 10 md), (hw, AI G 10 wt)]) [0, 1, 2] (by decide) rfl) hS (lv_sub (l' := [(0, .ref h0), (1, .int sel), (2, .int sel), (3, .int (nI 0))]) hl [2, 3, 1, 0] rfl)
abbrev rmX0_criticalOf : Room := { frames := 2, cells := 0, slots := 0, locals := 45 }
set_option maxHeartbeats 4000000 in
set_option maxRecDepth 100000 in
theorem c_X0_criticalOf (l : Launch) (G : GT) (h0 hm hw : Nat) (md : Nat → Int64) (wt : Nat → Int32) (n : Nat) (sel : Int32) (hn : n ≤ 10) : Ci l yX0_criticalOf wsX0_criticalOf rmX0_criticalOf G [.ref h0, .int sel] [(h0, OB 0 [.ref hm, .ref hw, .int (nI n)]), (hm, AJ G 10 md), (hw, AI G 10 wt)] (fun r u => r = critF (satB md wt n) sel n ∧ u = [(h0, OB 0 [.ref hm, .ref hw, .int (nI n)]), (hm, AJ G 10 md), (hw, AI G 10 wt)]) := by
  refine Ci.of (cc := cX0_criticalOf) (maxL := 5) (ty := .int) (by decide) rfl (Nat.le_of_ble_eq_true rfl) ?_
  intro p e s m below meth c A ls Q hx hb hml hts hown hA hS hP hK hN hSS hD hl ret
  have hown : s.vm.findClass RX0 = some m.cls := hown
  have hl : lv_has ls 5 [(0, .ref h0), (1, .int sel)] := hl
  have hi0 : ∀ w ∈ wsX00, w ∈ wsX0_criticalOf := mem_places [14, 15, 16] (by decide +kernel)
  refine lv_iconst (v := 0) hx hb dX0_criticalOf_0 (by decide) ?_
  refine lv_istore_n (lv' := [(2, .int 0), (0, .ref h0), (1, .int sel)]) hx hb dX0_criticalOf_1 rfl hl (by decide) rfl (fun ls hl => ?_)
  refine lv_iconst (v := 0) hx hb dX0_criticalOf_2 (by decide) ?_
  refine lv_istore_n (lv' := [(3, .int 0), (2, .int 0), (0, .ref h0), (1, .int sel)]) hx hb dX0_criticalOf_3 rfl hl (by decide) rfl (fun ls hl => ?_)
  have L4 : ∀ (kf : Nat) (i : Nat) (acc : Int32) (H : Heap) (locs : List Loc) (ls : Array Slot), n - i < kf → (i ≤ n) → (acc = critF (satB md wt n) sel i) → va_P G.1 vwCl [(h0, OB 0 [.ref hm, .ref hw, .int (nI n)]), (hm, AJ G 10 md), (hw, AI G 10 wt)] H → va_D A [(h0, OB 0 [.ref hm, .ref hw, .int (nI n)]), (hm, AJ G 10 md), (hw, AI G 10 wt)] → va_S A s.heap H locs → lv_has ls 5 [(0, .ref h0), (1, .int sel), (2, .int acc), (3, .int (nI i))] → W p l e rmX0_criticalOf s m ([.ref h0, .int sel] : List Value).toArray below meth c H locs 0 0 Q (F0 m 4 ls []) := by
    intro kf
    induction kf with
    | zero => intro i acc H locs ls h; exact absurd h (Nat.not_lt_zero _)
    | succ kf ih =>
      intro i acc H locs ls hk hi ha hP hD hS hl
      refine lv_iload_n hx hb dX0_criticalOf_4 rfl (lv_at hl 3 rfl) ?_
      refine lv_aload_n hx hb dX0_criticalOf_5 rfl (lv_at hl 0 rfl) ?_
      refine va_get (D := G.1) (ci := 0) (v := .int (nI n)) (C := RX0) (T := TX0) (N := 3) hx hb hts hi0 hown hK hP 0 rfl rfl 2 (by decide) (hts (.fieldLink RX0 19 "ConflictEnumerator$Constraints" "size" "I") (List.mem_of_getElem? (i := 1) rfl)) (fun _ h9 => h9) rfl dX0_criticalOf_6 ?_
      refine lv_icmp_ge (tgt := 43) hx hb dX0_criticalOf_9 (by decide) (fun c_9 => ?_) (fun c_9 => ?_)
      ·
        have c_9 : n ≤ i := (nI_leI (a := n) (b := i) (by omega) (by omega)).mp c_9
        refine lv_iload_n hx hb dX0_criticalOf_43 rfl (lv_at hl 2 rfl) ?_
        exact ret acc _ _ _ _ _ _ _ (Nat.le_of_ble_eq_true rfl) (Nat.le_of_ble_eq_true rfl) (rfl) (⟨by rw [ha, show i = n by omega], rfl⟩) (hP.sub (ws' := [(h0, OB 0 [.ref hm, .ref hw, .int (nI n)]), (hm, AJ G 10 md), (hw, AI G 10 wt)]) [0, 1, 2] rfl) (hD.sub (ws' := [(h0, OB 0 [.ref hm, .ref hw, .int (nI n)]), (hm, AJ G 10 md), (hw, AI G 10 wt)]) [0, 1, 2] (by decide) rfl) hS dX0_criticalOf_44
      ·
        have c_9 : i < n := by have h9 := mt (nI_leI (a := n) (b := i) (by omega) (by omega)).mpr c_9; omega
        refine lv_iload_n hx hb dX0_criticalOf_12 rfl (lv_at hl 1 rfl) ?_
        refine lv_iconst (v := 1) hx hb dX0_criticalOf_13 (by decide) ?_
        refine lv_iload_n hx hb dX0_criticalOf_14 rfl (lv_at hl 3 rfl) ?_
        refine wn_bit hx hb (i) rfl rfl dX0_criticalOf_15 ?_
        refine lv_iand hx hb dX0_criticalOf_16 ?_
        refine lv_istore (lv' := [(4, .int (sel &&& (bitI i))), (0, .ref h0), (1, .int sel), (2, .int acc), (3, .int (nI i))]) hx hb dX0_criticalOf_17 hl (by decide) rfl (fun ls hl => ?_)
        refine lv_aload_n hx hb dX0_criticalOf_19 rfl (lv_at hl 1 rfl) ?_
        refine lv_iload_n hx hb dX0_criticalOf_20 rfl (lv_at hl 2 rfl) ?_
        refine lv_iload hx hb dX0_criticalOf_21 (lv_at hl 0 rfl) ?_
        refine lv_iconst (v := (-1)) hx hb dX0_criticalOf_23 (by decide) ?_
        refine wn_inot hx hb rfl dX0_criticalOf_24 ?_
        refine lv_iand hx hb dX0_criticalOf_25 ?_
        refine call_Vi (rest := []) (As := [.int (sel &&& (notI (sel &&& (bitI i))))]) (wr := []) (c1 := 0) (s1 := 0) ⟨hx, hb, hml, hown, hts⟩ (c_X0_isSatisfiable l G h0 hm hw md wt n (sel &&& (notI (sel &&& (bitI i)))) (by first | assumption | omega)) (cwV 1 hts gX0_criticalOf_X0_isSatisfiable rfl rfl rfl (by decide +kernel) ⟨Nat.le_of_ble_eq_true rfl, Nat.le_of_ble_eq_true rfl⟩) hK hN hSS hP hD hS hA 0 0 rfl rfl rfl [0, 1, 2] [] rfl rfl (by decide) (by decide) (by decide) rfl hl.1 rfl (Nat.le_of_ble_eq_true rfl) dX0_criticalOf_26 ⟨Nat.le_of_ble_eq_true rfl, Nat.le_of_ble_eq_true rfl⟩ rfl rfl (fun r_26 u_26 H locs hpo hP hD hS => ?_)
        obtain ⟨hr9, rfl⟩ := hpo
        subst r_26
        have hP : va_P G.1 vwCl [(h0, OB 0 [.ref hm, .ref hw, .int (nI n)]), (hm, AJ G 10 md), (hw, AI G 10 wt)] H := hP
        have hD : va_D A [(h0, OB 0 [.ref hm, .ref hw, .int (nI n)]), (hm, AJ G 10 md), (hw, AI G 10 wt)] := hD
        refine wb_eq (tgt := 37) hx hb dX0_criticalOf_29 (by decide) (fun c_29 => ?_) (fun c_29 => ?_)
        ·
          refine lv_iinc (v := nI (i + 1)) (lv' := [(3, .int (nI (i + 1))), (4, .int (sel &&& (bitI i))), (0, .ref h0), (1, .int sel), (2, .int acc)]) hx hb dX0_criticalOf_37 hl (k := 4) rfl (nI_inc (i) 1) (by decide) rfl (fun ls hl => ?_)
          refine lv_goto (tgt := 4) hx hb dX0_criticalOf_40 (by decide) ?_
          exact ih (i + 1) acc _ _ _ (by omega) (by omega) (by subst ha; simp [critF, c_29]) (hP.sub (ws' := [(h0, OB 0 [.ref hm, .ref hw, .int (nI n)]), (hm, AJ G 10 md), (hw, AI G 10 wt)]) [0, 1, 2] rfl) (hD.sub (ws' := [(h0, OB 0 [.ref hm, .ref hw, .int (nI n)]), (hm, AJ G 10 md), (hw, AI G 10 wt)]) [0, 1, 2] (by decide) rfl) hS (lv_sub (l' := [(0, .ref h0), (1, .int sel), (2, .int acc), (3, .int (nI (i + 1)))]) hl [2, 3, 4, 0] rfl)
        ·
          refine lv_iload_n hx hb dX0_criticalOf_32 rfl (lv_at hl 3 rfl) ?_
          refine lv_iload hx hb dX0_criticalOf_33 (lv_at hl 0 rfl) ?_
          refine lv_ior hx hb dX0_criticalOf_35 ?_
          refine lv_istore_n (lv' := [(2, .int (acc ||| (sel &&& (bitI i)))), (4, .int (sel &&& (bitI i))), (0, .ref h0), (1, .int sel), (3, .int (nI i))]) hx hb dX0_criticalOf_36 rfl hl (by decide) rfl (fun ls hl => ?_)
          refine lv_iinc (v := nI (i + 1)) (lv' := [(3, .int (nI (i + 1))), (2, .int (acc ||| (sel &&& (bitI i)))), (4, .int (sel &&& (bitI i))), (0, .ref h0), (1, .int sel)]) hx hb dX0_criticalOf_37 hl (k := 4) rfl (nI_inc (i) 1) (by decide) rfl (fun ls hl => ?_)
          refine lv_goto (tgt := 4) hx hb dX0_criticalOf_40 (by decide) ?_
          exact ih (i + 1) (acc ||| (sel &&& (bitI i))) _ _ _ (by omega) (by omega) (by subst ha; simp [critF, c_29]) (hP.sub (ws' := [(h0, OB 0 [.ref hm, .ref hw, .int (nI n)]), (hm, AJ G 10 md), (hw, AI G 10 wt)]) [0, 1, 2] rfl) (hD.sub (ws' := [(h0, OB 0 [.ref hm, .ref hw, .int (nI n)]), (hm, AJ G 10 md), (hw, AI G 10 wt)]) [0, 1, 2] (by decide) rfl) hS (lv_sub (l' := [(0, .ref h0), (1, .int sel), (2, .int (acc ||| (sel &&& (bitI i)))), (3, .int (nI (i + 1)))]) hl [3, 4, 1, 0] rfl)
  exact L4 ((n - 0) + 1) 0 0 _ _ _ (Nat.lt_succ_self _) (Nat.zero_le n) (rfl) (hP.sub (ws' := [(h0, OB 0 [.ref hm, .ref hw, .int (nI n)]), (hm, AJ G 10 md), (hw, AI G 10 wt)]) [0, 1, 2] rfl) (hD.sub (ws' := [(h0, OB 0 [.ref hm, .ref hw, .int (nI n)]), (hm, AJ G 10 md), (hw, AI G 10 wt)]) [0, 1, 2] (by decide) rfl) hS (lv_sub (l' := [(0, .ref h0), (1, .int sel), (2, .int 0), (3, .int (nI 0))]) hl [2, 3, 1, 0] rfl)
abbrev rmX0_heaviest : Room := { frames := 1, cells := 0, slots := 0, locals := 23 }
set_option maxHeartbeats 4000000 in
set_option maxRecDepth 100000 in
theorem c_X0_heaviest (l : Launch) (G : GT) (h0 hm hw : Nat) (md : Nat → Int64) (wt : Nat → Int32) (n : Nat) (hn : n ≤ 10) : Ci l yX0_heaviest wsX0_heaviest rmX0_heaviest G [.ref h0] [(h0, OB 0 [.ref hm, .ref hw, .int (nI n)]), (hm, AJ G 10 md), (hw, AI G 10 wt)] (fun r u => r = (heavF (fun z => violM md z n) (fun z => totW wt z n) (softM wt n) 64).1 ∧ u = [(h0, OB 0 [.ref hm, .ref hw, .int (nI n)]), (hm, AJ G 10 md), (hw, AI G 10 wt)]) := by
  refine Ci.of (cc := cX0_heaviest) (maxL := 9) (ty := .int) (by decide) rfl (Nat.le_of_ble_eq_true rfl) ?_
  intro p e s m below meth c A ls Q hx hb hml hts hown hA hS hP hK hN hSS hD hl ret
  have hown : s.vm.findClass RX0 = some m.cls := hown
  have hl : lv_has ls 9 [(0, .ref h0)] := hl
  refine lv_aload_n hx hb dX0_heaviest_0 rfl (lv_at hl 0 rfl) ?_
  refine call_Vi (rest := []) (As := []) (wr := []) (c1 := 0) (s1 := 0) ⟨hx, hb, hml, hown, hts⟩ (c_X0_softMask l G h0 hm hw md wt n (by first | assumption | omega)) (cwV 0 hts gX0_heaviest_X0_softMask rfl rfl rfl (by decide +kernel) ⟨Nat.le_of_ble_eq_true rfl, Nat.le_of_ble_eq_true rfl⟩) hK hN hSS hP hD hS hA 0 0 rfl rfl rfl [0, 1, 2] [] rfl rfl (by decide) (by decide) (by decide) rfl hl.1 rfl (Nat.le_of_ble_eq_true rfl) dX0_heaviest_1 ⟨Nat.le_of_ble_eq_true rfl, Nat.le_of_ble_eq_true rfl⟩ rfl rfl (fun r_1 u_1 H locs hpo hP hD hS => ?_)
  obtain ⟨hr9, rfl⟩ := hpo
  subst r_1
  have hP : va_P G.1 vwCl [(h0, OB 0 [.ref hm, .ref hw, .int (nI n)]), (hm, AJ G 10 md), (hw, AI G 10 wt)] H := hP
  have hD : va_D A [(h0, OB 0 [.ref hm, .ref hw, .int (nI n)]), (hm, AJ G 10 md), (hw, AI G 10 wt)] := hD
  refine lv_istore_n (lv' := [(1, .int (softM wt n)), (0, .ref h0)]) hx hb dX0_heaviest_4 rfl hl (by decide) rfl (fun ls hl => ?_)
  refine lv_bipush (v := (-9)) hx hb dX0_heaviest_5 (by decide) ?_
  refine lv_istore_n (lv' := [(2, .int (-9)), (1, .int (softM wt n)), (0, .ref h0)]) hx hb dX0_heaviest_7 rfl hl (by decide) rfl (fun ls hl => ?_)
  refine lv_iconst (v := 0) hx hb dX0_heaviest_8 (by decide) ?_
  refine lv_istore_n (lv' := [(3, .int 0), (2, .int (-9)), (1, .int (softM wt n)), (0, .ref h0)]) hx hb dX0_heaviest_9 rfl hl (by decide) rfl (fun ls hl => ?_)
  refine lv_iconst (v := 0) hx hb dX0_heaviest_10 (by decide) ?_
  refine lv_istore (lv' := [(4, .int 0), (3, .int 0), (2, .int (-9)), (1, .int (softM wt n)), (0, .ref h0)]) hx hb dX0_heaviest_11 hl (by decide) rfl (fun ls hl => ?_)
  have L13 : ∀ (kf : Nat) (a : Nat) (best bw : Int32) (H : Heap) (locs : List Loc) (ls : Array Slot), 64 - a < kf → (a ≤ 64) → (best = (heavF (fun z => violM md z n) (fun z => totW wt z n) (softM wt n) a).1) → (bw = (heavF (fun z => violM md z n) (fun z => totW wt z n) (softM wt n) a).2) → va_P G.1 vwCl [(h0, OB 0 [.ref hm, .ref hw, .int (nI n)]), (hm, AJ G 10 md), (hw, AI G 10 wt)] H → va_D A [(h0, OB 0 [.ref hm, .ref hw, .int (nI n)]), (hm, AJ G 10 md), (hw, AI G 10 wt)] → va_S A s.heap H locs → lv_has ls 9 [(0, .ref h0), (1, .int (softM wt n)), (2, .int best), (3, .int bw), (4, .int (nI a))] → W p l e rmX0_heaviest s m ([.ref h0] : List Value).toArray below meth c H locs 0 0 Q (F0 m 13 ls []) := by
    intro kf
    induction kf with
    | zero => intro a best bw H locs ls h; exact absurd h (Nat.not_lt_zero _)
    | succ kf ih =>
      intro a best bw H locs ls hk hi ha hb9 hP hD hS hl
      refine lv_iload hx hb dX0_heaviest_13 (lv_at hl 4 rfl) ?_
      refine lv_bipush (v := 64) hx hb dX0_heaviest_15 (by decide) ?_
      refine lv_icmp_ge (tgt := 101) hx hb dX0_heaviest_17 (by decide) (fun c_17 => ?_) (fun c_17 => ?_)
      ·
        have c_17 : 64 ≤ a := (nI_leI (a := 64) (b := a) (by omega) (by omega)).mp c_17
        refine lv_iload_n hx hb dX0_heaviest_101 rfl (lv_at hl 2 rfl) ?_
        exact ret best _ _ _ _ _ _ _ (Nat.le_of_ble_eq_true rfl) (Nat.le_of_ble_eq_true rfl) (rfl) (⟨by rw [ha, show a = 64 by omega], rfl⟩) (hP.sub (ws' := [(h0, OB 0 [.ref hm, .ref hw, .int (nI n)]), (hm, AJ G 10 md), (hw, AI G 10 wt)]) [0, 1, 2] rfl) (hD.sub (ws' := [(h0, OB 0 [.ref hm, .ref hw, .int (nI n)]), (hm, AJ G 10 md), (hw, AI G 10 wt)]) [0, 1, 2] (by decide) rfl) hS dX0_heaviest_102
      ·
        have c_17 : a < 64 := by have h9 := mt (nI_leI (a := 64) (b := a) (by omega) (by omega)).mpr c_17; omega
        refine lv_aload_n hx hb dX0_heaviest_20 rfl (lv_at hl 0 rfl) ?_
        refine lv_iload hx hb dX0_heaviest_21 (lv_at hl 4 rfl) ?_
        refine call_Vi (rest := []) (As := [.int (nI a)]) (wr := []) (c1 := 0) (s1 := 0) ⟨hx, hb, hml, hown, hts⟩ (c_X0_violatedBy l G h0 hm hw md wt n a (by first | assumption | omega)) (cwV 1 hts gX0_heaviest_X0_violatedBy rfl rfl rfl (by decide +kernel) ⟨Nat.le_of_ble_eq_true rfl, Nat.le_of_ble_eq_true rfl⟩) hK hN hSS hP hD hS hA 0 0 rfl rfl rfl [0, 1, 2] [] rfl rfl (by decide) (by decide) (by decide) rfl hl.1 rfl (Nat.le_of_ble_eq_true rfl) dX0_heaviest_23 ⟨Nat.le_of_ble_eq_true rfl, Nat.le_of_ble_eq_true rfl⟩ rfl rfl (fun r_23 u_23 H locs hpo hP hD hS => ?_)
        obtain ⟨hr9, rfl⟩ := hpo
        subst r_23
        have hP : va_P G.1 vwCl [(h0, OB 0 [.ref hm, .ref hw, .int (nI n)]), (hm, AJ G 10 md), (hw, AI G 10 wt)] H := hP
        have hD : va_D A [(h0, OB 0 [.ref hm, .ref hw, .int (nI n)]), (hm, AJ G 10 md), (hw, AI G 10 wt)] := hD
        refine lv_istore (lv' := [(5, .int (violM md a n)), (0, .ref h0), (1, .int (softM wt n)), (2, .int best), (3, .int bw), (4, .int (nI a))]) hx hb dX0_heaviest_26 hl (by decide) rfl (fun ls hl => ?_)
        refine lv_iload hx hb dX0_heaviest_28 (lv_at hl 0 rfl) ?_
        refine lv_iload_n hx hb dX0_heaviest_30 rfl (lv_at hl 2 rfl) ?_
        refine lv_iconst (v := (-1)) hx hb dX0_heaviest_31 (by decide) ?_
        refine wn_inot hx hb rfl dX0_heaviest_32 ?_
        refine lv_iand hx hb dX0_heaviest_33 ?_
        refine lv_if_ne (tgt := 95) hx hb dX0_heaviest_34 (by decide) (fun c_34 => ?_) (fun c_34 => ?_)
        ·
          refine lv_iinc (v := nI (a + 1)) (lv' := [(4, .int (nI (a + 1))), (5, .int (violM md a n)), (0, .ref h0), (1, .int (softM wt n)), (2, .int best), (3, .int bw)]) hx hb dX0_heaviest_95 hl (k := 5) rfl (nI_inc (a) 1) (by decide) rfl (fun ls hl => ?_)
          refine lv_goto (tgt := 13) hx hb dX0_heaviest_98 (by decide) ?_
          exact ih (a + 1) best bw _ _ _ (by omega) (by omega) (by subst ha hb9; simp [heavF, c_17, c_34]) (by subst ha hb9; simp [heavF, c_17, c_34]) (hP.sub (ws' := [(h0, OB 0 [.ref hm, .ref hw, .int (nI n)]), (hm, AJ G 10 md), (hw, AI G 10 wt)]) [0, 1, 2] rfl) (hD.sub (ws' := [(h0, OB 0 [.ref hm, .ref hw, .int (nI n)]), (hm, AJ G 10 md), (hw, AI G 10 wt)]) [0, 1, 2] (by decide) rfl) hS (lv_sub (l' := [(0, .ref h0), (1, .int (softM wt n)), (2, .int best), (3, .int bw), (4, .int (nI (a + 1)))]) hl [2, 3, 4, 5, 0] rfl)
        ·
          refine lv_iload_n hx hb dX0_heaviest_37 rfl (lv_at hl 2 rfl) ?_
          refine lv_iload hx hb dX0_heaviest_38 (lv_at hl 0 rfl) ?_
          refine lv_iconst (v := (-1)) hx hb dX0_heaviest_40 (by decide) ?_
          refine wn_inot hx hb rfl dX0_heaviest_41 ?_
          refine lv_iand hx hb dX0_heaviest_42 ?_
          refine lv_istore (lv' := [(6, .int ((softM wt n) &&& (notI (violM md a n)))), (5, .int (violM md a n)), (0, .ref h0), (1, .int (softM wt n)), (2, .int best), (3, .int bw), (4, .int (nI a))]) hx hb dX0_heaviest_43 hl (by decide) rfl (fun ls hl => ?_)
          refine lv_aload_n hx hb dX0_heaviest_45 rfl (lv_at hl 2 rfl) ?_
          refine lv_iload hx hb dX0_heaviest_46 (lv_at hl 0 rfl) ?_
          refine call_Vi (rest := []) (As := [.int ((softM wt n) &&& (notI (violM md a n)))]) (wr := []) (c1 := 0) (s1 := 0) ⟨hx, hb, hml, hown, hts⟩ (c_X0_totalWeight l G h0 hm hw md wt n ((softM wt n) &&& (notI (violM md a n))) (by first | assumption | omega)) (cwV 1 hts gX0_heaviest_X0_totalWeight rfl rfl rfl (by decide +kernel) ⟨Nat.le_of_ble_eq_true rfl, Nat.le_of_ble_eq_true rfl⟩) hK hN hSS hP hD hS hA 0 0 rfl rfl rfl [0, 1, 2] [] rfl rfl (by decide) (by decide) (by decide) rfl hl.1 rfl (Nat.le_of_ble_eq_true rfl) dX0_heaviest_48 ⟨Nat.le_of_ble_eq_true rfl, Nat.le_of_ble_eq_true rfl⟩ rfl rfl (fun r_48 u_48 H locs hpo hP hD hS => ?_)
          obtain ⟨hr9, rfl⟩ := hpo
          subst r_48
          have hP : va_P G.1 vwCl [(h0, OB 0 [.ref hm, .ref hw, .int (nI n)]), (hm, AJ G 10 md), (hw, AI G 10 wt)] H := hP
          have hD : va_D A [(h0, OB 0 [.ref hm, .ref hw, .int (nI n)]), (hm, AJ G 10 md), (hw, AI G 10 wt)] := hD
          refine lv_istore (lv' := [(7, .int (totW wt ((softM wt n) &&& (notI (violM md a n))) n)), (6, .int ((softM wt n) &&& (notI (violM md a n)))), (5, .int (violM md a n)), (0, .ref h0), (1, .int (softM wt n)), (2, .int best), (3, .int bw), (4, .int (nI a))]) hx hb dX0_heaviest_51 hl (by decide) rfl (fun ls hl => ?_)
          refine lv_iload hx hb dX0_heaviest_53 (lv_at hl 0 rfl) ?_
          refine lv_iload_n hx hb dX0_heaviest_55 rfl (lv_at hl 6 rfl) ?_
          refine lv_icmp_gt (tgt := 71) hx hb dX0_heaviest_56 (by decide) (fun c_56 => ?_) (fun c_56 => ?_)
          ·
            refine lv_iconst (v := 1) hx hb dX0_heaviest_71 (by decide) ?_
            refine lv_goto (tgt := 76) hx hb dX0_heaviest_72 (by decide) ?_
            refine lv_istore (lv' := [(8, .int 1), (7, .int (totW wt ((softM wt n) &&& (notI (violM md a n))) n)), (6, .int ((softM wt n) &&& (notI (violM md a n)))), (5, .int (violM md a n)), (0, .ref h0), (1, .int (softM wt n)), (2, .int best), (3, .int bw), (4, .int (nI a))]) hx hb dX0_heaviest_76 hl (by decide) rfl (fun ls hl => ?_)
            refine lv_iload_n hx hb dX0_heaviest_78 rfl (lv_at hl 6 rfl) ?_
            refine lv_bipush (v := (-9)) hx hb dX0_heaviest_79 (by decide) ?_
            refine lv_icmp_eq (tgt := 89) hx hb dX0_heaviest_81 (by decide) (fun c_81 => ?_) (fun c_81 => ?_)
            ·
              refine lv_iload hx hb dX0_heaviest_89 (lv_at hl 2 rfl) ?_
              refine lv_istore_n (lv' := [(2, .int ((softM wt n) &&& (notI (violM md a n)))), (8, .int 1), (7, .int (totW wt ((softM wt n) &&& (notI (violM md a n))) n)), (6, .int ((softM wt n) &&& (notI (violM md a n)))), (5, .int (violM md a n)), (0, .ref h0), (1, .int (softM wt n)), (3, .int bw), (4, .int (nI a))]) hx hb dX0_heaviest_91 rfl hl (by decide) rfl (fun ls hl => ?_)
              refine lv_iload hx hb dX0_heaviest_92 (lv_at hl 2 rfl) ?_
              refine lv_istore_n (lv' := [(3, .int (totW wt ((softM wt n) &&& (notI (violM md a n))) n)), (2, .int ((softM wt n) &&& (notI (violM md a n)))), (8, .int 1), (7, .int (totW wt ((softM wt n) &&& (notI (violM md a n))) n)), (6, .int ((softM wt n) &&& (notI (violM md a n)))), (5, .int (violM md a n)), (0, .ref h0), (1, .int (softM wt n)), (4, .int (nI a))]) hx hb dX0_heaviest_94 rfl hl (by decide) rfl (fun ls hl => ?_)
              refine lv_iinc (v := nI (a + 1)) (lv' := [(4, .int (nI (a + 1))), (3, .int (totW wt ((softM wt n) &&& (notI (violM md a n))) n)), (2, .int ((softM wt n) &&& (notI (violM md a n)))), (8, .int 1), (7, .int (totW wt ((softM wt n) &&& (notI (violM md a n))) n)), (6, .int ((softM wt n) &&& (notI (violM md a n)))), (5, .int (violM md a n)), (0, .ref h0), (1, .int (softM wt n))]) hx hb dX0_heaviest_95 hl (k := 8) rfl (nI_inc (a) 1) (by decide) rfl (fun ls hl => ?_)
              refine lv_goto (tgt := 13) hx hb dX0_heaviest_98 (by decide) ?_
              exact ih (a + 1) ((softM wt n) &&& (notI (violM md a n))) (totW wt ((softM wt n) &&& (notI (violM md a n))) n) _ _ _ (by omega) (by omega) (by subst ha hb9; simp [heavF, c_17, c_34, c_56, c_81]) (by subst ha hb9; simp [heavF, c_17, c_34, c_56, c_81]) (hP.sub (ws' := [(h0, OB 0 [.ref hm, .ref hw, .int (nI n)]), (hm, AJ G 10 md), (hw, AI G 10 wt)]) [0, 1, 2] rfl) (hD.sub (ws' := [(h0, OB 0 [.ref hm, .ref hw, .int (nI n)]), (hm, AJ G 10 md), (hw, AI G 10 wt)]) [0, 1, 2] (by decide) rfl) hS (lv_sub (l' := [(0, .ref h0), (1, .int (softM wt n)), (2, .int ((softM wt n) &&& (notI (violM md a n)))), (3, .int (totW wt ((softM wt n) &&& (notI (violM md a n))) n)), (4, .int (nI (a + 1)))]) hl [7, 8, 2, 1, 0] rfl)
            ·
              refine lv_iload hx hb dX0_heaviest_84 (lv_at hl 0 rfl) ?_
              refine lv_if_eq (tgt := 95) hx hb dX0_heaviest_86 (by decide) (fun c_86 => absurd c_86 (by decide)) (fun c_86 => ?_)
              refine lv_iload hx hb dX0_heaviest_89 (lv_at hl 2 rfl) ?_
              refine lv_istore_n (lv' := [(2, .int ((softM wt n) &&& (notI (violM md a n)))), (8, .int 1), (7, .int (totW wt ((softM wt n) &&& (notI (violM md a n))) n)), (6, .int ((softM wt n) &&& (notI (violM md a n)))), (5, .int (violM md a n)), (0, .ref h0), (1, .int (softM wt n)), (3, .int bw), (4, .int (nI a))]) hx hb dX0_heaviest_91 rfl hl (by decide) rfl (fun ls hl => ?_)
              refine lv_iload hx hb dX0_heaviest_92 (lv_at hl 2 rfl) ?_
              refine lv_istore_n (lv' := [(3, .int (totW wt ((softM wt n) &&& (notI (violM md a n))) n)), (2, .int ((softM wt n) &&& (notI (violM md a n)))), (8, .int 1), (7, .int (totW wt ((softM wt n) &&& (notI (violM md a n))) n)), (6, .int ((softM wt n) &&& (notI (violM md a n)))), (5, .int (violM md a n)), (0, .ref h0), (1, .int (softM wt n)), (4, .int (nI a))]) hx hb dX0_heaviest_94 rfl hl (by decide) rfl (fun ls hl => ?_)
              refine lv_iinc (v := nI (a + 1)) (lv' := [(4, .int (nI (a + 1))), (3, .int (totW wt ((softM wt n) &&& (notI (violM md a n))) n)), (2, .int ((softM wt n) &&& (notI (violM md a n)))), (8, .int 1), (7, .int (totW wt ((softM wt n) &&& (notI (violM md a n))) n)), (6, .int ((softM wt n) &&& (notI (violM md a n)))), (5, .int (violM md a n)), (0, .ref h0), (1, .int (softM wt n))]) hx hb dX0_heaviest_95 hl (k := 8) rfl (nI_inc (a) 1) (by decide) rfl (fun ls hl => ?_)
              refine lv_goto (tgt := 13) hx hb dX0_heaviest_98 (by decide) ?_
              exact ih (a + 1) ((softM wt n) &&& (notI (violM md a n))) (totW wt ((softM wt n) &&& (notI (violM md a n))) n) _ _ _ (by omega) (by omega) (by subst ha hb9; simp [heavF, c_17, c_34, c_56, c_81, c_86]) (by subst ha hb9; simp [heavF, c_17, c_34, c_56, c_81, c_86]) (hP.sub (ws' := [(h0, OB 0 [.ref hm, .ref hw, .int (nI n)]), (hm, AJ G 10 md), (hw, AI G 10 wt)]) [0, 1, 2] rfl) (hD.sub (ws' := [(h0, OB 0 [.ref hm, .ref hw, .int (nI n)]), (hm, AJ G 10 md), (hw, AI G 10 wt)]) [0, 1, 2] (by decide) rfl) hS (lv_sub (l' := [(0, .ref h0), (1, .int (softM wt n)), (2, .int ((softM wt n) &&& (notI (violM md a n)))), (3, .int (totW wt ((softM wt n) &&& (notI (violM md a n))) n)), (4, .int (nI (a + 1)))]) hl [7, 8, 2, 1, 0] rfl)
          ·
            refine lv_iload hx hb dX0_heaviest_59 (lv_at hl 0 rfl) ?_
            refine lv_iload_n hx hb dX0_heaviest_61 rfl (lv_at hl 6 rfl) ?_
            refine lv_icmp_ne (tgt := 75) hx hb dX0_heaviest_62 (by decide) (fun c_62 => ?_) (fun c_62 => ?_)
            ·
              refine lv_iconst (v := 0) hx hb dX0_heaviest_75 (by decide) ?_
              refine lv_istore (lv' := [(8, .int 0), (7, .int (totW wt ((softM wt n) &&& (notI (violM md a n))) n)), (6, .int ((softM wt n) &&& (notI (violM md a n)))), (5, .int (violM md a n)), (0, .ref h0), (1, .int (softM wt n)), (2, .int best), (3, .int bw), (4, .int (nI a))]) hx hb dX0_heaviest_76 hl (by decide) rfl (fun ls hl => ?_)
              refine lv_iload_n hx hb dX0_heaviest_78 rfl (lv_at hl 6 rfl) ?_
              refine lv_bipush (v := (-9)) hx hb dX0_heaviest_79 (by decide) ?_
              refine lv_icmp_eq (tgt := 89) hx hb dX0_heaviest_81 (by decide) (fun c_81 => ?_) (fun c_81 => ?_)
              ·
                refine lv_iload hx hb dX0_heaviest_89 (lv_at hl 2 rfl) ?_
                refine lv_istore_n (lv' := [(2, .int ((softM wt n) &&& (notI (violM md a n)))), (8, .int 0), (7, .int (totW wt ((softM wt n) &&& (notI (violM md a n))) n)), (6, .int ((softM wt n) &&& (notI (violM md a n)))), (5, .int (violM md a n)), (0, .ref h0), (1, .int (softM wt n)), (3, .int bw), (4, .int (nI a))]) hx hb dX0_heaviest_91 rfl hl (by decide) rfl (fun ls hl => ?_)
                refine lv_iload hx hb dX0_heaviest_92 (lv_at hl 2 rfl) ?_
                refine lv_istore_n (lv' := [(3, .int (totW wt ((softM wt n) &&& (notI (violM md a n))) n)), (2, .int ((softM wt n) &&& (notI (violM md a n)))), (8, .int 0), (7, .int (totW wt ((softM wt n) &&& (notI (violM md a n))) n)), (6, .int ((softM wt n) &&& (notI (violM md a n)))), (5, .int (violM md a n)), (0, .ref h0), (1, .int (softM wt n)), (4, .int (nI a))]) hx hb dX0_heaviest_94 rfl hl (by decide) rfl (fun ls hl => ?_)
                refine lv_iinc (v := nI (a + 1)) (lv' := [(4, .int (nI (a + 1))), (3, .int (totW wt ((softM wt n) &&& (notI (violM md a n))) n)), (2, .int ((softM wt n) &&& (notI (violM md a n)))), (8, .int 0), (7, .int (totW wt ((softM wt n) &&& (notI (violM md a n))) n)), (6, .int ((softM wt n) &&& (notI (violM md a n)))), (5, .int (violM md a n)), (0, .ref h0), (1, .int (softM wt n))]) hx hb dX0_heaviest_95 hl (k := 8) rfl (nI_inc (a) 1) (by decide) rfl (fun ls hl => ?_)
                refine lv_goto (tgt := 13) hx hb dX0_heaviest_98 (by decide) ?_
                exact ih (a + 1) ((softM wt n) &&& (notI (violM md a n))) (totW wt ((softM wt n) &&& (notI (violM md a n))) n) _ _ _ (by omega) (by omega) (by subst ha hb9; simp [heavF, c_17, c_34, c_56, c_62, c_81]) (by subst ha hb9; simp [heavF, c_17, c_34, c_56, c_62, c_81]) (hP.sub (ws' := [(h0, OB 0 [.ref hm, .ref hw, .int (nI n)]), (hm, AJ G 10 md), (hw, AI G 10 wt)]) [0, 1, 2] rfl) (hD.sub (ws' := [(h0, OB 0 [.ref hm, .ref hw, .int (nI n)]), (hm, AJ G 10 md), (hw, AI G 10 wt)]) [0, 1, 2] (by decide) rfl) hS (lv_sub (l' := [(0, .ref h0), (1, .int (softM wt n)), (2, .int ((softM wt n) &&& (notI (violM md a n)))), (3, .int (totW wt ((softM wt n) &&& (notI (violM md a n))) n)), (4, .int (nI (a + 1)))]) hl [7, 8, 2, 1, 0] rfl)
              ·
                refine lv_iload hx hb dX0_heaviest_84 (lv_at hl 0 rfl) ?_
                refine lv_if_eq (tgt := 95) hx hb dX0_heaviest_86 (by decide) (fun c_86 => ?_) (fun c_86 => absurd c_86 (by decide))
                refine lv_iinc (v := nI (a + 1)) (lv' := [(4, .int (nI (a + 1))), (8, .int 0), (7, .int (totW wt ((softM wt n) &&& (notI (violM md a n))) n)), (6, .int ((softM wt n) &&& (notI (violM md a n)))), (5, .int (violM md a n)), (0, .ref h0), (1, .int (softM wt n)), (2, .int best), (3, .int bw)]) hx hb dX0_heaviest_95 hl (k := 8) rfl (nI_inc (a) 1) (by decide) rfl (fun ls hl => ?_)
                refine lv_goto (tgt := 13) hx hb dX0_heaviest_98 (by decide) ?_
                exact ih (a + 1) best bw _ _ _ (by omega) (by omega) (by subst ha hb9; simp [heavF, c_17, c_34, c_56, c_62, c_81, c_86]) (by subst ha hb9; simp [heavF, c_17, c_34, c_56, c_62, c_81, c_86]) (hP.sub (ws' := [(h0, OB 0 [.ref hm, .ref hw, .int (nI n)]), (hm, AJ G 10 md), (hw, AI G 10 wt)]) [0, 1, 2] rfl) (hD.sub (ws' := [(h0, OB 0 [.ref hm, .ref hw, .int (nI n)]), (hm, AJ G 10 md), (hw, AI G 10 wt)]) [0, 1, 2] (by decide) rfl) hS (lv_sub (l' := [(0, .ref h0), (1, .int (softM wt n)), (2, .int best), (3, .int bw), (4, .int (nI (a + 1)))]) hl [5, 6, 7, 8, 0] rfl)
            ·
              refine lv_iload hx hb dX0_heaviest_65 (lv_at hl 1 rfl) ?_
              refine lv_iload_n hx hb dX0_heaviest_67 rfl (lv_at hl 5 rfl) ?_
              refine lv_icmp_ge (tgt := 75) hx hb dX0_heaviest_68 (by decide) (fun c_68 => ?_) (fun c_68 => ?_)
              ·
                have c_68 : ¬ ((softM wt n) &&& (notI (violM md a n))) < best := Int32.not_lt.mpr c_68
                refine lv_iconst (v := 0) hx hb dX0_heaviest_75 (by decide) ?_
                refine lv_istore (lv' := [(8, .int 0), (7, .int (totW wt ((softM wt n) &&& (notI (violM md a n))) n)), (6, .int ((softM wt n) &&& (notI (violM md a n)))), (5, .int (violM md a n)), (0, .ref h0), (1, .int (softM wt n)), (2, .int best), (3, .int bw), (4, .int (nI a))]) hx hb dX0_heaviest_76 hl (by decide) rfl (fun ls hl => ?_)
                refine lv_iload_n hx hb dX0_heaviest_78 rfl (lv_at hl 6 rfl) ?_
                refine lv_bipush (v := (-9)) hx hb dX0_heaviest_79 (by decide) ?_
                refine lv_icmp_eq (tgt := 89) hx hb dX0_heaviest_81 (by decide) (fun c_81 => ?_) (fun c_81 => ?_)
                ·
                  refine lv_iload hx hb dX0_heaviest_89 (lv_at hl 2 rfl) ?_
                  refine lv_istore_n (lv' := [(2, .int ((softM wt n) &&& (notI (violM md a n)))), (8, .int 0), (7, .int (totW wt ((softM wt n) &&& (notI (violM md a n))) n)), (6, .int ((softM wt n) &&& (notI (violM md a n)))), (5, .int (violM md a n)), (0, .ref h0), (1, .int (softM wt n)), (3, .int bw), (4, .int (nI a))]) hx hb dX0_heaviest_91 rfl hl (by decide) rfl (fun ls hl => ?_)
                  refine lv_iload hx hb dX0_heaviest_92 (lv_at hl 2 rfl) ?_
                  refine lv_istore_n (lv' := [(3, .int (totW wt ((softM wt n) &&& (notI (violM md a n))) n)), (2, .int ((softM wt n) &&& (notI (violM md a n)))), (8, .int 0), (7, .int (totW wt ((softM wt n) &&& (notI (violM md a n))) n)), (6, .int ((softM wt n) &&& (notI (violM md a n)))), (5, .int (violM md a n)), (0, .ref h0), (1, .int (softM wt n)), (4, .int (nI a))]) hx hb dX0_heaviest_94 rfl hl (by decide) rfl (fun ls hl => ?_)
                  refine lv_iinc (v := nI (a + 1)) (lv' := [(4, .int (nI (a + 1))), (3, .int (totW wt ((softM wt n) &&& (notI (violM md a n))) n)), (2, .int ((softM wt n) &&& (notI (violM md a n)))), (8, .int 0), (7, .int (totW wt ((softM wt n) &&& (notI (violM md a n))) n)), (6, .int ((softM wt n) &&& (notI (violM md a n)))), (5, .int (violM md a n)), (0, .ref h0), (1, .int (softM wt n))]) hx hb dX0_heaviest_95 hl (k := 8) rfl (nI_inc (a) 1) (by decide) rfl (fun ls hl => ?_)
                  refine lv_goto (tgt := 13) hx hb dX0_heaviest_98 (by decide) ?_
                  exact ih (a + 1) ((softM wt n) &&& (notI (violM md a n))) (totW wt ((softM wt n) &&& (notI (violM md a n))) n) _ _ _ (by omega) (by omega) (by subst ha hb9; simp [heavF, c_17, c_34, c_56, c_62, c_68, c_81]) (by subst ha hb9; simp [heavF, c_17, c_34, c_56, c_62, c_68, c_81]) (hP.sub (ws' := [(h0, OB 0 [.ref hm, .ref hw, .int (nI n)]), (hm, AJ G 10 md), (hw, AI G 10 wt)]) [0, 1, 2] rfl) (hD.sub (ws' := [(h0, OB 0 [.ref hm, .ref hw, .int (nI n)]), (hm, AJ G 10 md), (hw, AI G 10 wt)]) [0, 1, 2] (by decide) rfl) hS (lv_sub (l' := [(0, .ref h0), (1, .int (softM wt n)), (2, .int ((softM wt n) &&& (notI (violM md a n)))), (3, .int (totW wt ((softM wt n) &&& (notI (violM md a n))) n)), (4, .int (nI (a + 1)))]) hl [7, 8, 2, 1, 0] rfl)
                ·
                  refine lv_iload hx hb dX0_heaviest_84 (lv_at hl 0 rfl) ?_
                  refine lv_if_eq (tgt := 95) hx hb dX0_heaviest_86 (by decide) (fun c_86 => ?_) (fun c_86 => absurd c_86 (by decide))
                  refine lv_iinc (v := nI (a + 1)) (lv' := [(4, .int (nI (a + 1))), (8, .int 0), (7, .int (totW wt ((softM wt n) &&& (notI (violM md a n))) n)), (6, .int ((softM wt n) &&& (notI (violM md a n)))), (5, .int (violM md a n)), (0, .ref h0), (1, .int (softM wt n)), (2, .int best), (3, .int bw)]) hx hb dX0_heaviest_95 hl (k := 8) rfl (nI_inc (a) 1) (by decide) rfl (fun ls hl => ?_)
                  refine lv_goto (tgt := 13) hx hb dX0_heaviest_98 (by decide) ?_
                  exact ih (a + 1) best bw _ _ _ (by omega) (by omega) (by subst ha hb9; simp [heavF, c_17, c_34, c_56, c_62, c_68, c_81, c_86]) (by subst ha hb9; simp [heavF, c_17, c_34, c_56, c_62, c_68, c_81, c_86]) (hP.sub (ws' := [(h0, OB 0 [.ref hm, .ref hw, .int (nI n)]), (hm, AJ G 10 md), (hw, AI G 10 wt)]) [0, 1, 2] rfl) (hD.sub (ws' := [(h0, OB 0 [.ref hm, .ref hw, .int (nI n)]), (hm, AJ G 10 md), (hw, AI G 10 wt)]) [0, 1, 2] (by decide) rfl) hS (lv_sub (l' := [(0, .ref h0), (1, .int (softM wt n)), (2, .int best), (3, .int bw), (4, .int (nI (a + 1)))]) hl [5, 6, 7, 8, 0] rfl)
              ·
                have c_68 : ((softM wt n) &&& (notI (violM md a n))) < best := Int32.not_le.mp c_68
                refine lv_iconst (v := 1) hx hb dX0_heaviest_71 (by decide) ?_
                refine lv_goto (tgt := 76) hx hb dX0_heaviest_72 (by decide) ?_
                refine lv_istore (lv' := [(8, .int 1), (7, .int (totW wt ((softM wt n) &&& (notI (violM md a n))) n)), (6, .int ((softM wt n) &&& (notI (violM md a n)))), (5, .int (violM md a n)), (0, .ref h0), (1, .int (softM wt n)), (2, .int best), (3, .int bw), (4, .int (nI a))]) hx hb dX0_heaviest_76 hl (by decide) rfl (fun ls hl => ?_)
                refine lv_iload_n hx hb dX0_heaviest_78 rfl (lv_at hl 6 rfl) ?_
                refine lv_bipush (v := (-9)) hx hb dX0_heaviest_79 (by decide) ?_
                refine lv_icmp_eq (tgt := 89) hx hb dX0_heaviest_81 (by decide) (fun c_81 => ?_) (fun c_81 => ?_)
                ·
                  refine lv_iload hx hb dX0_heaviest_89 (lv_at hl 2 rfl) ?_
                  refine lv_istore_n (lv' := [(2, .int ((softM wt n) &&& (notI (violM md a n)))), (8, .int 1), (7, .int (totW wt ((softM wt n) &&& (notI (violM md a n))) n)), (6, .int ((softM wt n) &&& (notI (violM md a n)))), (5, .int (violM md a n)), (0, .ref h0), (1, .int (softM wt n)), (3, .int bw), (4, .int (nI a))]) hx hb dX0_heaviest_91 rfl hl (by decide) rfl (fun ls hl => ?_)
                  refine lv_iload hx hb dX0_heaviest_92 (lv_at hl 2 rfl) ?_
                  refine lv_istore_n (lv' := [(3, .int (totW wt ((softM wt n) &&& (notI (violM md a n))) n)), (2, .int ((softM wt n) &&& (notI (violM md a n)))), (8, .int 1), (7, .int (totW wt ((softM wt n) &&& (notI (violM md a n))) n)), (6, .int ((softM wt n) &&& (notI (violM md a n)))), (5, .int (violM md a n)), (0, .ref h0), (1, .int (softM wt n)), (4, .int (nI a))]) hx hb dX0_heaviest_94 rfl hl (by decide) rfl (fun ls hl => ?_)
                  refine lv_iinc (v := nI (a + 1)) (lv' := [(4, .int (nI (a + 1))), (3, .int (totW wt ((softM wt n) &&& (notI (violM md a n))) n)), (2, .int ((softM wt n) &&& (notI (violM md a n)))), (8, .int 1), (7, .int (totW wt ((softM wt n) &&& (notI (violM md a n))) n)), (6, .int ((softM wt n) &&& (notI (violM md a n)))), (5, .int (violM md a n)), (0, .ref h0), (1, .int (softM wt n))]) hx hb dX0_heaviest_95 hl (k := 8) rfl (nI_inc (a) 1) (by decide) rfl (fun ls hl => ?_)
                  refine lv_goto (tgt := 13) hx hb dX0_heaviest_98 (by decide) ?_
                  exact ih (a + 1) ((softM wt n) &&& (notI (violM md a n))) (totW wt ((softM wt n) &&& (notI (violM md a n))) n) _ _ _ (by omega) (by omega) (by subst ha hb9; simp [heavF, c_17, c_34, c_56, c_62, c_68, c_81]) (by subst ha hb9; simp [heavF, c_17, c_34, c_56, c_62, c_68, c_81]) (hP.sub (ws' := [(h0, OB 0 [.ref hm, .ref hw, .int (nI n)]), (hm, AJ G 10 md), (hw, AI G 10 wt)]) [0, 1, 2] rfl) (hD.sub (ws' := [(h0, OB 0 [.ref hm, .ref hw, .int (nI n)]), (hm, AJ G 10 md), (hw, AI G 10 wt)]) [0, 1, 2] (by decide) rfl) hS (lv_sub (l' := [(0, .ref h0), (1, .int (softM wt n)), (2, .int ((softM wt n) &&& (notI (violM md a n)))), (3, .int (totW wt ((softM wt n) &&& (notI (violM md a n))) n)), (4, .int (nI (a + 1)))]) hl [7, 8, 2, 1, 0] rfl)
                ·
                  refine lv_iload hx hb dX0_heaviest_84 (lv_at hl 0 rfl) ?_
                  refine lv_if_eq (tgt := 95) hx hb dX0_heaviest_86 (by decide) (fun c_86 => absurd c_86 (by decide)) (fun c_86 => ?_)
                  refine lv_iload hx hb dX0_heaviest_89 (lv_at hl 2 rfl) ?_
                  refine lv_istore_n (lv' := [(2, .int ((softM wt n) &&& (notI (violM md a n)))), (8, .int 1), (7, .int (totW wt ((softM wt n) &&& (notI (violM md a n))) n)), (6, .int ((softM wt n) &&& (notI (violM md a n)))), (5, .int (violM md a n)), (0, .ref h0), (1, .int (softM wt n)), (3, .int bw), (4, .int (nI a))]) hx hb dX0_heaviest_91 rfl hl (by decide) rfl (fun ls hl => ?_)
                  refine lv_iload hx hb dX0_heaviest_92 (lv_at hl 2 rfl) ?_
                  refine lv_istore_n (lv' := [(3, .int (totW wt ((softM wt n) &&& (notI (violM md a n))) n)), (2, .int ((softM wt n) &&& (notI (violM md a n)))), (8, .int 1), (7, .int (totW wt ((softM wt n) &&& (notI (violM md a n))) n)), (6, .int ((softM wt n) &&& (notI (violM md a n)))), (5, .int (violM md a n)), (0, .ref h0), (1, .int (softM wt n)), (4, .int (nI a))]) hx hb dX0_heaviest_94 rfl hl (by decide) rfl (fun ls hl => ?_)
                  refine lv_iinc (v := nI (a + 1)) (lv' := [(4, .int (nI (a + 1))), (3, .int (totW wt ((softM wt n) &&& (notI (violM md a n))) n)), (2, .int ((softM wt n) &&& (notI (violM md a n)))), (8, .int 1), (7, .int (totW wt ((softM wt n) &&& (notI (violM md a n))) n)), (6, .int ((softM wt n) &&& (notI (violM md a n)))), (5, .int (violM md a n)), (0, .ref h0), (1, .int (softM wt n))]) hx hb dX0_heaviest_95 hl (k := 8) rfl (nI_inc (a) 1) (by decide) rfl (fun ls hl => ?_)
                  refine lv_goto (tgt := 13) hx hb dX0_heaviest_98 (by decide) ?_
                  exact ih (a + 1) ((softM wt n) &&& (notI (violM md a n))) (totW wt ((softM wt n) &&& (notI (violM md a n))) n) _ _ _ (by omega) (by omega) (by subst ha hb9; simp [heavF, c_17, c_34, c_56, c_62, c_68, c_81, c_86]) (by subst ha hb9; simp [heavF, c_17, c_34, c_56, c_62, c_68, c_81, c_86]) (hP.sub (ws' := [(h0, OB 0 [.ref hm, .ref hw, .int (nI n)]), (hm, AJ G 10 md), (hw, AI G 10 wt)]) [0, 1, 2] rfl) (hD.sub (ws' := [(h0, OB 0 [.ref hm, .ref hw, .int (nI n)]), (hm, AJ G 10 md), (hw, AI G 10 wt)]) [0, 1, 2] (by decide) rfl) hS (lv_sub (l' := [(0, .ref h0), (1, .int (softM wt n)), (2, .int ((softM wt n) &&& (notI (violM md a n)))), (3, .int (totW wt ((softM wt n) &&& (notI (violM md a n))) n)), (4, .int (nI (a + 1)))]) hl [7, 8, 2, 1, 0] rfl)
  exact L13 ((64 - 0) + 1) 0 (-9) 0 _ _ _ (Nat.lt_succ_self _) (Nat.zero_le 64) (rfl) (rfl) (hP.sub (ws' := [(h0, OB 0 [.ref hm, .ref hw, .int (nI n)]), (hm, AJ G 10 md), (hw, AI G 10 wt)]) [0, 1, 2] rfl) (hD.sub (ws' := [(h0, OB 0 [.ref hm, .ref hw, .int (nI n)]), (hm, AJ G 10 md), (hw, AI G 10 wt)]) [0, 1, 2] (by decide) rfl) hS (lv_sub (l' := [(0, .ref h0), (1, .int (softM wt n)), (2, .int (-9)), (3, .int 0), (4, .int (nI 0))]) hl [4, 3, 2, 1, 0] rfl)
