abbrev rmX2_init : Room := { frames := 2, cells := 3, slots := 23, locals := 32 }
set_option maxHeartbeats 4000000 in
set_option maxRecDepth 100000 in
theorem c_X2_init (l : Launch) (G : GT) (pr : Nat)  : Cv l yX2_init wsX2_init rmX2_init G [.ref pr] [(pr, OB 2 [.null, .int 0, .int 0, .int 0, .int 0, .int 0, .int 0])] (fun u => ∃ (ps pm pv : Nat), u = [(pr, OB 2 [.ref ps, .int 0, .int 0, .int 0, .int 0, .int 0, .int 0]), (ps, OB 0 [.ref pm, .ref pv, .int (nI 0)]), (pm, AJ G 10 (fun _ => 0)), (pv, AI G 10 (fun _ => 0))]) := by
  refine Cv.of (cc := cX2_init) (maxL := 1) (by decide) rfl (Nat.le_of_ble_eq_true rfl) ?_
  intro p e s m below meth c A ls Q hx hb hml hts hown hin hA hS hP hK hN hSS hD hl ret
  have hown : s.vm.findClass RX2 = some m.cls := hown
  have hl : lv_has ls 1 [(0, .ref pr)] := hl
  have hi0 : ∀ w ∈ wsX00, w ∈ wsX2_init := mem_places [15, 16, 17] (by decide +kernel)
  have hi2 : ∀ w ∈ wsX20, w ∈ wsX2_init := mem_places [18, 19, 20, 21, 22, 23, 24] (by decide +kernel)
  refine lv_aload_n hx hb dX2_init_0 rfl (lv_at hl 0 rfl) ?_
  refine W.objInit hx hb hown (hts (.methodLink RX2 3 objectInit) (List.mem_of_getElem? (i := 1) rfl)) (hts (.instanceMethod objectInit) (List.mem_of_getElem? (i := 2) rfl)) (hts _ (List.mem_of_getElem? (i := 3) rfl)) rfl (by rw [hml]; exact hl.1) rfl dX2_init_1 (Nat.le_of_ble_eq_true rfl) (Nat.le_of_ble_eq_true rfl) ?_
  refine W.eq (g2 := F0 m 4 ls []) rfl ?_
  refine lv_aload_n hx hb dX2_init_4 rfl (lv_at hl 0 rfl) ?_
  refine va_new (ci := 0) (fs := [.null, .null, .int 0]) (C := RX0) (T := TX0) (N := 3) hx hb hts hi0 tyX0 tyX0_ok hown (hts (.classLink RX2 9 RX0) (List.mem_of_getElem? (i := 4) rfl)) (hts (.instantiable RX0 3) (List.mem_of_getElem? (i := 5) rfl)) (hts (.initialized RX0) (List.mem_of_getElem? (i := 6) rfl)) hK hP hD hS hA rfl (fun j hj => by rcases (show j = 0 ∨ j = 1 ∨ j = 2 by omega) with rfl | rfl | rfl <;> rfl) (Nat.le_of_ble_eq_true rfl) (Nat.le_of_ble_eq_true rfl) dX2_init_5 (fun q5 H hP hD hS => ?_)
  have hP : va_P G.1 vwCl [(pr, OB 2 [.null, .int 0, .int 0, .int 0, .int 0, .int 0, .int 0]), (q5, OB 0 [.null, .null, .int 0])] H := hP
  have hD : va_D A [(pr, OB 2 [.null, .int 0, .int 0, .int 0, .int 0, .int 0, .int 0]), (q5, OB 0 [.null, .null, .int 0])] := hD
  refine W.widen (k := 1) (n := 3) (Nat.le_of_ble_eq_true rfl) (Nat.le_of_ble_eq_true rfl) ?_
  refine lv_dup hx hb dX2_init_8 rfl ?_
  refine call_Nv (rest := [.ref q5, .ref pr]) (As := []) (wr := [(pr, OB 2 [.null, .int 0, .int 0, .int 0, .int 0, .int 0, .int 0])]) (c1 := 3) (s1 := 23) ⟨hx, hb, hml, hown, hts⟩ (c_X0_init l G q5 ) ⟨va_cnB 0 hts gX2_init_X0_init_n11 rfl rfl rfl (hN.2.2.2.2.1) (hts (.initialized RX0) (List.mem_of_getElem? (i := 6) rfl)) (by decide +kernel) ⟨Nat.le_of_ble_eq_true rfl, Nat.le_of_ble_eq_true rfl⟩, rfl, (hts (.instanceMethod yX0_init) (List.mem_of_getElem? (i := 8) rfl))⟩ hK hN hSS hP hD hS hA [1] [0] rfl rfl (by decide) (by decide) (by decide) rfl hl.1 rfl (Nat.le_of_ble_eq_true rfl) dX2_init_9 ⟨Nat.le_of_ble_eq_true rfl, Nat.le_of_ble_eq_true rfl⟩ rfl rfl (fun u_9 H locs hpo hP hD hS => ?_)
  obtain ⟨hm_9, hw_9, rfl⟩ := hpo
  have hP : va_P G.1 vwCl [(pr, OB 2 [.null, .int 0, .int 0, .int 0, .int 0, .int 0, .int 0]), (q5, OB 0 [.ref hm_9, .ref hw_9, .int (nI 0)]), (hm_9, AJ G 10 (fun _ => 0)), (hw_9, AI G 10 (fun _ => 0))] H := hP
  have hD : va_D A [(pr, OB 2 [.null, .int 0, .int 0, .int 0, .int 0, .int 0, .int 0]), (q5, OB 0 [.ref hm_9, .ref hw_9, .int (nI 0)]), (hm_9, AJ G 10 (fun _ => 0)), (hw_9, AI G 10 (fun _ => 0))] := hD
  refine va_putF (D := G.1) (ci := 2) (v := .ref q5) (ty := .object "ConflictEnumerator$Constraints") (C := RX2) (T := TX2) (N := 7) hx hb hts hi2 tyX2 tyX2_ok nmX2 hown hK hP hD hS 0 rfl rfl 0 (by decide) (hts (.fieldLink RX2 12 "ConflictEnumerator$Parser" "parsed" "LConflictEnumerator$Constraints;") (List.mem_of_getElem? (i := 7) rfl)) (fun _ h9 => h9) rfl hin rfl (by decide +kernel) rfl rfl (Nat.le_of_ble_eq_true rfl) dX2_init_12 (fun H locs hP hD hS => ?_)
  have hP : va_P G.1 vwCl [(pr, OB 2 [.ref q5, .int 0, .int 0, .int 0, .int 0, .int 0, .int 0]), (q5, OB 0 [.ref hm_9, .ref hw_9, .int (nI 0)]), (hm_9, AJ G 10 (fun _ => 0)), (hw_9, AI G 10 (fun _ => 0))] H := hP
  have hD : va_D A [(pr, OB 2 [.ref q5, .int 0, .int 0, .int 0, .int 0, .int 0, .int 0]), (q5, OB 0 [.ref hm_9, .ref hw_9, .int (nI 0)]), (hm_9, AJ G 10 (fun _ => 0)), (hw_9, AI G 10 (fun _ => 0))] := hD
  exact ret _ _ _ _ _ _ _ (Nat.le_of_ble_eq_true rfl) (Nat.le_of_ble_eq_true rfl) (⟨q5, hm_9, hw_9, rfl⟩) (hP.sub (ws' := [(pr, OB 2 [.ref q5, .int 0, .int 0, .int 0, .int 0, .int 0, .int 0]), (q5, OB 0 [.ref hm_9, .ref hw_9, .int (nI 0)]), (hm_9, AJ G 10 (fun _ => 0)), (hw_9, AI G 10 (fun _ => 0))]) [0, 1, 2, 3] rfl) (hD.sub (ws' := [(pr, OB 2 [.ref q5, .int 0, .int 0, .int 0, .int 0, .int 0, .int 0]), (q5, OB 0 [.ref hm_9, .ref hw_9, .int (nI 0)]), (hm_9, AJ G 10 (fun _ => 0)), (hw_9, AI G 10 (fun _ => 0))]) [0, 1, 2, 3] (by decide) rfl) hS dX2_init_15
abbrev rmX2_parsed : Room := { frames := 0, cells := 0, slots := 0, locals := 0 }
set_option maxHeartbeats 4000000 in
set_option maxRecDepth 100000 in
theorem c_X2_parsed (l : Launch) (G : GT) (pr ps : Nat) (pl kd bd pw pp pn : Int32)  : Cr l yX2_parsed wsX2_parsed rmX2_parsed G [.ref pr] [(pr, OB 2 [.ref ps, .int pl, .int kd, .int bd, .int pw, .int pp, .int pn])] (fun r u => r = ps ∧ u = [(pr, OB 2 [.ref ps, .int pl, .int kd, .int bd, .int pw, .int pp, .int pn])]) := by
  refine Cr.of (cc := cX2_parsed) (maxL := 1) (cn := "ConflictEnumerator$Constraints") (by decide) rfl (Nat.le_of_ble_eq_true rfl) ?_
  intro p e s m below meth c A ls Q hx hb hml hts hown hA hS hP hK hN hSS hD hl ret
  have hown : s.vm.findClass RX2 = some m.cls := hown
  have hl : lv_has ls 1 [(0, .ref pr)] := hl
  have hi2 : ∀ w ∈ wsX20, w ∈ wsX2_parsed := mem_places [2, 3, 4, 5, 6, 7, 8] (by decide +kernel)
  refine lv_aload_n hx hb dX2_parsed_0 rfl (lv_at hl 0 rfl) ?_
  refine va_get (D := G.1) (ci := 2) (v := .ref ps) (C := RX2) (T := TX2) (N := 7) hx hb hts hi2 hown hK hP 0 rfl rfl 0 (by decide) (hts (.fieldLink RX2 12 "ConflictEnumerator$Parser" "parsed" "LConflictEnumerator$Constraints;") (List.mem_of_getElem? (i := 1) rfl)) (fun _ h9 => h9) rfl dX2_parsed_1 ?_
  exact ret ps _ _ _ _ _ _ _ (Nat.le_of_ble_eq_true rfl) (Nat.le_of_ble_eq_true rfl) (⟨rfl, rfl⟩) (hP.sub (ws' := [(pr, OB 2 [.ref ps, .int pl, .int kd, .int bd, .int pw, .int pp, .int pn])]) [0] rfl) (hD.sub (ws' := [(pr, OB 2 [.ref ps, .int pl, .int kd, .int bd, .int pw, .int pp, .int pn])]) [0] (by decide) rfl) hS dX2_parsed_4
abbrev rmX2_bodyHolds : Room := { frames := 0, cells := 0, slots := 0, locals := 0 }
set_option maxHeartbeats 4000000 in
set_option maxRecDepth 100000 in
theorem c_X2_bodyHolds (l : Launch) (G : GT) (pr ps : Nat) (pl kd bd pw pp pn : Int32) (x : Int32)  : Ci l yX2_bodyHolds wsX2_bodyHolds rmX2_bodyHolds G [.ref pr, .int x] [(pr, OB 2 [.ref ps, .int pl, .int kd, .int bd, .int pw, .int pp, .int pn])] (fun r u => r = bI (bodH kd bd x) ∧ u = [(pr, OB 2 [.ref ps, .int pl, .int kd, .int bd, .int pw, .int pp, .int pn])]) := by
  refine Ci.of (cc := cX2_bodyHolds) (maxL := 2) (ty := .boolean) (by decide) rfl (Nat.le_of_ble_eq_true rfl) ?_
  intro p e s m below meth c A ls Q hx hb hml hts hown hA hS hP hK hN hSS hD hl ret
  have hown : s.vm.findClass RX2 = some m.cls := hown
  have hl : lv_has ls 2 [(0, .ref pr), (1, .int x)] := hl
  have hi2 : ∀ w ∈ wsX20, w ∈ wsX2_bodyHolds := mem_places [3, 4, 5, 6, 7, 8, 9] (by decide +kernel)
  refine lv_aload_n hx hb dX2_bodyHolds_0 rfl (lv_at hl 0 rfl) ?_
  refine va_get (D := G.1) (ci := 2) (v := .int kd) (C := RX2) (T := TX2) (N := 7) hx hb hts hi2 hown hK hP 0 rfl rfl 2 (by decide) (hts (.fieldLink RX2 101 "ConflictEnumerator$Parser" "kind" "I") (List.mem_of_getElem? (i := 1) rfl)) (fun _ h9 => h9) rfl dX2_bodyHolds_1 ?_
  refine lv_bipush (v := 12) hx hb dX2_bodyHolds_4 (by decide) ?_
  refine lv_icmp_ne (tgt := 19) hx hb dX2_bodyHolds_6 (by decide) (fun c_6 => ?_) (fun c_6 => ?_)
  ·
    refine lv_aload_n hx hb dX2_bodyHolds_19 rfl (lv_at hl 0 rfl) ?_
    refine va_get (D := G.1) (ci := 2) (v := .int kd) (C := RX2) (T := TX2) (N := 7) hx hb hts hi2 hown hK hP 0 rfl rfl 2 (by decide) (hts (.fieldLink RX2 101 "ConflictEnumerator$Parser" "kind" "I") (List.mem_of_getElem? (i := 1) rfl)) (fun _ h9 => h9) rfl dX2_bodyHolds_20 ?_
    refine lv_bipush (v := 13) hx hb dX2_bodyHolds_23 (by decide) ?_
    refine lv_icmp_ne (tgt := 41) hx hb dX2_bodyHolds_25 (by decide) (fun c_25 => ?_) (fun c_25 => ?_)
    ·
      refine lv_iload_n hx hb dX2_bodyHolds_41 rfl (lv_at hl 1 rfl) ?_
      refine lv_aload_n hx hb dX2_bodyHolds_42 rfl (lv_at hl 0 rfl) ?_
      refine va_get (D := G.1) (ci := 2) (v := .int bd) (C := RX2) (T := TX2) (N := 7) hx hb hts hi2 hown hK hP 0 rfl rfl 3 (by decide) (hts (.fieldLink RX2 104 "ConflictEnumerator$Parser" "bound" "I") (List.mem_of_getElem? (i := 2) rfl)) (fun _ h9 => h9) rfl dX2_bodyHolds_43 ?_
      refine lv_icmp_gt (tgt := 53) hx hb dX2_bodyHolds_46 (by decide) (fun c_46 => ?_) (fun c_46 => ?_)
      ·
        refine lv_iconst (v := 0) hx hb dX2_bodyHolds_53 (by decide) ?_
        exact ret 0 _ _ _ _ _ _ _ (Nat.le_of_ble_eq_true rfl) (Nat.le_of_ble_eq_true rfl) (rfl) (⟨by simp only [bodH, c_6, c_25, c_46, if_true, if_false, eq_self_iff_true]; first | rfl | (simp [bI, c_6, c_25, c_46]) , rfl⟩) (hP.sub (ws' := [(pr, OB 2 [.ref ps, .int pl, .int kd, .int bd, .int pw, .int pp, .int pn])]) [0] rfl) (hD.sub (ws' := [(pr, OB 2 [.ref ps, .int pl, .int kd, .int bd, .int pw, .int pp, .int pn])]) [0] (by decide) rfl) hS dX2_bodyHolds_54
      ·
        refine lv_iconst (v := 1) hx hb dX2_bodyHolds_49 (by decide) ?_
        refine lv_goto (tgt := 54) hx hb dX2_bodyHolds_50 (by decide) ?_
        exact ret 1 _ _ _ _ _ _ _ (Nat.le_of_ble_eq_true rfl) (Nat.le_of_ble_eq_true rfl) (rfl) (⟨by simp only [bodH, c_6, c_25, c_46, if_true, if_false, eq_self_iff_true]; first | rfl | (simp [bI, c_6, c_25, c_46]) , rfl⟩) (hP.sub (ws' := [(pr, OB 2 [.ref ps, .int pl, .int kd, .int bd, .int pw, .int pp, .int pn])]) [0] rfl) (hD.sub (ws' := [(pr, OB 2 [.ref ps, .int pl, .int kd, .int bd, .int pw, .int pp, .int pn])]) [0] (by decide) rfl) hS dX2_bodyHolds_54
    ·
      refine lv_iload_n hx hb dX2_bodyHolds_28 rfl (lv_at hl 1 rfl) ?_
      refine lv_iconst (v := 1) hx hb dX2_bodyHolds_29 (by decide) ?_
      refine lv_iand hx hb dX2_bodyHolds_30 ?_
      refine lv_iconst (v := 1) hx hb dX2_bodyHolds_31 (by decide) ?_
      refine lv_icmp_ne (tgt := 39) hx hb dX2_bodyHolds_32 (by decide) (fun c_32 => ?_) (fun c_32 => ?_)
      ·
        refine lv_iconst (v := 0) hx hb dX2_bodyHolds_39 (by decide) ?_
        exact ret 0 _ _ _ _ _ _ _ (Nat.le_of_ble_eq_true rfl) (Nat.le_of_ble_eq_true rfl) (rfl) (⟨by simp only [bodH, c_6, c_25, c_32, if_true, if_false, eq_self_iff_true]; first | rfl | (simp [bI, c_6, c_25, c_32]) , rfl⟩) (hP.sub (ws' := [(pr, OB 2 [.ref ps, .int pl, .int kd, .int bd, .int pw, .int pp, .int pn])]) [0] rfl) (hD.sub (ws' := [(pr, OB 2 [.ref ps, .int pl, .int kd, .int bd, .int pw, .int pp, .int pn])]) [0] (by decide) rfl) hS dX2_bodyHolds_40
      ·
        refine lv_iconst (v := 1) hx hb dX2_bodyHolds_35 (by decide) ?_
        refine lv_goto (tgt := 40) hx hb dX2_bodyHolds_36 (by decide) ?_
        exact ret 1 _ _ _ _ _ _ _ (Nat.le_of_ble_eq_true rfl) (Nat.le_of_ble_eq_true rfl) (rfl) (⟨by simp only [bodH, c_6, c_25, c_32, if_true, if_false, eq_self_iff_true]; first | rfl | (simp [bI, c_6, c_25, c_32]) , rfl⟩) (hP.sub (ws' := [(pr, OB 2 [.ref ps, .int pl, .int kd, .int bd, .int pw, .int pp, .int pn])]) [0] rfl) (hD.sub (ws' := [(pr, OB 2 [.ref ps, .int pl, .int kd, .int bd, .int pw, .int pp, .int pn])]) [0] (by decide) rfl) hS dX2_bodyHolds_40
  ·
    refine lv_iload_n hx hb dX2_bodyHolds_9 rfl (lv_at hl 1 rfl) ?_
    refine lv_if_le (tgt := 17) hx hb dX2_bodyHolds_10 (by decide) (fun c_10 => ?_) (fun c_10 => ?_)
    ·
      have c_10 : ¬ 0 < x := Int32.not_lt.mpr c_10
      refine lv_iconst (v := 0) hx hb dX2_bodyHolds_17 (by decide) ?_
      exact ret 0 _ _ _ _ _ _ _ (Nat.le_of_ble_eq_true rfl) (Nat.le_of_ble_eq_true rfl) (rfl) (⟨by simp only [bodH, c_6, c_10, if_true, if_false, eq_self_iff_true]; first | rfl | (simp [bI, c_6, c_10]) , rfl⟩) (hP.sub (ws' := [(pr, OB 2 [.ref ps, .int pl, .int kd, .int bd, .int pw, .int pp, .int pn])]) [0] rfl) (hD.sub (ws' := [(pr, OB 2 [.ref ps, .int pl, .int kd, .int bd, .int pw, .int pp, .int pn])]) [0] (by decide) rfl) hS dX2_bodyHolds_18
    ·
      have c_10 : 0 < x := Int32.not_le.mp c_10
      refine lv_iconst (v := 1) hx hb dX2_bodyHolds_13 (by decide) ?_
      refine lv_goto (tgt := 18) hx hb dX2_bodyHolds_14 (by decide) ?_
      exact ret 1 _ _ _ _ _ _ _ (Nat.le_of_ble_eq_true rfl) (Nat.le_of_ble_eq_true rfl) (rfl) (⟨by simp only [bodH, c_6, c_10, if_true, if_false, eq_self_iff_true]; first | rfl | (simp [bI, c_6, c_10]) , rfl⟩) (hP.sub (ws' := [(pr, OB 2 [.ref ps, .int pl, .int kd, .int bd, .int pw, .int pp, .int pn])]) [0] rfl) (hD.sub (ws' := [(pr, OB 2 [.ref ps, .int pl, .int kd, .int bd, .int pw, .int pp, .int pn])]) [0] (by decide) rfl) hS dX2_bodyHolds_18
abbrev rmX2_modelsOfBody : Room := { frames := 1, cells := 0, slots := 0, locals := 21 }
set_option maxHeartbeats 4000000 in
set_option maxRecDepth 100000 in
theorem c_X2_modelsOfBody (l : Launch) (G : GT) (pr ps : Nat) (pl kd bd pw pp pn : Int32)  : Cl l yX2_modelsOfBody wsX2_modelsOfBody rmX2_modelsOfBody G [.ref pr] [(pr, OB 2 [.ref ps, .int pl, .int kd, .int bd, .int pw, .int pp, .int pn])] (fun r u => r = modB kd bd pp pn 64 ∧ u = [(pr, OB 2 [.ref ps, .int pl, .int kd, .int bd, .int pw, .int pp, .int pn])]) := by
  refine Cl.of (cc := cX2_modelsOfBody) (maxL := 5) (by decide) rfl (Nat.le_of_ble_eq_true rfl) ?_
  intro p e s m below meth c A ls Q hx hb hml hts hown hA hS hP hK hN hSS hD hl ret
  have hown : s.vm.findClass RX2 = some m.cls := hown
  have hl : lv_has ls 5 [(0, .ref pr)] := hl
  have hi2 : ∀ w ∈ wsX20, w ∈ wsX2_modelsOfBody := mem_places [17, 18, 19, 20, 21, 22, 23] (by decide +kernel)
  refine lv_lconst (v := 0) hx hb dX2_modelsOfBody_0 (by decide) ?_
  refine lv_lstore_n (lv' := [(1, .long 0), (0, .ref pr)]) hx hb dX2_modelsOfBody_1 rfl hl (by decide) rfl (fun ls hl => ?_)
  refine lv_iconst (v := 0) hx hb dX2_modelsOfBody_2 (by decide) ?_
  refine lv_istore_n (lv' := [(3, .int 0), (1, .long 0), (0, .ref pr)]) hx hb dX2_modelsOfBody_3 rfl hl (by decide) rfl (fun ls hl => ?_)
  have L4 : ∀ (kf : Nat) (a : Nat) (acc : Int64) (H : Heap) (locs : List Loc) (ls : Array Slot), 64 - a < kf → (a ≤ 64) → (acc = modB kd bd pp pn a) → va_P G.1 vwCl [(pr, OB 2 [.ref ps, .int pl, .int kd, .int bd, .int pw, .int pp, .int pn])] H → va_D A [(pr, OB 2 [.ref ps, .int pl, .int kd, .int bd, .int pw, .int pp, .int pn])] → va_S A s.heap H locs → lv_has ls 5 [(0, .ref pr), (1, .long acc), (3, .int (nI a))] → W p l e rmX2_modelsOfBody s m ([.ref pr] : List Value).toArray below meth c H locs 0 0 Q (F0 m 4 ls []) := by
    intro kf
    induction kf with
    | zero => intro a acc H locs ls h; exact absurd h (Nat.not_lt_zero _)
    | succ kf ih =>
      intro a acc H locs ls hk hi ha hP hD hS hl
      refine lv_iload_n hx hb dX2_modelsOfBody_4 rfl (lv_at hl 2 rfl) ?_
      refine lv_bipush (v := 64) hx hb dX2_modelsOfBody_5 (by decide) ?_
      refine lv_icmp_ge (tgt := 54) hx hb dX2_modelsOfBody_7 (by decide) (fun c_7 => ?_) (fun c_7 => ?_)
      ·
        have c_7 : 64 ≤ a := (nI_leI (a := 64) (b := a) (by omega) (by omega)).mp c_7
        refine lv_lload_n hx hb dX2_modelsOfBody_54 rfl (lv_at hl 1 rfl) ?_
        exact ret acc _ _ _ _ _ _ _ (Nat.le_of_ble_eq_true rfl) (Nat.le_of_ble_eq_true rfl) (⟨by rw [ha, show a = 64 by omega], rfl⟩) (hP.sub (ws' := [(pr, OB 2 [.ref ps, .int pl, .int kd, .int bd, .int pw, .int pp, .int pn])]) [0] rfl) (hD.sub (ws' := [(pr, OB 2 [.ref ps, .int pl, .int kd, .int bd, .int pw, .int pp, .int pn])]) [0] (by decide) rfl) hS dX2_modelsOfBody_55
      ·
        have c_7 : a < 64 := by have h9 := mt (nI_leI (a := 64) (b := a) (by omega) (by omega)).mpr c_7; omega
        refine lv_iload_n hx hb dX2_modelsOfBody_10 rfl (lv_at hl 2 rfl) ?_
        refine lv_aload_n hx hb dX2_modelsOfBody_11 rfl (lv_at hl 0 rfl) ?_
        refine va_get (D := G.1) (ci := 2) (v := .int pp) (C := RX2) (T := TX2) (N := 7) hx hb hts hi2 hown hK hP 0 rfl rfl 5 (by decide) (hts (.fieldLink RX2 92 "ConflictEnumerator$Parser" "positive" "I") (List.mem_of_getElem? (i := 1) rfl)) (fun _ h9 => h9) rfl dX2_modelsOfBody_12 ?_
        refine lv_iand hx hb dX2_modelsOfBody_15 ?_
        refine call_Si (rest := []) (As := [.int ((nI a) &&& pp)]) (wr := [(pr, OB 2 [.ref ps, .int pl, .int kd, .int bd, .int pw, .int pp, .int pn])]) (c1 := 0) (s1 := 0) ⟨hx, hb, hml, hown, hts⟩ (c_J6_bitCount_0f7a4 l G ((nI a) &&& pp) ) (va_cwS 1 hts gX2_modelsOfBody_J6_bitCount_0f7a4 rfl rfl rfl (by decide +kernel) ⟨Nat.le_of_ble_eq_true rfl, Nat.le_of_ble_eq_true rfl⟩) hK hN hSS hP hD hS hA [] [0] rfl rfl (by decide) (by decide) (by decide) rfl hl.1 rfl (Nat.le_of_ble_eq_true rfl) dX2_modelsOfBody_16 ⟨Nat.le_of_ble_eq_true rfl, Nat.le_of_ble_eq_true rfl⟩ rfl rfl (fun r_16 u_16 H locs hpo hP hD hS => ?_)
        obtain ⟨hr9, rfl⟩ := hpo
        subst r_16
        have hP : va_P G.1 vwCl [(pr, OB 2 [.ref ps, .int pl, .int kd, .int bd, .int pw, .int pp, .int pn])] H := hP
        have hD : va_D A [(pr, OB 2 [.ref ps, .int pl, .int kd, .int bd, .int pw, .int pp, .int pn])] := hD
        refine lv_iload_n hx hb dX2_modelsOfBody_19 rfl (lv_at hl 2 rfl) ?_
        refine lv_iconst (v := (-1)) hx hb dX2_modelsOfBody_20 (by decide) ?_
        refine wn_inot hx hb rfl dX2_modelsOfBody_21 ?_
        refine lv_aload_n hx hb dX2_modelsOfBody_22 rfl (lv_at hl 0 rfl) ?_
        refine va_get (D := G.1) (ci := 2) (v := .int pn) (C := RX2) (T := TX2) (N := 7) hx hb hts hi2 hown hK hP 0 rfl rfl 6 (by decide) (hts (.fieldLink RX2 95 "ConflictEnumerator$Parser" "negative" "I") (List.mem_of_getElem? (i := 2) rfl)) (fun _ h9 => h9) rfl dX2_modelsOfBody_23 ?_
        refine lv_iand hx hb dX2_modelsOfBody_26 ?_
        refine call_Si (rest := [.int (bcI ((nI a) &&& pp))]) (As := [.int ((notI (nI a)) &&& pn)]) (wr := [(pr, OB 2 [.ref ps, .int pl, .int kd, .int bd, .int pw, .int pp, .int pn])]) (c1 := 0) (s1 := 0) ⟨hx, hb, hml, hown, hts⟩ (c_J6_bitCount_0f7a4 l G ((notI (nI a)) &&& pn) ) (va_cwS 1 hts gX2_modelsOfBody_J6_bitCount_0f7a4 rfl rfl rfl (by decide +kernel) ⟨Nat.le_of_ble_eq_true rfl, Nat.le_of_ble_eq_true rfl⟩) hK hN hSS hP hD hS hA [] [0] rfl rfl (by decide) (by decide) (by decide) rfl hl.1 rfl (Nat.le_of_ble_eq_true rfl) dX2_modelsOfBody_27 ⟨Nat.le_of_ble_eq_true rfl, Nat.le_of_ble_eq_true rfl⟩ rfl rfl (fun r_27 u_27 H locs hpo hP hD hS => ?_)
        obtain ⟨hr9, rfl⟩ := hpo
        subst r_27
        have hP : va_P G.1 vwCl [(pr, OB 2 [.ref ps, .int pl, .int kd, .int bd, .int pw, .int pp, .int pn])] H := hP
        have hD : va_D A [(pr, OB 2 [.ref ps, .int pl, .int kd, .int bd, .int pw, .int pp, .int pn])] := hD
        refine lv_iadd hx hb dX2_modelsOfBody_30 ?_
        refine lv_istore (lv' := [(4, .int ((bcI ((nI a) &&& pp)) + (bcI ((notI (nI a)) &&& pn)))), (0, .ref pr), (1, .long acc), (3, .int (nI a))]) hx hb dX2_modelsOfBody_31 hl (by decide) rfl (fun ls hl => ?_)
        refine lv_aload_n hx hb dX2_modelsOfBody_33 rfl (lv_at hl 1 rfl) ?_
        refine lv_iload hx hb dX2_modelsOfBody_34 (lv_at hl 0 rfl) ?_
        refine call_Vi (rest := []) (As := [.int ((bcI ((nI a) &&& pp)) + (bcI ((notI (nI a)) &&& pn)))]) (wr := []) (c1 := 0) (s1 := 0) ⟨hx, hb, hml, hown, hts⟩ (c_X2_bodyHolds l G pr ps pl kd bd pw pp pn ((bcI ((nI a) &&& pp)) + (bcI ((notI (nI a)) &&& pn))) ) (cwV 1 hts gX2_modelsOfBody_X2_bodyHolds rfl rfl rfl (by decide +kernel) ⟨Nat.le_of_ble_eq_true rfl, Nat.le_of_ble_eq_true rfl⟩) hK hN hSS hP hD hS hA 0 2 rfl rfl rfl [0] [] rfl rfl (by decide) (by decide) (by decide) rfl hl.1 rfl (Nat.le_of_ble_eq_true rfl) dX2_modelsOfBody_36 ⟨Nat.le_of_ble_eq_true rfl, Nat.le_of_ble_eq_true rfl⟩ rfl rfl (fun r_36 u_36 H locs hpo hP hD hS => ?_)
        obtain ⟨hr9, rfl⟩ := hpo
        subst r_36
        have hP : va_P G.1 vwCl [(pr, OB 2 [.ref ps, .int pl, .int kd, .int bd, .int pw, .int pp, .int pn])] H := hP
        have hD : va_D A [(pr, OB 2 [.ref ps, .int pl, .int kd, .int bd, .int pw, .int pp, .int pn])] := hD
        refine wb_eq (tgt := 48) hx hb dX2_modelsOfBody_39 (by decide) (fun c_39 => ?_) (fun c_39 => ?_)
        ·
          refine lv_iinc (v := nI (a + 1)) (lv' := [(3, .int (nI (a + 1))), (4, .int ((bcI ((nI a) &&& pp)) + (bcI ((notI (nI a)) &&& pn)))), (0, .ref pr), (1, .long acc)]) hx hb dX2_modelsOfBody_48 hl (k := 3) rfl (nI_inc (a) 1) (by decide) rfl (fun ls hl => ?_)
          refine lv_goto (tgt := 4) hx hb dX2_modelsOfBody_51 (by decide) ?_
          exact ih (a + 1) acc _ _ _ (by omega) (by omega) (by simp only [modB, ← ha]; simp [c_7, c_39]) (hP.sub (ws' := [(pr, OB 2 [.ref ps, .int pl, .int kd, .int bd, .int pw, .int pp, .int pn])]) [0] rfl) (hD.sub (ws' := [(pr, OB 2 [.ref ps, .int pl, .int kd, .int bd, .int pw, .int pp, .int pn])]) [0] (by decide) rfl) hS (lv_sub (l' := [(0, .ref pr), (1, .long acc), (3, .int (nI (a + 1)))]) hl [2, 3, 0] rfl)
        ·
          refine lv_lload_n hx hb dX2_modelsOfBody_42 rfl (lv_at hl 2 rfl) ?_
          refine lv_lconst (v := 1) hx hb dX2_modelsOfBody_43 (by decide) ?_
          refine lv_iload_n hx hb dX2_modelsOfBody_44 rfl (lv_at hl 3 rfl) ?_
          refine lv_lshl (v := 1 <<< ((nI a : Int32).toInt64 &&& 63)) hx hb dX2_modelsOfBody_45 rfl ?_
          refine lv_lor hx hb dX2_modelsOfBody_46 ?_
          refine lv_lstore_n (lv' := [(1, .long (acc ||| (1 <<< ((nI a : Int32).toInt64 &&& 63)))), (4, .int ((bcI ((nI a) &&& pp)) + (bcI ((notI (nI a)) &&& pn)))), (0, .ref pr), (3, .int (nI a))]) hx hb dX2_modelsOfBody_47 rfl hl (by decide) rfl (fun ls hl => ?_)
          refine lv_iinc (v := nI (a + 1)) (lv' := [(3, .int (nI (a + 1))), (1, .long (acc ||| (1 <<< ((nI a : Int32).toInt64 &&& 63)))), (4, .int ((bcI ((nI a) &&& pp)) + (bcI ((notI (nI a)) &&& pn)))), (0, .ref pr)]) hx hb dX2_modelsOfBody_48 hl (k := 3) rfl (nI_inc (a) 1) (by decide) rfl (fun ls hl => ?_)
          refine lv_goto (tgt := 4) hx hb dX2_modelsOfBody_51 (by decide) ?_
          exact ih (a + 1) (acc ||| (1 <<< ((nI a : Int32).toInt64 &&& 63))) _ _ _ (by omega) (by omega) (by simp only [modB, ← ha]; simp [c_7, c_39]) (hP.sub (ws' := [(pr, OB 2 [.ref ps, .int pl, .int kd, .int bd, .int pw, .int pp, .int pn])]) [0] rfl) (hD.sub (ws' := [(pr, OB 2 [.ref ps, .int pl, .int kd, .int bd, .int pw, .int pp, .int pn])]) [0] (by decide) rfl) hS (lv_sub (l' := [(0, .ref pr), (1, .long (acc ||| (1 <<< ((nI a : Int32).toInt64 &&& 63)))), (3, .int (nI (a + 1)))]) hl [3, 1, 0] rfl)
  exact L4 ((64 - 0) + 1) 0 0 _ _ _ (Nat.lt_succ_self _) (Nat.zero_le _) (rfl) (hP.sub (ws' := [(pr, OB 2 [.ref ps, .int pl, .int kd, .int bd, .int pw, .int pp, .int pn])]) [0] rfl) (hD.sub (ws' := [(pr, OB 2 [.ref ps, .int pl, .int kd, .int bd, .int pw, .int pp, .int pn])]) [0] (by decide) rfl) hS (lv_sub (l' := [(0, .ref pr), (1, .long 0), (3, .int (nI 0))]) hl [2, 1, 0] rfl)
abbrev rmX2_acceptKind : Room := { frames := 0, cells := 0, slots := 0, locals := 0 }
set_option maxHeartbeats 4000000 in
set_option maxRecDepth 100000 in
theorem c_X2_acceptKind (l : Launch) (G : GT) (pr ps pm pv : Nat) (z : CS) (tk : Int32)  : Ci l yX2_acceptKind wsX2_acceptKind rmX2_acceptKind G [.ref pr, .int tk] [(pr, OB 2 [.ref ps, .int z.1.1, .int z.1.2.1, .int z.1.2.2.1, .int z.1.2.2.2.1, .int z.1.2.2.2.2.1, .int z.1.2.2.2.2.2]), (ps, OB 0 [.ref pm, .ref pv, .int (nI z.2.2.2)]), (pm, AJ G 10 z.2.1), (pv, AI G 10 z.2.2.1)] (fun r u => r = bI (acK tk z).1 ∧ u = [(pr, OB 2 [.ref ps, .int (((acK tk z).2).1.1), .int (((acK tk z).2).1.2.1), .int (((acK tk z).2).1.2.2.1), .int (((acK tk z).2).1.2.2.2.1), .int (((acK tk z).2).1.2.2.2.2.1), .int (((acK tk z).2).1.2.2.2.2.2)]), (ps, OB 0 [.ref pm, .ref pv, .int (nI (((acK tk z).2).2.2.2))]), (pm, AJ G 10 (((acK tk z).2).2.1)), (pv, AI G 10 (((acK tk z).2).2.2.1))]) := by
  refine Ci.of (cc := cX2_acceptKind) (maxL := 2) (ty := .boolean) (by decide) rfl (Nat.le_of_ble_eq_true rfl) ?_
  intro p e s m below meth c A ls Q hx hb hml hts hown hA hS hP hK hN hSS hD hl ret
  have hown : s.vm.findClass RX2 = some m.cls := hown
  have hl : lv_has ls 2 [(0, .ref pr), (1, .int tk)] := hl
  have hi2 : ∀ w ∈ wsX20, w ∈ wsX2_acceptKind := mem_places [3, 4, 5, 6, 7, 8, 9] (by decide +kernel)
  refine lv_iload_n hx hb dX2_acceptKind_0 rfl (lv_at hl 1 rfl) ?_
  refine lv_bipush (v := 12) hx hb dX2_acceptKind_1 (by decide) ?_
  refine lv_icmp_eq (tgt := 20) hx hb dX2_acceptKind_3 (by decide) (fun c_3 => ?_) (fun c_3 => ?_)
  ·
    refine lv_aload_n hx hb dX2_acceptKind_20 rfl (lv_at hl 0 rfl) ?_
    refine lv_iload_n hx hb dX2_acceptKind_21 rfl (lv_at hl 1 rfl) ?_
    refine va_put (D := G.1) (ci := 2) (v := .int tk) (ty := .int) (C := RX2) (T := TX2) (N := 7) hx hb hts hi2 tyX2 tyX2_ok nmX2 hown hK hP hD hS 0 rfl rfl 2 (by decide) (hts (.fieldLink RX2 101 "ConflictEnumerator$Parser" "kind" "I") (List.mem_of_getElem? (i := 1) rfl)) (fun _ h9 => h9) rfl (by decide +kernel) rfl rfl (Nat.le_of_ble_eq_true rfl) dX2_acceptKind_22 (fun H locs hP hD hS => ?_)
    have hP : va_P G.1 vwCl [(pr, OB 2 [.ref ps, .int z.1.1, .int tk, .int z.1.2.2.1, .int z.1.2.2.2.1, .int z.1.2.2.2.2.1, .int z.1.2.2.2.2.2]), (ps, OB 0 [.ref pm, .ref pv, .int (nI z.2.2.2)]), (pm, AJ G 10 z.2.1), (pv, AI G 10 z.2.2.1)] H := hP
    have hD : va_D A [(pr, OB 2 [.ref ps, .int z.1.1, .int tk, .int z.1.2.2.1, .int z.1.2.2.2.1, .int z.1.2.2.2.2.1, .int z.1.2.2.2.2.2]), (ps, OB 0 [.ref pm, .ref pv, .int (nI z.2.2.2)]), (pm, AJ G 10 z.2.1), (pv, AI G 10 z.2.2.1)] := hD
    refine lv_aload_n hx hb dX2_acceptKind_25 rfl (lv_at hl 0 rfl) ?_
    refine lv_iload_n hx hb dX2_acceptKind_26 rfl (lv_at hl 1 rfl) ?_
    refine lv_bipush (v := 14) hx hb dX2_acceptKind_27 (by decide) ?_
    refine lv_icmp_ne (tgt := 36) hx hb dX2_acceptKind_29 (by decide) (fun c_29 => ?_) (fun c_29 => ?_)
    ·
      refine lv_iconst (v := 3) hx hb dX2_acceptKind_36 (by decide) ?_
      refine va_put (D := G.1) (ci := 2) (v := .int 3) (ty := .int) (C := RX2) (T := TX2) (N := 7) hx hb hts hi2 tyX2 tyX2_ok nmX2 hown hK hP hD hS 0 rfl rfl 1 (by decide) (hts (.fieldLink RX2 21 "ConflictEnumerator$Parser" "place" "I") (List.mem_of_getElem? (i := 2) rfl)) (fun _ h9 => h9) rfl (by decide +kernel) rfl rfl (Nat.le_of_ble_eq_true rfl) dX2_acceptKind_37 (fun H locs hP hD hS => ?_)
      have hP : va_P G.1 vwCl [(pr, OB 2 [.ref ps, .int 3, .int tk, .int z.1.2.2.1, .int z.1.2.2.2.1, .int z.1.2.2.2.2.1, .int z.1.2.2.2.2.2]), (ps, OB 0 [.ref pm, .ref pv, .int (nI z.2.2.2)]), (pm, AJ G 10 z.2.1), (pv, AI G 10 z.2.2.1)] H := hP
      have hD : va_D A [(pr, OB 2 [.ref ps, .int 3, .int tk, .int z.1.2.2.1, .int z.1.2.2.2.1, .int z.1.2.2.2.2.1, .int z.1.2.2.2.2.2]), (ps, OB 0 [.ref pm, .ref pv, .int (nI z.2.2.2)]), (pm, AJ G 10 z.2.1), (pv, AI G 10 z.2.2.1)] := hD
      refine lv_iconst (v := 1) hx hb dX2_acceptKind_40 (by decide) ?_
      exact ret 1 _ _ _ _ _ _ _ (Nat.le_of_ble_eq_true rfl) (Nat.le_of_ble_eq_true rfl) (rfl) (⟨by first | exact absurd (c_3.symm.trans c_29) (by decide) | exact absurd (c_9.symm.trans c_29) (by decide) | exact absurd c_15 c_29 | (simp [acK, bI, c_3, c_29]), by first | exact absurd (c_3.symm.trans c_29) (by decide) | exact absurd (c_9.symm.trans c_29) (by decide) | exact absurd c_15 c_29 | (simp [acK, c_3, c_29])⟩) (hP.sub (ws' := [(pr, OB 2 [.ref ps, .int 3, .int tk, .int z.1.2.2.1, .int z.1.2.2.2.1, .int z.1.2.2.2.2.1, .int z.1.2.2.2.2.2]), (ps, OB 0 [.ref pm, .ref pv, .int (nI z.2.2.2)]), (pm, AJ G 10 z.2.1), (pv, AI G 10 z.2.2.1)]) [0, 1, 2, 3] rfl) (hD.sub (ws' := [(pr, OB 2 [.ref ps, .int 3, .int tk, .int z.1.2.2.1, .int z.1.2.2.2.1, .int z.1.2.2.2.2.1, .int z.1.2.2.2.2.2]), (ps, OB 0 [.ref pm, .ref pv, .int (nI z.2.2.2)]), (pm, AJ G 10 z.2.1), (pv, AI G 10 z.2.2.1)]) [0, 1, 2, 3] (by decide) rfl) hS dX2_acceptKind_41
    ·
      refine lv_iconst (v := 2) hx hb dX2_acceptKind_32 (by decide) ?_
      refine lv_goto (tgt := 37) hx hb dX2_acceptKind_33 (by decide) ?_
      refine va_put (D := G.1) (ci := 2) (v := .int 2) (ty := .int) (C := RX2) (T := TX2) (N := 7) hx hb hts hi2 tyX2 tyX2_ok nmX2 hown hK hP hD hS 0 rfl rfl 1 (by decide) (hts (.fieldLink RX2 21 "ConflictEnumerator$Parser" "place" "I") (List.mem_of_getElem? (i := 2) rfl)) (fun _ h9 => h9) rfl (by decide +kernel) rfl rfl (Nat.le_of_ble_eq_true rfl) dX2_acceptKind_37 (fun H locs hP hD hS => ?_)
      have hP : va_P G.1 vwCl [(pr, OB 2 [.ref ps, .int 2, .int tk, .int z.1.2.2.1, .int z.1.2.2.2.1, .int z.1.2.2.2.2.1, .int z.1.2.2.2.2.2]), (ps, OB 0 [.ref pm, .ref pv, .int (nI z.2.2.2)]), (pm, AJ G 10 z.2.1), (pv, AI G 10 z.2.2.1)] H := hP
      have hD : va_D A [(pr, OB 2 [.ref ps, .int 2, .int tk, .int z.1.2.2.1, .int z.1.2.2.2.1, .int z.1.2.2.2.2.1, .int z.1.2.2.2.2.2]), (ps, OB 0 [.ref pm, .ref pv, .int (nI z.2.2.2)]), (pm, AJ G 10 z.2.1), (pv, AI G 10 z.2.2.1)] := hD
      refine lv_iconst (v := 1) hx hb dX2_acceptKind_40 (by decide) ?_
      exact ret 1 _ _ _ _ _ _ _ (Nat.le_of_ble_eq_true rfl) (Nat.le_of_ble_eq_true rfl) (rfl) (⟨by first | exact absurd (c_3.symm.trans c_29) (by decide) | exact absurd (c_9.symm.trans c_29) (by decide) | exact absurd c_15 c_29 | (simp [acK, bI, c_3, c_29]), by first | exact absurd (c_3.symm.trans c_29) (by decide) | exact absurd (c_9.symm.trans c_29) (by decide) | exact absurd c_15 c_29 | (simp [acK, c_3, c_29])⟩) (hP.sub (ws' := [(pr, OB 2 [.ref ps, .int 2, .int tk, .int z.1.2.2.1, .int z.1.2.2.2.1, .int z.1.2.2.2.2.1, .int z.1.2.2.2.2.2]), (ps, OB 0 [.ref pm, .ref pv, .int (nI z.2.2.2)]), (pm, AJ G 10 z.2.1), (pv, AI G 10 z.2.2.1)]) [0, 1, 2, 3] rfl) (hD.sub (ws' := [(pr, OB 2 [.ref ps, .int 2, .int tk, .int z.1.2.2.1, .int z.1.2.2.2.1, .int z.1.2.2.2.2.1, .int z.1.2.2.2.2.2]), (ps, OB 0 [.ref pm, .ref pv, .int (nI z.2.2.2)]), (pm, AJ G 10 z.2.1), (pv, AI G 10 z.2.2.1)]) [0, 1, 2, 3] (by decide) rfl) hS dX2_acceptKind_41
  ·
    refine lv_iload_n hx hb dX2_acceptKind_6 rfl (lv_at hl 1 rfl) ?_
    refine lv_bipush (v := 13) hx hb dX2_acceptKind_7 (by decide) ?_
    refine lv_icmp_eq (tgt := 20) hx hb dX2_acceptKind_9 (by decide) (fun c_9 => ?_) (fun c_9 => ?_)
    ·
      refine lv_aload_n hx hb dX2_acceptKind_20 rfl (lv_at hl 0 rfl) ?_
      refine lv_iload_n hx hb dX2_acceptKind_21 rfl (lv_at hl 1 rfl) ?_
      refine va_put (D := G.1) (ci := 2) (v := .int tk) (ty := .int) (C := RX2) (T := TX2) (N := 7) hx hb hts hi2 tyX2 tyX2_ok nmX2 hown hK hP hD hS 0 rfl rfl 2 (by decide) (hts (.fieldLink RX2 101 "ConflictEnumerator$Parser" "kind" "I") (List.mem_of_getElem? (i := 1) rfl)) (fun _ h9 => h9) rfl (by decide +kernel) rfl rfl (Nat.le_of_ble_eq_true rfl) dX2_acceptKind_22 (fun H locs hP hD hS => ?_)
      have hP : va_P G.1 vwCl [(pr, OB 2 [.ref ps, .int z.1.1, .int tk, .int z.1.2.2.1, .int z.1.2.2.2.1, .int z.1.2.2.2.2.1, .int z.1.2.2.2.2.2]), (ps, OB 0 [.ref pm, .ref pv, .int (nI z.2.2.2)]), (pm, AJ G 10 z.2.1), (pv, AI G 10 z.2.2.1)] H := hP
      have hD : va_D A [(pr, OB 2 [.ref ps, .int z.1.1, .int tk, .int z.1.2.2.1, .int z.1.2.2.2.1, .int z.1.2.2.2.2.1, .int z.1.2.2.2.2.2]), (ps, OB 0 [.ref pm, .ref pv, .int (nI z.2.2.2)]), (pm, AJ G 10 z.2.1), (pv, AI G 10 z.2.2.1)] := hD
      refine lv_aload_n hx hb dX2_acceptKind_25 rfl (lv_at hl 0 rfl) ?_
      refine lv_iload_n hx hb dX2_acceptKind_26 rfl (lv_at hl 1 rfl) ?_
      refine lv_bipush (v := 14) hx hb dX2_acceptKind_27 (by decide) ?_
      refine lv_icmp_ne (tgt := 36) hx hb dX2_acceptKind_29 (by decide) (fun c_29 => ?_) (fun c_29 => ?_)
      ·
        refine lv_iconst (v := 3) hx hb dX2_acceptKind_36 (by decide) ?_
        refine va_put (D := G.1) (ci := 2) (v := .int 3) (ty := .int) (C := RX2) (T := TX2) (N := 7) hx hb hts hi2 tyX2 tyX2_ok nmX2 hown hK hP hD hS 0 rfl rfl 1 (by decide) (hts (.fieldLink RX2 21 "ConflictEnumerator$Parser" "place" "I") (List.mem_of_getElem? (i := 2) rfl)) (fun _ h9 => h9) rfl (by decide +kernel) rfl rfl (Nat.le_of_ble_eq_true rfl) dX2_acceptKind_37 (fun H locs hP hD hS => ?_)
        have hP : va_P G.1 vwCl [(pr, OB 2 [.ref ps, .int 3, .int tk, .int z.1.2.2.1, .int z.1.2.2.2.1, .int z.1.2.2.2.2.1, .int z.1.2.2.2.2.2]), (ps, OB 0 [.ref pm, .ref pv, .int (nI z.2.2.2)]), (pm, AJ G 10 z.2.1), (pv, AI G 10 z.2.2.1)] H := hP
        have hD : va_D A [(pr, OB 2 [.ref ps, .int 3, .int tk, .int z.1.2.2.1, .int z.1.2.2.2.1, .int z.1.2.2.2.2.1, .int z.1.2.2.2.2.2]), (ps, OB 0 [.ref pm, .ref pv, .int (nI z.2.2.2)]), (pm, AJ G 10 z.2.1), (pv, AI G 10 z.2.2.1)] := hD
        refine lv_iconst (v := 1) hx hb dX2_acceptKind_40 (by decide) ?_
        exact ret 1 _ _ _ _ _ _ _ (Nat.le_of_ble_eq_true rfl) (Nat.le_of_ble_eq_true rfl) (rfl) (⟨by first | exact absurd (c_3.symm.trans c_29) (by decide) | exact absurd (c_9.symm.trans c_29) (by decide) | exact absurd c_15 c_29 | (simp [acK, bI, c_3, c_9, c_29]), by first | exact absurd (c_3.symm.trans c_29) (by decide) | exact absurd (c_9.symm.trans c_29) (by decide) | exact absurd c_15 c_29 | (simp [acK, c_3, c_9, c_29])⟩) (hP.sub (ws' := [(pr, OB 2 [.ref ps, .int 3, .int tk, .int z.1.2.2.1, .int z.1.2.2.2.1, .int z.1.2.2.2.2.1, .int z.1.2.2.2.2.2]), (ps, OB 0 [.ref pm, .ref pv, .int (nI z.2.2.2)]), (pm, AJ G 10 z.2.1), (pv, AI G 10 z.2.2.1)]) [0, 1, 2, 3] rfl) (hD.sub (ws' := [(pr, OB 2 [.ref ps, .int 3, .int tk, .int z.1.2.2.1, .int z.1.2.2.2.1, .int z.1.2.2.2.2.1, .int z.1.2.2.2.2.2]), (ps, OB 0 [.ref pm, .ref pv, .int (nI z.2.2.2)]), (pm, AJ G 10 z.2.1), (pv, AI G 10 z.2.2.1)]) [0, 1, 2, 3] (by decide) rfl) hS dX2_acceptKind_41
      ·
        refine lv_iconst (v := 2) hx hb dX2_acceptKind_32 (by decide) ?_
        refine lv_goto (tgt := 37) hx hb dX2_acceptKind_33 (by decide) ?_
        refine va_put (D := G.1) (ci := 2) (v := .int 2) (ty := .int) (C := RX2) (T := TX2) (N := 7) hx hb hts hi2 tyX2 tyX2_ok nmX2 hown hK hP hD hS 0 rfl rfl 1 (by decide) (hts (.fieldLink RX2 21 "ConflictEnumerator$Parser" "place" "I") (List.mem_of_getElem? (i := 2) rfl)) (fun _ h9 => h9) rfl (by decide +kernel) rfl rfl (Nat.le_of_ble_eq_true rfl) dX2_acceptKind_37 (fun H locs hP hD hS => ?_)
        have hP : va_P G.1 vwCl [(pr, OB 2 [.ref ps, .int 2, .int tk, .int z.1.2.2.1, .int z.1.2.2.2.1, .int z.1.2.2.2.2.1, .int z.1.2.2.2.2.2]), (ps, OB 0 [.ref pm, .ref pv, .int (nI z.2.2.2)]), (pm, AJ G 10 z.2.1), (pv, AI G 10 z.2.2.1)] H := hP
        have hD : va_D A [(pr, OB 2 [.ref ps, .int 2, .int tk, .int z.1.2.2.1, .int z.1.2.2.2.1, .int z.1.2.2.2.2.1, .int z.1.2.2.2.2.2]), (ps, OB 0 [.ref pm, .ref pv, .int (nI z.2.2.2)]), (pm, AJ G 10 z.2.1), (pv, AI G 10 z.2.2.1)] := hD
        refine lv_iconst (v := 1) hx hb dX2_acceptKind_40 (by decide) ?_
        exact ret 1 _ _ _ _ _ _ _ (Nat.le_of_ble_eq_true rfl) (Nat.le_of_ble_eq_true rfl) (rfl) (⟨by first | exact absurd (c_3.symm.trans c_29) (by decide) | exact absurd (c_9.symm.trans c_29) (by decide) | exact absurd c_15 c_29 | (simp [acK, bI, c_3, c_9, c_29]), by first | exact absurd (c_3.symm.trans c_29) (by decide) | exact absurd (c_9.symm.trans c_29) (by decide) | exact absurd c_15 c_29 | (simp [acK, c_3, c_9, c_29])⟩) (hP.sub (ws' := [(pr, OB 2 [.ref ps, .int 2, .int tk, .int z.1.2.2.1, .int z.1.2.2.2.1, .int z.1.2.2.2.2.1, .int z.1.2.2.2.2.2]), (ps, OB 0 [.ref pm, .ref pv, .int (nI z.2.2.2)]), (pm, AJ G 10 z.2.1), (pv, AI G 10 z.2.2.1)]) [0, 1, 2, 3] rfl) (hD.sub (ws' := [(pr, OB 2 [.ref ps, .int 2, .int tk, .int z.1.2.2.1, .int z.1.2.2.2.1, .int z.1.2.2.2.2.1, .int z.1.2.2.2.2.2]), (ps, OB 0 [.ref pm, .ref pv, .int (nI z.2.2.2)]), (pm, AJ G 10 z.2.1), (pv, AI G 10 z.2.2.1)]) [0, 1, 2, 3] (by decide) rfl) hS dX2_acceptKind_41
    ·
      refine lv_iload_n hx hb dX2_acceptKind_12 rfl (lv_at hl 1 rfl) ?_
      refine lv_bipush (v := 14) hx hb dX2_acceptKind_13 (by decide) ?_
      refine lv_icmp_eq (tgt := 20) hx hb dX2_acceptKind_15 (by decide) (fun c_15 => ?_) (fun c_15 => ?_)
      ·
        refine lv_aload_n hx hb dX2_acceptKind_20 rfl (lv_at hl 0 rfl) ?_
        refine lv_iload_n hx hb dX2_acceptKind_21 rfl (lv_at hl 1 rfl) ?_
        refine va_put (D := G.1) (ci := 2) (v := .int tk) (ty := .int) (C := RX2) (T := TX2) (N := 7) hx hb hts hi2 tyX2 tyX2_ok nmX2 hown hK hP hD hS 0 rfl rfl 2 (by decide) (hts (.fieldLink RX2 101 "ConflictEnumerator$Parser" "kind" "I") (List.mem_of_getElem? (i := 1) rfl)) (fun _ h9 => h9) rfl (by decide +kernel) rfl rfl (Nat.le_of_ble_eq_true rfl) dX2_acceptKind_22 (fun H locs hP hD hS => ?_)
        have hP : va_P G.1 vwCl [(pr, OB 2 [.ref ps, .int z.1.1, .int tk, .int z.1.2.2.1, .int z.1.2.2.2.1, .int z.1.2.2.2.2.1, .int z.1.2.2.2.2.2]), (ps, OB 0 [.ref pm, .ref pv, .int (nI z.2.2.2)]), (pm, AJ G 10 z.2.1), (pv, AI G 10 z.2.2.1)] H := hP
        have hD : va_D A [(pr, OB 2 [.ref ps, .int z.1.1, .int tk, .int z.1.2.2.1, .int z.1.2.2.2.1, .int z.1.2.2.2.2.1, .int z.1.2.2.2.2.2]), (ps, OB 0 [.ref pm, .ref pv, .int (nI z.2.2.2)]), (pm, AJ G 10 z.2.1), (pv, AI G 10 z.2.2.1)] := hD
        refine lv_aload_n hx hb dX2_acceptKind_25 rfl (lv_at hl 0 rfl) ?_
        refine lv_iload_n hx hb dX2_acceptKind_26 rfl (lv_at hl 1 rfl) ?_
        refine lv_bipush (v := 14) hx hb dX2_acceptKind_27 (by decide) ?_
        refine lv_icmp_ne (tgt := 36) hx hb dX2_acceptKind_29 (by decide) (fun c_29 => ?_) (fun c_29 => ?_)
        ·
          refine lv_iconst (v := 3) hx hb dX2_acceptKind_36 (by decide) ?_
          refine va_put (D := G.1) (ci := 2) (v := .int 3) (ty := .int) (C := RX2) (T := TX2) (N := 7) hx hb hts hi2 tyX2 tyX2_ok nmX2 hown hK hP hD hS 0 rfl rfl 1 (by decide) (hts (.fieldLink RX2 21 "ConflictEnumerator$Parser" "place" "I") (List.mem_of_getElem? (i := 2) rfl)) (fun _ h9 => h9) rfl (by decide +kernel) rfl rfl (Nat.le_of_ble_eq_true rfl) dX2_acceptKind_37 (fun H locs hP hD hS => ?_)
          have hP : va_P G.1 vwCl [(pr, OB 2 [.ref ps, .int 3, .int tk, .int z.1.2.2.1, .int z.1.2.2.2.1, .int z.1.2.2.2.2.1, .int z.1.2.2.2.2.2]), (ps, OB 0 [.ref pm, .ref pv, .int (nI z.2.2.2)]), (pm, AJ G 10 z.2.1), (pv, AI G 10 z.2.2.1)] H := hP
          have hD : va_D A [(pr, OB 2 [.ref ps, .int 3, .int tk, .int z.1.2.2.1, .int z.1.2.2.2.1, .int z.1.2.2.2.2.1, .int z.1.2.2.2.2.2]), (ps, OB 0 [.ref pm, .ref pv, .int (nI z.2.2.2)]), (pm, AJ G 10 z.2.1), (pv, AI G 10 z.2.2.1)] := hD
          refine lv_iconst (v := 1) hx hb dX2_acceptKind_40 (by decide) ?_
          exact ret 1 _ _ _ _ _ _ _ (Nat.le_of_ble_eq_true rfl) (Nat.le_of_ble_eq_true rfl) (rfl) (⟨by first | exact absurd (c_3.symm.trans c_29) (by decide) | exact absurd (c_9.symm.trans c_29) (by decide) | exact absurd c_15 c_29 | (simp [acK, bI, c_3, c_9, c_15, c_29]), by first | exact absurd (c_3.symm.trans c_29) (by decide) | exact absurd (c_9.symm.trans c_29) (by decide) | exact absurd c_15 c_29 | (simp [acK, c_3, c_9, c_15, c_29])⟩) (hP.sub (ws' := [(pr, OB 2 [.ref ps, .int 3, .int tk, .int z.1.2.2.1, .int z.1.2.2.2.1, .int z.1.2.2.2.2.1, .int z.1.2.2.2.2.2]), (ps, OB 0 [.ref pm, .ref pv, .int (nI z.2.2.2)]), (pm, AJ G 10 z.2.1), (pv, AI G 10 z.2.2.1)]) [0, 1, 2, 3] rfl) (hD.sub (ws' := [(pr, OB 2 [.ref ps, .int 3, .int tk, .int z.1.2.2.1, .int z.1.2.2.2.1, .int z.1.2.2.2.2.1, .int z.1.2.2.2.2.2]), (ps, OB 0 [.ref pm, .ref pv, .int (nI z.2.2.2)]), (pm, AJ G 10 z.2.1), (pv, AI G 10 z.2.2.1)]) [0, 1, 2, 3] (by decide) rfl) hS dX2_acceptKind_41
        ·
          refine lv_iconst (v := 2) hx hb dX2_acceptKind_32 (by decide) ?_
          refine lv_goto (tgt := 37) hx hb dX2_acceptKind_33 (by decide) ?_
          refine va_put (D := G.1) (ci := 2) (v := .int 2) (ty := .int) (C := RX2) (T := TX2) (N := 7) hx hb hts hi2 tyX2 tyX2_ok nmX2 hown hK hP hD hS 0 rfl rfl 1 (by decide) (hts (.fieldLink RX2 21 "ConflictEnumerator$Parser" "place" "I") (List.mem_of_getElem? (i := 2) rfl)) (fun _ h9 => h9) rfl (by decide +kernel) rfl rfl (Nat.le_of_ble_eq_true rfl) dX2_acceptKind_37 (fun H locs hP hD hS => ?_)
          have hP : va_P G.1 vwCl [(pr, OB 2 [.ref ps, .int 2, .int tk, .int z.1.2.2.1, .int z.1.2.2.2.1, .int z.1.2.2.2.2.1, .int z.1.2.2.2.2.2]), (ps, OB 0 [.ref pm, .ref pv, .int (nI z.2.2.2)]), (pm, AJ G 10 z.2.1), (pv, AI G 10 z.2.2.1)] H := hP
          have hD : va_D A [(pr, OB 2 [.ref ps, .int 2, .int tk, .int z.1.2.2.1, .int z.1.2.2.2.1, .int z.1.2.2.2.2.1, .int z.1.2.2.2.2.2]), (ps, OB 0 [.ref pm, .ref pv, .int (nI z.2.2.2)]), (pm, AJ G 10 z.2.1), (pv, AI G 10 z.2.2.1)] := hD
          refine lv_iconst (v := 1) hx hb dX2_acceptKind_40 (by decide) ?_
          exact ret 1 _ _ _ _ _ _ _ (Nat.le_of_ble_eq_true rfl) (Nat.le_of_ble_eq_true rfl) (rfl) (⟨by first | exact absurd (c_3.symm.trans c_29) (by decide) | exact absurd (c_9.symm.trans c_29) (by decide) | exact absurd c_15 c_29 | (simp [acK, bI, c_3, c_9, c_15, c_29]), by first | exact absurd (c_3.symm.trans c_29) (by decide) | exact absurd (c_9.symm.trans c_29) (by decide) | exact absurd c_15 c_29 | (simp [acK, c_3, c_9, c_15, c_29])⟩) (hP.sub (ws' := [(pr, OB 2 [.ref ps, .int 2, .int tk, .int z.1.2.2.1, .int z.1.2.2.2.1, .int z.1.2.2.2.2.1, .int z.1.2.2.2.2.2]), (ps, OB 0 [.ref pm, .ref pv, .int (nI z.2.2.2)]), (pm, AJ G 10 z.2.1), (pv, AI G 10 z.2.2.1)]) [0, 1, 2, 3] rfl) (hD.sub (ws' := [(pr, OB 2 [.ref ps, .int 2, .int tk, .int z.1.2.2.1, .int z.1.2.2.2.1, .int z.1.2.2.2.2.1, .int z.1.2.2.2.2.2]), (ps, OB 0 [.ref pm, .ref pv, .int (nI z.2.2.2)]), (pm, AJ G 10 z.2.1), (pv, AI G 10 z.2.2.1)]) [0, 1, 2, 3] (by decide) rfl) hS dX2_acceptKind_41
      ·
        refine lv_iconst (v := 0) hx hb dX2_acceptKind_18 (by decide) ?_
        exact ret 0 _ _ _ _ _ _ _ (Nat.le_of_ble_eq_true rfl) (Nat.le_of_ble_eq_true rfl) (rfl) (⟨by first | (simp [acK, bI, c_3, c_9, c_15]; done) | (simp only [acK, c_3, c_9, c_15]; simp [bI]), by simp [acK, c_3, c_9, c_15]⟩) (hP.sub (ws' := [(pr, OB 2 [.ref ps, .int z.1.1, .int z.1.2.1, .int z.1.2.2.1, .int z.1.2.2.2.1, .int z.1.2.2.2.2.1, .int z.1.2.2.2.2.2]), (ps, OB 0 [.ref pm, .ref pv, .int (nI z.2.2.2)]), (pm, AJ G 10 z.2.1), (pv, AI G 10 z.2.2.1)]) [0, 1, 2, 3] rfl) (hD.sub (ws' := [(pr, OB 2 [.ref ps, .int z.1.1, .int z.1.2.1, .int z.1.2.2.1, .int z.1.2.2.2.1, .int z.1.2.2.2.2.1, .int z.1.2.2.2.2.2]), (ps, OB 0 [.ref pm, .ref pv, .int (nI z.2.2.2)]), (pm, AJ G 10 z.2.1), (pv, AI G 10 z.2.2.1)]) [0, 1, 2, 3] (by decide) rfl) hS dX2_acceptKind_19
abbrev rmX2_acceptBound : Room := { frames := 0, cells := 0, slots := 0, locals := 0 }
set_option maxHeartbeats 4000000 in
set_option maxRecDepth 100000 in
theorem c_X2_acceptBound (l : Launch) (G : GT) (pr ps pm pv : Nat) (z : CS) (tk : Int32)  : Ci l yX2_acceptBound wsX2_acceptBound rmX2_acceptBound G [.ref pr, .int tk] [(pr, OB 2 [.ref ps, .int z.1.1, .int z.1.2.1, .int z.1.2.2.1, .int z.1.2.2.2.1, .int z.1.2.2.2.2.1, .int z.1.2.2.2.2.2]), (ps, OB 0 [.ref pm, .ref pv, .int (nI z.2.2.2)]), (pm, AJ G 10 z.2.1), (pv, AI G 10 z.2.2.1)] (fun r u => r = bI (acB tk z).1 ∧ u = [(pr, OB 2 [.ref ps, .int (((acB tk z).2).1.1), .int (((acB tk z).2).1.2.1), .int (((acB tk z).2).1.2.2.1), .int (((acB tk z).2).1.2.2.2.1), .int (((acB tk z).2).1.2.2.2.2.1), .int (((acB tk z).2).1.2.2.2.2.2)]), (ps, OB 0 [.ref pm, .ref pv, .int (nI (((acB tk z).2).2.2.2))]), (pm, AJ G 10 (((acB tk z).2).2.1)), (pv, AI G 10 (((acB tk z).2).2.2.1))]) := by
  refine Ci.of (cc := cX2_acceptBound) (maxL := 2) (ty := .boolean) (by decide) rfl (Nat.le_of_ble_eq_true rfl) ?_
  intro p e s m below meth c A ls Q hx hb hml hts hown hA hS hP hK hN hSS hD hl ret
  have hown : s.vm.findClass RX2 = some m.cls := hown
  have hl : lv_has ls 2 [(0, .ref pr), (1, .int tk)] := hl
  have hi2 : ∀ w ∈ wsX20, w ∈ wsX2_acceptBound := mem_places [3, 4, 5, 6, 7, 8, 9] (by decide +kernel)
  refine lv_iload_n hx hb dX2_acceptBound_0 rfl (lv_at hl 1 rfl) ?_
  refine lv_bipush (v := 6) hx hb dX2_acceptBound_1 (by decide) ?_
  refine lv_icmp_le (tgt := 8) hx hb dX2_acceptBound_3 (by decide) (fun c_3 => ?_) (fun c_3 => ?_)
  ·
    have c_3 : ¬ 6 < tk := Int32.not_lt.mpr c_3
    refine lv_aload_n hx hb dX2_acceptBound_8 rfl (lv_at hl 0 rfl) ?_
    refine lv_iload_n hx hb dX2_acceptBound_9 rfl (lv_at hl 1 rfl) ?_
    refine va_put (D := G.1) (ci := 2) (v := .int tk) (ty := .int) (C := RX2) (T := TX2) (N := 7) hx hb hts hi2 tyX2 tyX2_ok nmX2 hown hK hP hD hS 0 rfl rfl 3 (by decide) (hts (.fieldLink RX2 104 "ConflictEnumerator$Parser" "bound" "I") (List.mem_of_getElem? (i := 1) rfl)) (fun _ h9 => h9) rfl (by decide +kernel) rfl rfl (Nat.le_of_ble_eq_true rfl) dX2_acceptBound_10 (fun H locs hP hD hS => ?_)
    have hP : va_P G.1 vwCl [(pr, OB 2 [.ref ps, .int z.1.1, .int z.1.2.1, .int tk, .int z.1.2.2.2.1, .int z.1.2.2.2.2.1, .int z.1.2.2.2.2.2]), (ps, OB 0 [.ref pm, .ref pv, .int (nI z.2.2.2)]), (pm, AJ G 10 z.2.1), (pv, AI G 10 z.2.2.1)] H := hP
    have hD : va_D A [(pr, OB 2 [.ref ps, .int z.1.1, .int z.1.2.1, .int tk, .int z.1.2.2.2.1, .int z.1.2.2.2.2.1, .int z.1.2.2.2.2.2]), (ps, OB 0 [.ref pm, .ref pv, .int (nI z.2.2.2)]), (pm, AJ G 10 z.2.1), (pv, AI G 10 z.2.2.1)] := hD
    refine lv_aload_n hx hb dX2_acceptBound_13 rfl (lv_at hl 0 rfl) ?_
    refine lv_iconst (v := 3) hx hb dX2_acceptBound_14 (by decide) ?_
    refine va_put (D := G.1) (ci := 2) (v := .int 3) (ty := .int) (C := RX2) (T := TX2) (N := 7) hx hb hts hi2 tyX2 tyX2_ok nmX2 hown hK hP hD hS 0 rfl rfl 1 (by decide) (hts (.fieldLink RX2 21 "ConflictEnumerator$Parser" "place" "I") (List.mem_of_getElem? (i := 2) rfl)) (fun _ h9 => h9) rfl (by decide +kernel) rfl rfl (Nat.le_of_ble_eq_true rfl) dX2_acceptBound_15 (fun H locs hP hD hS => ?_)
    have hP : va_P G.1 vwCl [(pr, OB 2 [.ref ps, .int 3, .int z.1.2.1, .int tk, .int z.1.2.2.2.1, .int z.1.2.2.2.2.1, .int z.1.2.2.2.2.2]), (ps, OB 0 [.ref pm, .ref pv, .int (nI z.2.2.2)]), (pm, AJ G 10 z.2.1), (pv, AI G 10 z.2.2.1)] H := hP
    have hD : va_D A [(pr, OB 2 [.ref ps, .int 3, .int z.1.2.1, .int tk, .int z.1.2.2.2.1, .int z.1.2.2.2.2.1, .int z.1.2.2.2.2.2]), (ps, OB 0 [.ref pm, .ref pv, .int (nI z.2.2.2)]), (pm, AJ G 10 z.2.1), (pv, AI G 10 z.2.2.1)] := hD
    refine lv_iconst (v := 1) hx hb dX2_acceptBound_18 (by decide) ?_
    exact ret 1 _ _ _ _ _ _ _ (Nat.le_of_ble_eq_true rfl) (Nat.le_of_ble_eq_true rfl) (rfl) (⟨by first | (simp [acB, bI, c_3]; done) | (simp only [acB, c_3]; simp [bI]), by simp [acB, c_3]⟩) (hP.sub (ws' := [(pr, OB 2 [.ref ps, .int 3, .int z.1.2.1, .int tk, .int z.1.2.2.2.1, .int z.1.2.2.2.2.1, .int z.1.2.2.2.2.2]), (ps, OB 0 [.ref pm, .ref pv, .int (nI z.2.2.2)]), (pm, AJ G 10 z.2.1), (pv, AI G 10 z.2.2.1)]) [0, 1, 2, 3] rfl) (hD.sub (ws' := [(pr, OB 2 [.ref ps, .int 3, .int z.1.2.1, .int tk, .int z.1.2.2.2.1, .int z.1.2.2.2.2.1, .int z.1.2.2.2.2.2]), (ps, OB 0 [.ref pm, .ref pv, .int (nI z.2.2.2)]), (pm, AJ G 10 z.2.1), (pv, AI G 10 z.2.2.1)]) [0, 1, 2, 3] (by decide) rfl) hS dX2_acceptBound_19
  ·
    have c_3 : 6 < tk := Int32.not_le.mp c_3
    refine lv_iconst (v := 0) hx hb dX2_acceptBound_6 (by decide) ?_
    exact ret 0 _ _ _ _ _ _ _ (Nat.le_of_ble_eq_true rfl) (Nat.le_of_ble_eq_true rfl) (rfl) (⟨by first | (simp [acB, bI, c_3]; done) | (simp only [acB, c_3]; simp [bI]), by simp [acB, c_3]⟩) (hP.sub (ws' := [(pr, OB 2 [.ref ps, .int z.1.1, .int z.1.2.1, .int z.1.2.2.1, .int z.1.2.2.2.1, .int z.1.2.2.2.2.1, .int z.1.2.2.2.2.2]), (ps, OB 0 [.ref pm, .ref pv, .int (nI z.2.2.2)]), (pm, AJ G 10 z.2.1), (pv, AI G 10 z.2.2.1)]) [0, 1, 2, 3] rfl) (hD.sub (ws' := [(pr, OB 2 [.ref ps, .int z.1.1, .int z.1.2.1, .int z.1.2.2.1, .int z.1.2.2.2.1, .int z.1.2.2.2.2.1, .int z.1.2.2.2.2.2]), (ps, OB 0 [.ref pm, .ref pv, .int (nI z.2.2.2)]), (pm, AJ G 10 z.2.1), (pv, AI G 10 z.2.2.1)]) [0, 1, 2, 3] (by decide) rfl) hS dX2_acceptBound_7
abbrev rmX2_acceptVariable : Room := { frames := 0, cells := 0, slots := 0, locals := 0 }
set_option maxHeartbeats 4000000 in
set_option maxRecDepth 100000 in
theorem c_X2_acceptVariable (l : Launch) (G : GT) (pr ps pm pv : Nat) (z : CS) (tk : Int32) (ng : Bool)  : Ci l yX2_acceptVariable wsX2_acceptVariable rmX2_acceptVariable G [.ref pr, .int tk, .int (bI ng)] [(pr, OB 2 [.ref ps, .int z.1.1, .int z.1.2.1, .int z.1.2.2.1, .int z.1.2.2.2.1, .int z.1.2.2.2.2.1, .int z.1.2.2.2.2.2]), (ps, OB 0 [.ref pm, .ref pv, .int (nI z.2.2.2)]), (pm, AJ G 10 z.2.1), (pv, AI G 10 z.2.2.1)] (fun r u => r = bI (acV tk ng z).1 ∧ u = [(pr, OB 2 [.ref ps, .int (((acV tk ng z).2).1.1), .int (((acV tk ng z).2).1.2.1), .int (((acV tk ng z).2).1.2.2.1), .int (((acV tk ng z).2).1.2.2.2.1), .int (((acV tk ng z).2).1.2.2.2.2.1), .int (((acV tk ng z).2).1.2.2.2.2.2)]), (ps, OB 0 [.ref pm, .ref pv, .int (nI (((acV tk ng z).2).2.2.2))]), (pm, AJ G 10 (((acV tk ng z).2).2.1)), (pv, AI G 10 (((acV tk ng z).2).2.2.1))]) := by
  refine Ci.of (cc := cX2_acceptVariable) (maxL := 4) (ty := .boolean) (by decide) rfl (Nat.le_of_ble_eq_true rfl) ?_
  intro p e s m below meth c A ls Q hx hb hml hts hown hA hS hP hK hN hSS hD hl ret
  have hown : s.vm.findClass RX2 = some m.cls := hown
  have hl : lv_has ls 4 [(0, .ref pr), (1, .int tk), (2, .int (bI ng))] := hl
  have hi2 : ∀ w ∈ wsX20, w ∈ wsX2_acceptVariable := mem_places [4, 5, 6, 7, 8, 9, 10] (by decide +kernel)
  refine lv_iload_n hx hb dX2_acceptVariable_0 rfl (lv_at hl 1 rfl) ?_
  refine lv_iconst (v := 1) hx hb dX2_acceptVariable_1 (by decide) ?_
  refine lv_icmp_lt (tgt := 11) hx hb dX2_acceptVariable_2 (by decide) (fun c_2 => ?_) (fun c_2 => ?_)
  ·
    refine lv_iconst (v := 0) hx hb dX2_acceptVariable_11 (by decide) ?_
    exact ret 0 _ _ _ _ _ _ _ (Nat.le_of_ble_eq_true rfl) (Nat.le_of_ble_eq_true rfl) (rfl) (⟨by first | (simp [acV, bI, c_2]; done) | (simp only [acV, c_2]; simp [bI]), by simp [acV, c_2]⟩) (hP.sub (ws' := [(pr, OB 2 [.ref ps, .int z.1.1, .int z.1.2.1, .int z.1.2.2.1, .int z.1.2.2.2.1, .int z.1.2.2.2.2.1, .int z.1.2.2.2.2.2]), (ps, OB 0 [.ref pm, .ref pv, .int (nI z.2.2.2)]), (pm, AJ G 10 z.2.1), (pv, AI G 10 z.2.2.1)]) [0, 1, 2, 3] rfl) (hD.sub (ws' := [(pr, OB 2 [.ref ps, .int z.1.1, .int z.1.2.1, .int z.1.2.2.1, .int z.1.2.2.2.1, .int z.1.2.2.2.2.1, .int z.1.2.2.2.2.2]), (ps, OB 0 [.ref pm, .ref pv, .int (nI z.2.2.2)]), (pm, AJ G 10 z.2.1), (pv, AI G 10 z.2.2.1)]) [0, 1, 2, 3] (by decide) rfl) hS dX2_acceptVariable_12
  ·
    refine lv_iload_n hx hb dX2_acceptVariable_5 rfl (lv_at hl 1 rfl) ?_
    refine lv_bipush (v := 6) hx hb dX2_acceptVariable_6 (by decide) ?_
    refine lv_icmp_le (tgt := 13) hx hb dX2_acceptVariable_8 (by decide) (fun c_8 => ?_) (fun c_8 => ?_)
    ·
      have c_8 : ¬ 6 < tk := Int32.not_lt.mpr c_8
      refine lv_iconst (v := 1) hx hb dX2_acceptVariable_13 (by decide) ?_
      refine lv_iload_n hx hb dX2_acceptVariable_14 rfl (lv_at hl 1 rfl) ?_
      refine lv_iconst (v := 1) hx hb dX2_acceptVariable_15 (by decide) ?_
      refine lv_isub hx hb dX2_acceptVariable_16 ?_
      refine lv_ishl hx hb dX2_acceptVariable_17 ?_
      rw [show 1 <<< ((tk - 1) &&& 31) = vbI tk from rfl]
      refine lv_istore_n (lv' := [(3, .int (vbI tk)), (0, .ref pr), (1, .int tk), (2, .int (bI ng))]) hx hb dX2_acceptVariable_18 rfl hl (by decide) rfl (fun ls hl => ?_)
      refine lv_aload_n hx hb dX2_acceptVariable_19 rfl (lv_at hl 1 rfl) ?_
      refine va_get (D := G.1) (ci := 2) (v := .int z.1.2.2.2.2.1) (C := RX2) (T := TX2) (N := 7) hx hb hts hi2 hown hK hP 0 rfl rfl 5 (by decide) (hts (.fieldLink RX2 92 "ConflictEnumerator$Parser" "positive" "I") (List.mem_of_getElem? (i := 1) rfl)) (fun _ h9 => h9) rfl dX2_acceptVariable_20 ?_
      refine lv_aload_n hx hb dX2_acceptVariable_23 rfl (lv_at hl 1 rfl) ?_
      refine va_get (D := G.1) (ci := 2) (v := .int z.1.2.2.2.2.2) (C := RX2) (T := TX2) (N := 7) hx hb hts hi2 hown hK hP 0 rfl rfl 6 (by decide) (hts (.fieldLink RX2 95 "ConflictEnumerator$Parser" "negative" "I") (List.mem_of_getElem? (i := 2) rfl)) (fun _ h9 => h9) rfl dX2_acceptVariable_24 ?_
      refine lv_ior hx hb dX2_acceptVariable_27 ?_
      refine lv_iload_n hx hb dX2_acceptVariable_28 rfl (lv_at hl 0 rfl) ?_
      refine lv_iand hx hb dX2_acceptVariable_29 ?_
      refine lv_if_eq (tgt := 35) hx hb dX2_acceptVariable_30 (by decide) (fun c_30 => ?_) (fun c_30 => ?_)
      ·
        refine lv_iload_n hx hb dX2_acceptVariable_35 rfl (lv_at hl 3 rfl) ?_
        refine wb_eq (tgt := 52) hx hb dX2_acceptVariable_36 (by decide) (fun c_36 => ?_) (fun c_36 => ?_)
        ·
          refine lv_aload_n hx hb dX2_acceptVariable_52 rfl (lv_at hl 1 rfl) ?_
          refine lv_dup hx hb dX2_acceptVariable_53 rfl ?_
          refine va_get (D := G.1) (ci := 2) (v := .int z.1.2.2.2.2.1) (C := RX2) (T := TX2) (N := 7) hx hb hts hi2 hown hK hP 0 rfl rfl 5 (by decide) (hts (.fieldLink RX2 92 "ConflictEnumerator$Parser" "positive" "I") (List.mem_of_getElem? (i := 1) rfl)) (fun _ h9 => h9) rfl dX2_acceptVariable_54 ?_
          refine lv_iload_n hx hb dX2_acceptVariable_57 rfl (lv_at hl 0 rfl) ?_
          refine lv_ior hx hb dX2_acceptVariable_58 ?_
          refine va_put (D := G.1) (ci := 2) (v := .int (z.1.2.2.2.2.1 ||| (vbI tk))) (ty := .int) (C := RX2) (T := TX2) (N := 7) hx hb hts hi2 tyX2 tyX2_ok nmX2 hown hK hP hD hS 0 rfl rfl 5 (by decide) (hts (.fieldLink RX2 92 "ConflictEnumerator$Parser" "positive" "I") (List.mem_of_getElem? (i := 1) rfl)) (fun _ h9 => h9) rfl (by decide +kernel) rfl rfl (Nat.le_of_ble_eq_true rfl) dX2_acceptVariable_59 (fun H locs hP hD hS => ?_)
          have hP : va_P G.1 vwCl [(pr, OB 2 [.ref ps, .int z.1.1, .int z.1.2.1, .int z.1.2.2.1, .int z.1.2.2.2.1, .int (z.1.2.2.2.2.1 ||| (vbI tk)), .int z.1.2.2.2.2.2]), (ps, OB 0 [.ref pm, .ref pv, .int (nI z.2.2.2)]), (pm, AJ G 10 z.2.1), (pv, AI G 10 z.2.2.1)] H := hP
          have hD : va_D A [(pr, OB 2 [.ref ps, .int z.1.1, .int z.1.2.1, .int z.1.2.2.1, .int z.1.2.2.2.1, .int (z.1.2.2.2.2.1 ||| (vbI tk)), .int z.1.2.2.2.2.2]), (ps, OB 0 [.ref pm, .ref pv, .int (nI z.2.2.2)]), (pm, AJ G 10 z.2.1), (pv, AI G 10 z.2.2.1)] := hD
          refine lv_aload_n hx hb dX2_acceptVariable_62 rfl (lv_at hl 1 rfl) ?_
          refine lv_iconst (v := 5) hx hb dX2_acceptVariable_63 (by decide) ?_
          refine va_put (D := G.1) (ci := 2) (v := .int 5) (ty := .int) (C := RX2) (T := TX2) (N := 7) hx hb hts hi2 tyX2 tyX2_ok nmX2 hown hK hP hD hS 0 rfl rfl 1 (by decide) (hts (.fieldLink RX2 21 "ConflictEnumerator$Parser" "place" "I") (List.mem_of_getElem? (i := 3) rfl)) (fun _ h9 => h9) rfl (by decide +kernel) rfl rfl (Nat.le_of_ble_eq_true rfl) dX2_acceptVariable_64 (fun H locs hP hD hS => ?_)
          have hP : va_P G.1 vwCl [(pr, OB 2 [.ref ps, .int 5, .int z.1.2.1, .int z.1.2.2.1, .int z.1.2.2.2.1, .int (z.1.2.2.2.2.1 ||| (vbI tk)), .int z.1.2.2.2.2.2]), (ps, OB 0 [.ref pm, .ref pv, .int (nI z.2.2.2)]), (pm, AJ G 10 z.2.1), (pv, AI G 10 z.2.2.1)] H := hP
          have hD : va_D A [(pr, OB 2 [.ref ps, .int 5, .int z.1.2.1, .int z.1.2.2.1, .int z.1.2.2.2.1, .int (z.1.2.2.2.2.1 ||| (vbI tk)), .int z.1.2.2.2.2.2]), (ps, OB 0 [.ref pm, .ref pv, .int (nI z.2.2.2)]), (pm, AJ G 10 z.2.1), (pv, AI G 10 z.2.2.1)] := hD
          refine lv_iconst (v := 1) hx hb dX2_acceptVariable_67 (by decide) ?_
          exact ret 1 _ _ _ _ _ _ _ (Nat.le_of_ble_eq_true rfl) (Nat.le_of_ble_eq_true rfl) (rfl) (⟨by first | (simp [acV, bI, c_2, c_8, c_30, c_36]; done) | (simp only [acV, c_2, c_8, c_30, c_36]; simp [bI]), by simp [acV, c_2, c_8, c_30, c_36]⟩) (hP.sub (ws' := [(pr, OB 2 [.ref ps, .int 5, .int z.1.2.1, .int z.1.2.2.1, .int z.1.2.2.2.1, .int (z.1.2.2.2.2.1 ||| (vbI tk)), .int z.1.2.2.2.2.2]), (ps, OB 0 [.ref pm, .ref pv, .int (nI z.2.2.2)]), (pm, AJ G 10 z.2.1), (pv, AI G 10 z.2.2.1)]) [0, 1, 2, 3] rfl) (hD.sub (ws' := [(pr, OB 2 [.ref ps, .int 5, .int z.1.2.1, .int z.1.2.2.1, .int z.1.2.2.2.1, .int (z.1.2.2.2.2.1 ||| (vbI tk)), .int z.1.2.2.2.2.2]), (ps, OB 0 [.ref pm, .ref pv, .int (nI z.2.2.2)]), (pm, AJ G 10 z.2.1), (pv, AI G 10 z.2.2.1)]) [0, 1, 2, 3] (by decide) rfl) hS dX2_acceptVariable_68
        ·
          refine lv_aload_n hx hb dX2_acceptVariable_39 rfl (lv_at hl 1 rfl) ?_
          refine lv_dup hx hb dX2_acceptVariable_40 rfl ?_
          refine va_get (D := G.1) (ci := 2) (v := .int z.1.2.2.2.2.2) (C := RX2) (T := TX2) (N := 7) hx hb hts hi2 hown hK hP 0 rfl rfl 6 (by decide) (hts (.fieldLink RX2 95 "ConflictEnumerator$Parser" "negative" "I") (List.mem_of_getElem? (i := 2) rfl)) (fun _ h9 => h9) rfl dX2_acceptVariable_41 ?_
          refine lv_iload_n hx hb dX2_acceptVariable_44 rfl (lv_at hl 0 rfl) ?_
          refine lv_ior hx hb dX2_acceptVariable_45 ?_
          refine va_put (D := G.1) (ci := 2) (v := .int (z.1.2.2.2.2.2 ||| (vbI tk))) (ty := .int) (C := RX2) (T := TX2) (N := 7) hx hb hts hi2 tyX2 tyX2_ok nmX2 hown hK hP hD hS 0 rfl rfl 6 (by decide) (hts (.fieldLink RX2 95 "ConflictEnumerator$Parser" "negative" "I") (List.mem_of_getElem? (i := 2) rfl)) (fun _ h9 => h9) rfl (by decide +kernel) rfl rfl (Nat.le_of_ble_eq_true rfl) dX2_acceptVariable_46 (fun H locs hP hD hS => ?_)
          have hP : va_P G.1 vwCl [(pr, OB 2 [.ref ps, .int z.1.1, .int z.1.2.1, .int z.1.2.2.1, .int z.1.2.2.2.1, .int z.1.2.2.2.2.1, .int (z.1.2.2.2.2.2 ||| (vbI tk))]), (ps, OB 0 [.ref pm, .ref pv, .int (nI z.2.2.2)]), (pm, AJ G 10 z.2.1), (pv, AI G 10 z.2.2.1)] H := hP
          have hD : va_D A [(pr, OB 2 [.ref ps, .int z.1.1, .int z.1.2.1, .int z.1.2.2.1, .int z.1.2.2.2.1, .int z.1.2.2.2.2.1, .int (z.1.2.2.2.2.2 ||| (vbI tk))]), (ps, OB 0 [.ref pm, .ref pv, .int (nI z.2.2.2)]), (pm, AJ G 10 z.2.1), (pv, AI G 10 z.2.2.1)] := hD
          refine lv_goto (tgt := 62) hx hb dX2_acceptVariable_49 (by decide) ?_
          refine lv_aload_n hx hb dX2_acceptVariable_62 rfl (lv_at hl 1 rfl) ?_
          refine lv_iconst (v := 5) hx hb dX2_acceptVariable_63 (by decide) ?_
          refine va_put (D := G.1) (ci := 2) (v := .int 5) (ty := .int) (C := RX2) (T := TX2) (N := 7) hx hb hts hi2 tyX2 tyX2_ok nmX2 hown hK hP hD hS 0 rfl rfl 1 (by decide) (hts (.fieldLink RX2 21 "ConflictEnumerator$Parser" "place" "I") (List.mem_of_getElem? (i := 3) rfl)) (fun _ h9 => h9) rfl (by decide +kernel) rfl rfl (Nat.le_of_ble_eq_true rfl) dX2_acceptVariable_64 (fun H locs hP hD hS => ?_)
          have hP : va_P G.1 vwCl [(pr, OB 2 [.ref ps, .int 5, .int z.1.2.1, .int z.1.2.2.1, .int z.1.2.2.2.1, .int z.1.2.2.2.2.1, .int (z.1.2.2.2.2.2 ||| (vbI tk))]), (ps, OB 0 [.ref pm, .ref pv, .int (nI z.2.2.2)]), (pm, AJ G 10 z.2.1), (pv, AI G 10 z.2.2.1)] H := hP
          have hD : va_D A [(pr, OB 2 [.ref ps, .int 5, .int z.1.2.1, .int z.1.2.2.1, .int z.1.2.2.2.1, .int z.1.2.2.2.2.1, .int (z.1.2.2.2.2.2 ||| (vbI tk))]), (ps, OB 0 [.ref pm, .ref pv, .int (nI z.2.2.2)]), (pm, AJ G 10 z.2.1), (pv, AI G 10 z.2.2.1)] := hD
          refine lv_iconst (v := 1) hx hb dX2_acceptVariable_67 (by decide) ?_
          exact ret 1 _ _ _ _ _ _ _ (Nat.le_of_ble_eq_true rfl) (Nat.le_of_ble_eq_true rfl) (rfl) (⟨by first | (simp [acV, bI, c_2, c_8, c_30, c_36]; done) | (simp only [acV, c_2, c_8, c_30, c_36]; simp [bI]), by simp [acV, c_2, c_8, c_30, c_36]⟩) (hP.sub (ws' := [(pr, OB 2 [.ref ps, .int 5, .int z.1.2.1, .int z.1.2.2.1, .int z.1.2.2.2.1, .int z.1.2.2.2.2.1, .int (z.1.2.2.2.2.2 ||| (vbI tk))]), (ps, OB 0 [.ref pm, .ref pv, .int (nI z.2.2.2)]), (pm, AJ G 10 z.2.1), (pv, AI G 10 z.2.2.1)]) [0, 1, 2, 3] rfl) (hD.sub (ws' := [(pr, OB 2 [.ref ps, .int 5, .int z.1.2.1, .int z.1.2.2.1, .int z.1.2.2.2.1, .int z.1.2.2.2.2.1, .int (z.1.2.2.2.2.2 ||| (vbI tk))]), (ps, OB 0 [.ref pm, .ref pv, .int (nI z.2.2.2)]), (pm, AJ G 10 z.2.1), (pv, AI G 10 z.2.2.1)]) [0, 1, 2, 3] (by decide) rfl) hS dX2_acceptVariable_68
      ·
        refine lv_iconst (v := 0) hx hb dX2_acceptVariable_33 (by decide) ?_
        exact ret 0 _ _ _ _ _ _ _ (Nat.le_of_ble_eq_true rfl) (Nat.le_of_ble_eq_true rfl) (rfl) (⟨by first | (simp [acV, bI, c_2, c_8, c_30]; done) | (simp only [acV, c_2, c_8, c_30]; simp [bI]), by simp [acV, c_2, c_8, c_30]⟩) (hP.sub (ws' := [(pr, OB 2 [.ref ps, .int z.1.1, .int z.1.2.1, .int z.1.2.2.1, .int z.1.2.2.2.1, .int z.1.2.2.2.2.1, .int z.1.2.2.2.2.2]), (ps, OB 0 [.ref pm, .ref pv, .int (nI z.2.2.2)]), (pm, AJ G 10 z.2.1), (pv, AI G 10 z.2.2.1)]) [0, 1, 2, 3] rfl) (hD.sub (ws' := [(pr, OB 2 [.ref ps, .int z.1.1, .int z.1.2.1, .int z.1.2.2.1, .int z.1.2.2.2.1, .int z.1.2.2.2.2.1, .int z.1.2.2.2.2.2]), (ps, OB 0 [.ref pm, .ref pv, .int (nI z.2.2.2)]), (pm, AJ G 10 z.2.1), (pv, AI G 10 z.2.2.1)]) [0, 1, 2, 3] (by decide) rfl) hS dX2_acceptVariable_34
    ·
      have c_8 : 6 < tk := Int32.not_le.mp c_8
      refine lv_iconst (v := 0) hx hb dX2_acceptVariable_11 (by decide) ?_
      exact ret 0 _ _ _ _ _ _ _ (Nat.le_of_ble_eq_true rfl) (Nat.le_of_ble_eq_true rfl) (rfl) (⟨by first | (simp [acV, bI, c_2, c_8]; done) | (simp only [acV, c_2, c_8]; simp [bI]), by simp [acV, c_2, c_8]⟩) (hP.sub (ws' := [(pr, OB 2 [.ref ps, .int z.1.1, .int z.1.2.1, .int z.1.2.2.1, .int z.1.2.2.2.1, .int z.1.2.2.2.2.1, .int z.1.2.2.2.2.2]), (ps, OB 0 [.ref pm, .ref pv, .int (nI z.2.2.2)]), (pm, AJ G 10 z.2.1), (pv, AI G 10 z.2.2.1)]) [0, 1, 2, 3] rfl) (hD.sub (ws' := [(pr, OB 2 [.ref ps, .int z.1.1, .int z.1.2.1, .int z.1.2.2.1, .int z.1.2.2.2.1, .int z.1.2.2.2.2.1, .int z.1.2.2.2.2.2]), (ps, OB 0 [.ref pm, .ref pv, .int (nI z.2.2.2)]), (pm, AJ G 10 z.2.1), (pv, AI G 10 z.2.2.1)]) [0, 1, 2, 3] (by decide) rfl) hS dX2_acceptVariable_12
abbrev rmX2_acceptLiteral : Room := { frames := 1, cells := 0, slots := 0, locals := 23 }
set_option maxHeartbeats 4000000 in
set_option maxRecDepth 100000 in
theorem c_X2_acceptLiteral (l : Launch) (G : GT) (pr ps pm pv : Nat) (z : CS) (tk : Int32)  : Ci l yX2_acceptLiteral wsX2_acceptLiteral rmX2_acceptLiteral G [.ref pr, .int tk] [(pr, OB 2 [.ref ps, .int z.1.1, .int z.1.2.1, .int z.1.2.2.1, .int z.1.2.2.2.1, .int z.1.2.2.2.2.1, .int z.1.2.2.2.2.2]), (ps, OB 0 [.ref pm, .ref pv, .int (nI z.2.2.2)]), (pm, AJ G 10 z.2.1), (pv, AI G 10 z.2.2.1)] (fun r u => r = bI (acL tk z).1 ∧ u = [(pr, OB 2 [.ref ps, .int (((acL tk z).2).1.1), .int (((acL tk z).2).1.2.1), .int (((acL tk z).2).1.2.2.1), .int (((acL tk z).2).1.2.2.2.1), .int (((acL tk z).2).1.2.2.2.2.1), .int (((acL tk z).2).1.2.2.2.2.2)]), (ps, OB 0 [.ref pm, .ref pv, .int (nI (((acL tk z).2).2.2.2))]), (pm, AJ G 10 (((acL tk z).2).2.1)), (pv, AI G 10 (((acL tk z).2).2.2.1))]) := by
  refine Ci.of (cc := cX2_acceptLiteral) (maxL := 2) (ty := .boolean) (by decide) rfl (Nat.le_of_ble_eq_true rfl) ?_
  intro p e s m below meth c A ls Q hx hb hml hts hown hA hS hP hK hN hSS hD hl ret
  have hown : s.vm.findClass RX2 = some m.cls := hown
  have hl : lv_has ls 2 [(0, .ref pr), (1, .int tk)] := hl
  have hi2 : ∀ w ∈ wsX20, w ∈ wsX2_acceptLiteral := mem_places [9, 10, 11, 12, 13, 14, 15] (by decide +kernel)
  refine lv_iload_n hx hb dX2_acceptLiteral_0 rfl (lv_at hl 1 rfl) ?_
  refine lv_bipush (v := 10) hx hb dX2_acceptLiteral_1 (by decide) ?_
  refine lv_icmp_ne (tgt := 13) hx hb dX2_acceptLiteral_3 (by decide) (fun c_3 => ?_) (fun c_3 => ?_)
  ·
    refine lv_aload_n hx hb dX2_acceptLiteral_13 rfl (lv_at hl 0 rfl) ?_
    refine lv_iload_n hx hb dX2_acceptLiteral_14 rfl (lv_at hl 1 rfl) ?_
    refine lv_iconst (v := 0) hx hb dX2_acceptLiteral_15 (by decide) ?_
    refine call_Vi (rest := []) (As := [.int tk, .int 0]) (wr := []) (c1 := 0) (s1 := 0) ⟨hx, hb, hml, hown, hts⟩ (c_X2_acceptVariable l G pr ps pm pv z tk false ) (cwV 2 hts gX2_acceptLiteral_X2_acceptVariable rfl rfl rfl (by decide +kernel) ⟨Nat.le_of_ble_eq_true rfl, Nat.le_of_ble_eq_true rfl⟩) hK hN hSS hP hD hS hA 0 2 rfl rfl rfl [0, 1, 2, 3] [] rfl rfl (by decide) (by decide) (by decide) rfl hl.1 rfl (Nat.le_of_ble_eq_true rfl) dX2_acceptLiteral_16 ⟨Nat.le_of_ble_eq_true rfl, Nat.le_of_ble_eq_true rfl⟩ rfl rfl (fun r_16 u_16 H locs hpo hP hD hS => ?_)
    obtain ⟨hr9, rfl⟩ := hpo
    subst r_16
    have hP : va_P G.1 vwCl [(pr, OB 2 [.ref ps, .int (((acV tk false z).2).1.1), .int (((acV tk false z).2).1.2.1), .int (((acV tk false z).2).1.2.2.1), .int (((acV tk false z).2).1.2.2.2.1), .int (((acV tk false z).2).1.2.2.2.2.1), .int (((acV tk false z).2).1.2.2.2.2.2)]), (ps, OB 0 [.ref pm, .ref pv, .int (nI (((acV tk false z).2).2.2.2))]), (pm, AJ G 10 (((acV tk false z).2).2.1)), (pv, AI G 10 (((acV tk false z).2).2.2.1))] H := hP
    have hD : va_D A [(pr, OB 2 [.ref ps, .int (((acV tk false z).2).1.1), .int (((acV tk false z).2).1.2.1), .int (((acV tk false z).2).1.2.2.1), .int (((acV tk false z).2).1.2.2.2.1), .int (((acV tk false z).2).1.2.2.2.2.1), .int (((acV tk false z).2).1.2.2.2.2.2)]), (ps, OB 0 [.ref pm, .ref pv, .int (nI (((acV tk false z).2).2.2.2))]), (pm, AJ G 10 (((acV tk false z).2).2.1)), (pv, AI G 10 (((acV tk false z).2).2.2.1))] := hD
    exact ret (bI (acV tk false z).1) _ _ _ _ _ _ _ (Nat.le_of_ble_eq_true rfl) (Nat.le_of_ble_eq_true rfl) (bI_nar _) (⟨by simp [acL, c_3], by simp [acL, c_3]⟩) (hP.sub (ws' := [(pr, OB 2 [.ref ps, .int (((acV tk false z).2).1.1), .int (((acV tk false z).2).1.2.1), .int (((acV tk false z).2).1.2.2.1), .int (((acV tk false z).2).1.2.2.2.1), .int (((acV tk false z).2).1.2.2.2.2.1), .int (((acV tk false z).2).1.2.2.2.2.2)]), (ps, OB 0 [.ref pm, .ref pv, .int (nI (((acV tk false z).2).2.2.2))]), (pm, AJ G 10 (((acV tk false z).2).2.1)), (pv, AI G 10 (((acV tk false z).2).2.2.1))]) [0, 1, 2, 3] rfl) (hD.sub (ws' := [(pr, OB 2 [.ref ps, .int (((acV tk false z).2).1.1), .int (((acV tk false z).2).1.2.1), .int (((acV tk false z).2).1.2.2.1), .int (((acV tk false z).2).1.2.2.2.1), .int (((acV tk false z).2).1.2.2.2.2.1), .int (((acV tk false z).2).1.2.2.2.2.2)]), (ps, OB 0 [.ref pm, .ref pv, .int (nI (((acV tk false z).2).2.2.2))]), (pm, AJ G 10 (((acV tk false z).2).2.1)), (pv, AI G 10 (((acV tk false z).2).2.2.1))]) [0, 1, 2, 3] (by decide) rfl) hS dX2_acceptLiteral_19
  ·
    refine lv_aload_n hx hb dX2_acceptLiteral_6 rfl (lv_at hl 0 rfl) ?_
    refine lv_iconst (v := 4) hx hb dX2_acceptLiteral_7 (by decide) ?_
    refine va_put (D := G.1) (ci := 2) (v := .int 4) (ty := .int) (C := RX2) (T := TX2) (N := 7) hx hb hts hi2 tyX2 tyX2_ok nmX2 hown hK hP hD hS 0 rfl rfl 1 (by decide) (hts (.fieldLink RX2 21 "ConflictEnumerator$Parser" "place" "I") (List.mem_of_getElem? (i := 1) rfl)) (fun _ h9 => h9) rfl (by decide +kernel) rfl rfl (Nat.le_of_ble_eq_true rfl) dX2_acceptLiteral_8 (fun H locs hP hD hS => ?_)
    have hP : va_P G.1 vwCl [(pr, OB 2 [.ref ps, .int 4, .int z.1.2.1, .int z.1.2.2.1, .int z.1.2.2.2.1, .int z.1.2.2.2.2.1, .int z.1.2.2.2.2.2]), (ps, OB 0 [.ref pm, .ref pv, .int (nI z.2.2.2)]), (pm, AJ G 10 z.2.1), (pv, AI G 10 z.2.2.1)] H := hP
    have hD : va_D A [(pr, OB 2 [.ref ps, .int 4, .int z.1.2.1, .int z.1.2.2.1, .int z.1.2.2.2.1, .int z.1.2.2.2.2.1, .int z.1.2.2.2.2.2]), (ps, OB 0 [.ref pm, .ref pv, .int (nI z.2.2.2)]), (pm, AJ G 10 z.2.1), (pv, AI G 10 z.2.2.1)] := hD
    refine lv_iconst (v := 1) hx hb dX2_acceptLiteral_11 (by decide) ?_
    exact ret 1 _ _ _ _ _ _ _ (Nat.le_of_ble_eq_true rfl) (Nat.le_of_ble_eq_true rfl) (rfl) (⟨by simp [acL, bI, c_3], by simp [acL, c_3]⟩) (hP.sub (ws' := [(pr, OB 2 [.ref ps, .int 4, .int z.1.2.1, .int z.1.2.2.1, .int z.1.2.2.2.1, .int z.1.2.2.2.2.1, .int z.1.2.2.2.2.2]), (ps, OB 0 [.ref pm, .ref pv, .int (nI z.2.2.2)]), (pm, AJ G 10 z.2.1), (pv, AI G 10 z.2.2.1)]) [0, 1, 2, 3] rfl) (hD.sub (ws' := [(pr, OB 2 [.ref ps, .int 4, .int z.1.2.1, .int z.1.2.2.1, .int z.1.2.2.2.1, .int z.1.2.2.2.2.1, .int z.1.2.2.2.2.2]), (ps, OB 0 [.ref pm, .ref pv, .int (nI z.2.2.2)]), (pm, AJ G 10 z.2.1), (pv, AI G 10 z.2.2.1)]) [0, 1, 2, 3] (by decide) rfl) hS dX2_acceptLiteral_12
abbrev rmX2_acceptWeight : Room := { frames := 0, cells := 0, slots := 0, locals := 0 }
set_option maxHeartbeats 4000000 in
set_option maxRecDepth 100000 in
theorem c_X2_acceptWeight (l : Launch) (G : GT) (pr ps pm pv : Nat) (z : CS) (tk : Int32)  : Ci l yX2_acceptWeight wsX2_acceptWeight rmX2_acceptWeight G [.ref pr, .int tk] [(pr, OB 2 [.ref ps, .int z.1.1, .int z.1.2.1, .int z.1.2.2.1, .int z.1.2.2.2.1, .int z.1.2.2.2.2.1, .int z.1.2.2.2.2.2]), (ps, OB 0 [.ref pm, .ref pv, .int (nI z.2.2.2)]), (pm, AJ G 10 z.2.1), (pv, AI G 10 z.2.2.1)] (fun r u => r = bI (acW tk z).1 ∧ u = [(pr, OB 2 [.ref ps, .int (((acW tk z).2).1.1), .int (((acW tk z).2).1.2.1), .int (((acW tk z).2).1.2.2.1), .int (((acW tk z).2).1.2.2.2.1), .int (((acW tk z).2).1.2.2.2.2.1), .int (((acW tk z).2).1.2.2.2.2.2)]), (ps, OB 0 [.ref pm, .ref pv, .int (nI (((acW tk z).2).2.2.2))]), (pm, AJ G 10 (((acW tk z).2).2.1)), (pv, AI G 10 (((acW tk z).2).2.2.1))]) := by
  refine Ci.of (cc := cX2_acceptWeight) (maxL := 2) (ty := .boolean) (by decide) rfl (Nat.le_of_ble_eq_true rfl) ?_
  intro p e s m below meth c A ls Q hx hb hml hts hown hA hS hP hK hN hSS hD hl ret
  have hown : s.vm.findClass RX2 = some m.cls := hown
  have hl : lv_has ls 2 [(0, .ref pr), (1, .int tk)] := hl
  have hi2 : ∀ w ∈ wsX20, w ∈ wsX2_acceptWeight := mem_places [3, 4, 5, 6, 7, 8, 9] (by decide +kernel)
  refine lv_iload_n hx hb dX2_acceptWeight_0 rfl (lv_at hl 1 rfl) ?_
  refine lv_iconst (v := 1) hx hb dX2_acceptWeight_1 (by decide) ?_
  refine lv_icmp_lt (tgt := 11) hx hb dX2_acceptWeight_2 (by decide) (fun c_2 => ?_) (fun c_2 => ?_)
  ·
    refine lv_iconst (v := 0) hx hb dX2_acceptWeight_11 (by decide) ?_
    exact ret 0 _ _ _ _ _ _ _ (Nat.le_of_ble_eq_true rfl) (Nat.le_of_ble_eq_true rfl) (rfl) (⟨by first | (simp [acW, bI, c_2]; done) | (simp only [acW, c_2]; simp [bI]), by simp [acW, c_2]⟩) (hP.sub (ws' := [(pr, OB 2 [.ref ps, .int z.1.1, .int z.1.2.1, .int z.1.2.2.1, .int z.1.2.2.2.1, .int z.1.2.2.2.2.1, .int z.1.2.2.2.2.2]), (ps, OB 0 [.ref pm, .ref pv, .int (nI z.2.2.2)]), (pm, AJ G 10 z.2.1), (pv, AI G 10 z.2.2.1)]) [0, 1, 2, 3] rfl) (hD.sub (ws' := [(pr, OB 2 [.ref ps, .int z.1.1, .int z.1.2.1, .int z.1.2.2.1, .int z.1.2.2.2.1, .int z.1.2.2.2.2.1, .int z.1.2.2.2.2.2]), (ps, OB 0 [.ref pm, .ref pv, .int (nI z.2.2.2)]), (pm, AJ G 10 z.2.1), (pv, AI G 10 z.2.2.1)]) [0, 1, 2, 3] (by decide) rfl) hS dX2_acceptWeight_12
  ·
    refine lv_iload_n hx hb dX2_acceptWeight_5 rfl (lv_at hl 1 rfl) ?_
    refine lv_bipush (v := 9) hx hb dX2_acceptWeight_6 (by decide) ?_
    refine lv_icmp_le (tgt := 13) hx hb dX2_acceptWeight_8 (by decide) (fun c_8 => ?_) (fun c_8 => ?_)
    ·
      have c_8 : ¬ 9 < tk := Int32.not_lt.mpr c_8
      refine lv_aload_n hx hb dX2_acceptWeight_13 rfl (lv_at hl 0 rfl) ?_
      refine lv_iload_n hx hb dX2_acceptWeight_14 rfl (lv_at hl 1 rfl) ?_
      refine va_put (D := G.1) (ci := 2) (v := .int tk) (ty := .int) (C := RX2) (T := TX2) (N := 7) hx hb hts hi2 tyX2 tyX2_ok nmX2 hown hK hP hD hS 0 rfl rfl 4 (by decide) (hts (.fieldLink RX2 98 "ConflictEnumerator$Parser" "weight" "I") (List.mem_of_getElem? (i := 1) rfl)) (fun _ h9 => h9) rfl (by decide +kernel) rfl rfl (Nat.le_of_ble_eq_true rfl) dX2_acceptWeight_15 (fun H locs hP hD hS => ?_)
      have hP : va_P G.1 vwCl [(pr, OB 2 [.ref ps, .int z.1.1, .int z.1.2.1, .int z.1.2.2.1, .int tk, .int z.1.2.2.2.2.1, .int z.1.2.2.2.2.2]), (ps, OB 0 [.ref pm, .ref pv, .int (nI z.2.2.2)]), (pm, AJ G 10 z.2.1), (pv, AI G 10 z.2.2.1)] H := hP
      have hD : va_D A [(pr, OB 2 [.ref ps, .int z.1.1, .int z.1.2.1, .int z.1.2.2.1, .int tk, .int z.1.2.2.2.2.1, .int z.1.2.2.2.2.2]), (ps, OB 0 [.ref pm, .ref pv, .int (nI z.2.2.2)]), (pm, AJ G 10 z.2.1), (pv, AI G 10 z.2.2.1)] := hD
      refine lv_aload_n hx hb dX2_acceptWeight_18 rfl (lv_at hl 0 rfl) ?_
      refine lv_bipush (v := 7) hx hb dX2_acceptWeight_19 (by decide) ?_
      refine va_put (D := G.1) (ci := 2) (v := .int 7) (ty := .int) (C := RX2) (T := TX2) (N := 7) hx hb hts hi2 tyX2 tyX2_ok nmX2 hown hK hP hD hS 0 rfl rfl 1 (by decide) (hts (.fieldLink RX2 21 "ConflictEnumerator$Parser" "place" "I") (List.mem_of_getElem? (i := 2) rfl)) (fun _ h9 => h9) rfl (by decide +kernel) rfl rfl (Nat.le_of_ble_eq_true rfl) dX2_acceptWeight_21 (fun H locs hP hD hS => ?_)
      have hP : va_P G.1 vwCl [(pr, OB 2 [.ref ps, .int 7, .int z.1.2.1, .int z.1.2.2.1, .int tk, .int z.1.2.2.2.2.1, .int z.1.2.2.2.2.2]), (ps, OB 0 [.ref pm, .ref pv, .int (nI z.2.2.2)]), (pm, AJ G 10 z.2.1), (pv, AI G 10 z.2.2.1)] H := hP
      have hD : va_D A [(pr, OB 2 [.ref ps, .int 7, .int z.1.2.1, .int z.1.2.2.1, .int tk, .int z.1.2.2.2.2.1, .int z.1.2.2.2.2.2]), (ps, OB 0 [.ref pm, .ref pv, .int (nI z.2.2.2)]), (pm, AJ G 10 z.2.1), (pv, AI G 10 z.2.2.1)] := hD
      refine lv_iconst (v := 1) hx hb dX2_acceptWeight_24 (by decide) ?_
      exact ret 1 _ _ _ _ _ _ _ (Nat.le_of_ble_eq_true rfl) (Nat.le_of_ble_eq_true rfl) (rfl) (⟨by first | (simp [acW, bI, c_2, c_8]; done) | (simp only [acW, c_2, c_8]; simp [bI]), by simp [acW, c_2, c_8]⟩) (hP.sub (ws' := [(pr, OB 2 [.ref ps, .int 7, .int z.1.2.1, .int z.1.2.2.1, .int tk, .int z.1.2.2.2.2.1, .int z.1.2.2.2.2.2]), (ps, OB 0 [.ref pm, .ref pv, .int (nI z.2.2.2)]), (pm, AJ G 10 z.2.1), (pv, AI G 10 z.2.2.1)]) [0, 1, 2, 3] rfl) (hD.sub (ws' := [(pr, OB 2 [.ref ps, .int 7, .int z.1.2.1, .int z.1.2.2.1, .int tk, .int z.1.2.2.2.2.1, .int z.1.2.2.2.2.2]), (ps, OB 0 [.ref pm, .ref pv, .int (nI z.2.2.2)]), (pm, AJ G 10 z.2.1), (pv, AI G 10 z.2.2.1)]) [0, 1, 2, 3] (by decide) rfl) hS dX2_acceptWeight_25
    ·
      have c_8 : 9 < tk := Int32.not_le.mp c_8
      refine lv_iconst (v := 0) hx hb dX2_acceptWeight_11 (by decide) ?_
      exact ret 0 _ _ _ _ _ _ _ (Nat.le_of_ble_eq_true rfl) (Nat.le_of_ble_eq_true rfl) (rfl) (⟨by first | (simp [acW, bI, c_2, c_8]; done) | (simp only [acW, c_2, c_8]; simp [bI]), by simp [acW, c_2, c_8]⟩) (hP.sub (ws' := [(pr, OB 2 [.ref ps, .int z.1.1, .int z.1.2.1, .int z.1.2.2.1, .int z.1.2.2.2.1, .int z.1.2.2.2.2.1, .int z.1.2.2.2.2.2]), (ps, OB 0 [.ref pm, .ref pv, .int (nI z.2.2.2)]), (pm, AJ G 10 z.2.1), (pv, AI G 10 z.2.2.1)]) [0, 1, 2, 3] rfl) (hD.sub (ws' := [(pr, OB 2 [.ref ps, .int z.1.1, .int z.1.2.1, .int z.1.2.2.1, .int z.1.2.2.2.1, .int z.1.2.2.2.2.1, .int z.1.2.2.2.2.2]), (ps, OB 0 [.ref pm, .ref pv, .int (nI z.2.2.2)]), (pm, AJ G 10 z.2.1), (pv, AI G 10 z.2.2.1)]) [0, 1, 2, 3] (by decide) rfl) hS dX2_acceptWeight_12
abbrev rmX2_acceptEnd : Room := { frames := 2, cells := 0, slots := 0, locals := 45 }
set_option maxHeartbeats 4000000 in
set_option maxRecDepth 100000 in
theorem c_X2_acceptEnd (l : Launch) (G : GT) (pr ps pm pv : Nat) (z : CS) (tk : Int32) (hn9 : tk = 11 → z.2.2.2 < 10) : Ci l yX2_acceptEnd wsX2_acceptEnd rmX2_acceptEnd G [.ref pr, .int tk] [(pr, OB 2 [.ref ps, .int z.1.1, .int z.1.2.1, .int z.1.2.2.1, .int z.1.2.2.2.1, .int z.1.2.2.2.2.1, .int z.1.2.2.2.2.2]), (ps, OB 0 [.ref pm, .ref pv, .int (nI z.2.2.2)]), (pm, AJ G 10 z.2.1), (pv, AI G 10 z.2.2.1)] (fun r u => r = bI (acE tk z).1 ∧ u = [(pr, OB 2 [.ref ps, .int (((acE tk z).2).1.1), .int (((acE tk z).2).1.2.1), .int (((acE tk z).2).1.2.2.1), .int (((acE tk z).2).1.2.2.2.1), .int (((acE tk z).2).1.2.2.2.2.1), .int (((acE tk z).2).1.2.2.2.2.2)]), (ps, OB 0 [.ref pm, .ref pv, .int (nI (((acE tk z).2).2.2.2))]), (pm, AJ G 10 (((acE tk z).2).2.1)), (pv, AI G 10 (((acE tk z).2).2.2.1))]) := by
  refine Ci.of (cc := cX2_acceptEnd) (maxL := 2) (ty := .boolean) (by decide) rfl (Nat.le_of_ble_eq_true rfl) ?_
  intro p e s m below meth c A ls Q hx hb hml hts hown hA hS hP hK hN hSS hD hl ret
  have hown : s.vm.findClass RX2 = some m.cls := hown
  have hl : lv_has ls 2 [(0, .ref pr), (1, .int tk)] := hl
  have hi2 : ∀ w ∈ wsX20, w ∈ wsX2_acceptEnd := mem_places [32, 33, 34, 35, 36, 37, 38] (by decide +kernel)
  refine lv_iload_n hx hb dX2_acceptEnd_0 rfl (lv_at hl 1 rfl) ?_
  refine lv_bipush (v := 11) hx hb dX2_acceptEnd_1 (by decide) ?_
  refine lv_icmp_eq (tgt := 8) hx hb dX2_acceptEnd_3 (by decide) (fun c_3 => ?_) (fun c_3 => ?_)
  ·
    have hn8 := hn9 c_3
    refine lv_aload_n hx hb dX2_acceptEnd_8 rfl (lv_at hl 0 rfl) ?_
    refine va_get (D := G.1) (ci := 2) (v := .ref ps) (C := RX2) (T := TX2) (N := 7) hx hb hts hi2 hown hK hP 0 rfl rfl 0 (by decide) (hts (.fieldLink RX2 12 "ConflictEnumerator$Parser" "parsed" "LConflictEnumerator$Constraints;") (List.mem_of_getElem? (i := 1) rfl)) (fun _ h9 => h9) rfl dX2_acceptEnd_9 ?_
    refine lv_aload_n hx hb dX2_acceptEnd_12 rfl (lv_at hl 0 rfl) ?_
    refine call_Vl (rest := [.ref ps]) (As := []) (wr := [(ps, OB 0 [.ref pm, .ref pv, .int (nI z.2.2.2)]), (pm, AJ G 10 z.2.1), (pv, AI G 10 z.2.2.1)]) (c1 := 0) (s1 := 0) ⟨hx, hb, hml, hown, hts⟩ (c_X2_modelsOfBody l G pr ps z.1.1 z.1.2.1 z.1.2.2.1 z.1.2.2.2.1 z.1.2.2.2.2.1 z.1.2.2.2.2.2 ) (cwV 0 hts gX2_acceptEnd_X2_modelsOfBody rfl rfl rfl (by decide +kernel) ⟨Nat.le_of_ble_eq_true rfl, Nat.le_of_ble_eq_true rfl⟩) hK hN hSS hP hD hS hA 0 2 rfl rfl rfl [0] [1, 2, 3] rfl rfl (by decide) (by decide) (by decide) rfl hl.1 rfl (Nat.le_of_ble_eq_true rfl) dX2_acceptEnd_13 ⟨Nat.le_of_ble_eq_true rfl, Nat.le_of_ble_eq_true rfl⟩ rfl rfl (fun r_13 u_13 H locs hpo hP hD hS => ?_)
    obtain ⟨hr9, rfl⟩ := hpo
    subst r_13
    have hP : va_P G.1 vwCl [(ps, OB 0 [.ref pm, .ref pv, .int (nI z.2.2.2)]), (pm, AJ G 10 z.2.1), (pv, AI G 10 z.2.2.1), (pr, OB 2 [.ref ps, .int z.1.1, .int z.1.2.1, .int z.1.2.2.1, .int z.1.2.2.2.1, .int z.1.2.2.2.2.1, .int z.1.2.2.2.2.2])] H := hP
    have hD : va_D A [(ps, OB 0 [.ref pm, .ref pv, .int (nI z.2.2.2)]), (pm, AJ G 10 z.2.1), (pv, AI G 10 z.2.2.1), (pr, OB 2 [.ref ps, .int z.1.1, .int z.1.2.1, .int z.1.2.2.1, .int z.1.2.2.2.1, .int z.1.2.2.2.2.1, .int z.1.2.2.2.2.2])] := hD
    refine lv_aload_n hx hb dX2_acceptEnd_16 rfl (lv_at hl 0 rfl) ?_
    refine va_get (D := G.1) (ci := 2) (v := .int z.1.2.2.2.1) (C := RX2) (T := TX2) (N := 7) hx hb hts hi2 hown hK hP 3 rfl rfl 4 (by decide) (hts (.fieldLink RX2 98 "ConflictEnumerator$Parser" "weight" "I") (List.mem_of_getElem? (i := 2) rfl)) (fun _ h9 => h9) rfl dX2_acceptEnd_17 ?_
    refine call_Vv (rest := []) (As := [.long (modB z.1.2.1 z.1.2.2.1 z.1.2.2.2.2.1 z.1.2.2.2.2.2 64), .int z.1.2.2.2.1]) (wr := [(pr, OB 2 [.ref ps, .int z.1.1, .int z.1.2.1, .int z.1.2.2.1, .int z.1.2.2.2.1, .int z.1.2.2.2.2.1, .int z.1.2.2.2.2.2])]) (c1 := 0) (s1 := 0) ⟨hx, hb, hml, hown, hts⟩ (c_X0_add l G ps pm pv z.2.1 z.2.2.1 z.2.2.2 (modB z.1.2.1 z.1.2.2.1 z.1.2.2.2.2.1 z.1.2.2.2.2.2 64) z.1.2.2.2.1 (by first | assumption | omega)) (cwV 2 hts gX2_acceptEnd_X0_add rfl rfl rfl (by decide +kernel) ⟨Nat.le_of_ble_eq_true rfl, Nat.le_of_ble_eq_true rfl⟩) hK hN hSS hP hD hS hA 0 0 rfl rfl rfl [0, 1, 2] [3] rfl rfl (by decide) (by decide) (by decide) rfl hl.1 rfl (Nat.le_of_ble_eq_true rfl) dX2_acceptEnd_20 ⟨Nat.le_of_ble_eq_true rfl, Nat.le_of_ble_eq_true rfl⟩ rfl rfl (fun u_20 H locs hpo hP hD hS => ?_)
    subst hpo
    have hP : va_P G.1 vwCl [(pr, OB 2 [.ref ps, .int z.1.1, .int z.1.2.1, .int z.1.2.2.1, .int z.1.2.2.2.1, .int z.1.2.2.2.2.1, .int z.1.2.2.2.2.2]), (ps, OB 0 [.ref pm, .ref pv, .int (nI (z.2.2.2 + 1))]), (pm, AJ G 10 (va_up z.2.1 z.2.2.2 (modB z.1.2.1 z.1.2.2.1 z.1.2.2.2.2.1 z.1.2.2.2.2.2 64))), (pv, AI G 10 (va_up z.2.2.1 z.2.2.2 z.1.2.2.2.1))] H := hP
    have hD : va_D A [(pr, OB 2 [.ref ps, .int z.1.1, .int z.1.2.1, .int z.1.2.2.1, .int z.1.2.2.2.1, .int z.1.2.2.2.2.1, .int z.1.2.2.2.2.2]), (ps, OB 0 [.ref pm, .ref pv, .int (nI (z.2.2.2 + 1))]), (pm, AJ G 10 (va_up z.2.1 z.2.2.2 (modB z.1.2.1 z.1.2.2.1 z.1.2.2.2.2.1 z.1.2.2.2.2.2 64))), (pv, AI G 10 (va_up z.2.2.1 z.2.2.2 z.1.2.2.2.1))] := hD
    refine lv_aload_n hx hb dX2_acceptEnd_23 rfl (lv_at hl 0 rfl) ?_
    refine lv_iconst (v := 0) hx hb dX2_acceptEnd_24 (by decide) ?_
    refine va_put (D := G.1) (ci := 2) (v := .int 0) (ty := .int) (C := RX2) (T := TX2) (N := 7) hx hb hts hi2 tyX2 tyX2_ok nmX2 hown hK hP hD hS 0 rfl rfl 1 (by decide) (hts (.fieldLink RX2 21 "ConflictEnumerator$Parser" "place" "I") (List.mem_of_getElem? (i := 3) rfl)) (fun _ h9 => h9) rfl (by decide +kernel) rfl rfl (Nat.le_of_ble_eq_true rfl) dX2_acceptEnd_25 (fun H locs hP hD hS => ?_)
    have hP : va_P G.1 vwCl [(pr, OB 2 [.ref ps, .int 0, .int z.1.2.1, .int z.1.2.2.1, .int z.1.2.2.2.1, .int z.1.2.2.2.2.1, .int z.1.2.2.2.2.2]), (ps, OB 0 [.ref pm, .ref pv, .int (nI (z.2.2.2 + 1))]), (pm, AJ G 10 (va_up z.2.1 z.2.2.2 (modB z.1.2.1 z.1.2.2.1 z.1.2.2.2.2.1 z.1.2.2.2.2.2 64))), (pv, AI G 10 (va_up z.2.2.1 z.2.2.2 z.1.2.2.2.1))] H := hP
    have hD : va_D A [(pr, OB 2 [.ref ps, .int 0, .int z.1.2.1, .int z.1.2.2.1, .int z.1.2.2.2.1, .int z.1.2.2.2.2.1, .int z.1.2.2.2.2.2]), (ps, OB 0 [.ref pm, .ref pv, .int (nI (z.2.2.2 + 1))]), (pm, AJ G 10 (va_up z.2.1 z.2.2.2 (modB z.1.2.1 z.1.2.2.1 z.1.2.2.2.2.1 z.1.2.2.2.2.2 64))), (pv, AI G 10 (va_up z.2.2.1 z.2.2.2 z.1.2.2.2.1))] := hD
    refine lv_iconst (v := 1) hx hb dX2_acceptEnd_28 (by decide) ?_
    exact ret 1 _ _ _ _ _ _ _ (Nat.le_of_ble_eq_true rfl) (Nat.le_of_ble_eq_true rfl) (rfl) (⟨by first | (simp [acE, bI, c_3]; done) | (simp only [acE, c_3]; simp [bI]), by simp [acE, c_3]⟩) (hP.sub (ws' := [(pr, OB 2 [.ref ps, .int 0, .int z.1.2.1, .int z.1.2.2.1, .int z.1.2.2.2.1, .int z.1.2.2.2.2.1, .int z.1.2.2.2.2.2]), (ps, OB 0 [.ref pm, .ref pv, .int (nI (z.2.2.2 + 1))]), (pm, AJ G 10 (va_up z.2.1 z.2.2.2 (modB z.1.2.1 z.1.2.2.1 z.1.2.2.2.2.1 z.1.2.2.2.2.2 64))), (pv, AI G 10 (va_up z.2.2.1 z.2.2.2 z.1.2.2.2.1))]) [0, 1, 2, 3] rfl) (hD.sub (ws' := [(pr, OB 2 [.ref ps, .int 0, .int z.1.2.1, .int z.1.2.2.1, .int z.1.2.2.2.1, .int z.1.2.2.2.2.1, .int z.1.2.2.2.2.2]), (ps, OB 0 [.ref pm, .ref pv, .int (nI (z.2.2.2 + 1))]), (pm, AJ G 10 (va_up z.2.1 z.2.2.2 (modB z.1.2.1 z.1.2.2.1 z.1.2.2.2.2.1 z.1.2.2.2.2.2 64))), (pv, AI G 10 (va_up z.2.2.1 z.2.2.2 z.1.2.2.2.1))]) [0, 1, 2, 3] (by decide) rfl) hS dX2_acceptEnd_29
  ·
    refine lv_iconst (v := 0) hx hb dX2_acceptEnd_6 (by decide) ?_
    exact ret 0 _ _ _ _ _ _ _ (Nat.le_of_ble_eq_true rfl) (Nat.le_of_ble_eq_true rfl) (rfl) (⟨by first | (simp [acE, bI, c_3]; done) | (simp only [acE, c_3]; simp [bI]), by simp [acE, c_3]⟩) (hP.sub (ws' := [(pr, OB 2 [.ref ps, .int z.1.1, .int z.1.2.1, .int z.1.2.2.1, .int z.1.2.2.2.1, .int z.1.2.2.2.2.1, .int z.1.2.2.2.2.2]), (ps, OB 0 [.ref pm, .ref pv, .int (nI z.2.2.2)]), (pm, AJ G 10 z.2.1), (pv, AI G 10 z.2.2.1)]) [0, 1, 2, 3] rfl) (hD.sub (ws' := [(pr, OB 2 [.ref ps, .int z.1.1, .int z.1.2.1, .int z.1.2.2.1, .int z.1.2.2.2.1, .int z.1.2.2.2.2.1, .int z.1.2.2.2.2.2]), (ps, OB 0 [.ref pm, .ref pv, .int (nI z.2.2.2)]), (pm, AJ G 10 z.2.1), (pv, AI G 10 z.2.2.1)]) [0, 1, 2, 3] (by decide) rfl) hS dX2_acceptEnd_7
abbrev rmX2_acceptBehindLiteral : Room := { frames := 3, cells := 0, slots := 0, locals := 66 }
set_option maxHeartbeats 4000000 in
set_option maxRecDepth 100000 in
theorem c_X2_acceptBehindLiteral (l : Launch) (G : GT) (pr ps pm pv : Nat) (z : CS) (tk : Int32) (hn9 : tk = 11 → z.2.2.2 < 10) : Ci l yX2_acceptBehindLiteral wsX2_acceptBehindLiteral rmX2_acceptBehindLiteral G [.ref pr, .int tk] [(pr, OB 2 [.ref ps, .int z.1.1, .int z.1.2.1, .int z.1.2.2.1, .int z.1.2.2.2.1, .int z.1.2.2.2.2.1, .int z.1.2.2.2.2.2]), (ps, OB 0 [.ref pm, .ref pv, .int (nI z.2.2.2)]), (pm, AJ G 10 z.2.1), (pv, AI G 10 z.2.2.1)] (fun r u => r = bI (acR tk z).1 ∧ u = [(pr, OB 2 [.ref ps, .int (((acR tk z).2).1.1), .int (((acR tk z).2).1.2.1), .int (((acR tk z).2).1.2.2.1), .int (((acR tk z).2).1.2.2.2.1), .int (((acR tk z).2).1.2.2.2.2.1), .int (((acR tk z).2).1.2.2.2.2.2)]), (ps, OB 0 [.ref pm, .ref pv, .int (nI (((acR tk z).2).2.2.2))]), (pm, AJ G 10 (((acR tk z).2).2.1)), (pv, AI G 10 (((acR tk z).2).2.2.1))]) := by
  refine Ci.of (cc := cX2_acceptBehindLiteral) (maxL := 2) (ty := .boolean) (by decide) rfl (Nat.le_of_ble_eq_true rfl) ?_
  intro p e s m below meth c A ls Q hx hb hml hts hown hA hS hP hK hN hSS hD hl ret
  have hown : s.vm.findClass RX2 = some m.cls := hown
  have hl : lv_has ls 2 [(0, .ref pr), (1, .int tk)] := hl
  have hi2 : ∀ w ∈ wsX20, w ∈ wsX2_acceptBehindLiteral := mem_places [44, 45, 46, 47, 48, 49, 50] (by decide +kernel)
  refine lv_iload_n hx hb dX2_acceptBehindLiteral_0 rfl (lv_at hl 1 rfl) ?_
  refine lv_bipush (v := 11) hx hb dX2_acceptBehindLiteral_1 (by decide) ?_
  refine lv_icmp_ne (tgt := 12) hx hb dX2_acceptBehindLiteral_3 (by decide) (fun c_3 => ?_) (fun c_3 => ?_)
  ·
    refine lv_iload_n hx hb dX2_acceptBehindLiteral_12 rfl (lv_at hl 1 rfl) ?_
    refine lv_bipush (v := 16) hx hb dX2_acceptBehindLiteral_13 (by decide) ?_
    refine lv_icmp_ne (tgt := 33) hx hb dX2_acceptBehindLiteral_15 (by decide) (fun c_15 => ?_) (fun c_15 => ?_)
    ·
      refine lv_aload_n hx hb dX2_acceptBehindLiteral_33 rfl (lv_at hl 0 rfl) ?_
      refine lv_iload_n hx hb dX2_acceptBehindLiteral_34 rfl (lv_at hl 1 rfl) ?_
      refine call_Vi (rest := []) (As := [.int tk]) (wr := []) (c1 := 0) (s1 := 0) ⟨hx, hb, hml, hown, hts⟩ (c_X2_acceptLiteral l G pr ps pm pv z tk ) (cwV 1 hts gX2_acceptBehindLiteral_X2_acceptLiteral rfl rfl rfl (by decide +kernel) ⟨Nat.le_of_ble_eq_true rfl, Nat.le_of_ble_eq_true rfl⟩) hK hN hSS hP hD hS hA 0 2 rfl rfl rfl [0, 1, 2, 3] [] rfl rfl (by decide) (by decide) (by decide) rfl hl.1 rfl (Nat.le_of_ble_eq_true rfl) dX2_acceptBehindLiteral_35 ⟨Nat.le_of_ble_eq_true rfl, Nat.le_of_ble_eq_true rfl⟩ rfl rfl (fun r_35 u_35 H locs hpo hP hD hS => ?_)
      obtain ⟨hr9, rfl⟩ := hpo
      subst r_35
      have hP : va_P G.1 vwCl [(pr, OB 2 [.ref ps, .int (((acL tk z).2).1.1), .int (((acL tk z).2).1.2.1), .int (((acL tk z).2).1.2.2.1), .int (((acL tk z).2).1.2.2.2.1), .int (((acL tk z).2).1.2.2.2.2.1), .int (((acL tk z).2).1.2.2.2.2.2)]), (ps, OB 0 [.ref pm, .ref pv, .int (nI (((acL tk z).2).2.2.2))]), (pm, AJ G 10 (((acL tk z).2).2.1)), (pv, AI G 10 (((acL tk z).2).2.2.1))] H := hP
      have hD : va_D A [(pr, OB 2 [.ref ps, .int (((acL tk z).2).1.1), .int (((acL tk z).2).1.2.1), .int (((acL tk z).2).1.2.2.1), .int (((acL tk z).2).1.2.2.2.1), .int (((acL tk z).2).1.2.2.2.2.1), .int (((acL tk z).2).1.2.2.2.2.2)]), (ps, OB 0 [.ref pm, .ref pv, .int (nI (((acL tk z).2).2.2.2))]), (pm, AJ G 10 (((acL tk z).2).2.1)), (pv, AI G 10 (((acL tk z).2).2.2.1))] := hD
      exact ret (bI (acL tk z).1) _ _ _ _ _ _ _ (Nat.le_of_ble_eq_true rfl) (Nat.le_of_ble_eq_true rfl) (bI_nar _) (⟨by simp [acR, c_3, c_15], by simp [acR, c_3, c_15]⟩) (hP.sub (ws' := [(pr, OB 2 [.ref ps, .int (((acL tk z).2).1.1), .int (((acL tk z).2).1.2.1), .int (((acL tk z).2).1.2.2.1), .int (((acL tk z).2).1.2.2.2.1), .int (((acL tk z).2).1.2.2.2.2.1), .int (((acL tk z).2).1.2.2.2.2.2)]), (ps, OB 0 [.ref pm, .ref pv, .int (nI (((acL tk z).2).2.2.2))]), (pm, AJ G 10 (((acL tk z).2).2.1)), (pv, AI G 10 (((acL tk z).2).2.2.1))]) [0, 1, 2, 3] rfl) (hD.sub (ws' := [(pr, OB 2 [.ref ps, .int (((acL tk z).2).1.1), .int (((acL tk z).2).1.2.1), .int (((acL tk z).2).1.2.2.1), .int (((acL tk z).2).1.2.2.2.1), .int (((acL tk z).2).1.2.2.2.2.1), .int (((acL tk z).2).1.2.2.2.2.2)]), (ps, OB 0 [.ref pm, .ref pv, .int (nI (((acL tk z).2).2.2.2))]), (pm, AJ G 10 (((acL tk z).2).2.1)), (pv, AI G 10 (((acL tk z).2).2.2.1))]) [0, 1, 2, 3] (by decide) rfl) hS dX2_acceptBehindLiteral_38
    ·
      refine lv_aload_n hx hb dX2_acceptBehindLiteral_18 rfl (lv_at hl 0 rfl) ?_
      refine va_get (D := G.1) (ci := 2) (v := .int z.1.2.2.2.1) (C := RX2) (T := TX2) (N := 7) hx hb hts hi2 hown hK hP 0 rfl rfl 4 (by decide) (hts (.fieldLink RX2 98 "ConflictEnumerator$Parser" "weight" "I") (List.mem_of_getElem? (i := 1) rfl)) (fun _ h9 => h9) rfl dX2_acceptBehindLiteral_19 ?_
      refine lv_if_eq (tgt := 33) hx hb dX2_acceptBehindLiteral_22 (by decide) (fun c_22 => ?_) (fun c_22 => ?_)
      ·
        refine lv_aload_n hx hb dX2_acceptBehindLiteral_33 rfl (lv_at hl 0 rfl) ?_
        refine lv_iload_n hx hb dX2_acceptBehindLiteral_34 rfl (lv_at hl 1 rfl) ?_
        refine call_Vi (rest := []) (As := [.int tk]) (wr := []) (c1 := 0) (s1 := 0) ⟨hx, hb, hml, hown, hts⟩ (c_X2_acceptLiteral l G pr ps pm pv z tk ) (cwV 1 hts gX2_acceptBehindLiteral_X2_acceptLiteral rfl rfl rfl (by decide +kernel) ⟨Nat.le_of_ble_eq_true rfl, Nat.le_of_ble_eq_true rfl⟩) hK hN hSS hP hD hS hA 0 2 rfl rfl rfl [0, 1, 2, 3] [] rfl rfl (by decide) (by decide) (by decide) rfl hl.1 rfl (Nat.le_of_ble_eq_true rfl) dX2_acceptBehindLiteral_35 ⟨Nat.le_of_ble_eq_true rfl, Nat.le_of_ble_eq_true rfl⟩ rfl rfl (fun r_35 u_35 H locs hpo hP hD hS => ?_)
        obtain ⟨hr9, rfl⟩ := hpo
        subst r_35
        have hP : va_P G.1 vwCl [(pr, OB 2 [.ref ps, .int (((acL tk z).2).1.1), .int (((acL tk z).2).1.2.1), .int (((acL tk z).2).1.2.2.1), .int (((acL tk z).2).1.2.2.2.1), .int (((acL tk z).2).1.2.2.2.2.1), .int (((acL tk z).2).1.2.2.2.2.2)]), (ps, OB 0 [.ref pm, .ref pv, .int (nI (((acL tk z).2).2.2.2))]), (pm, AJ G 10 (((acL tk z).2).2.1)), (pv, AI G 10 (((acL tk z).2).2.2.1))] H := hP
        have hD : va_D A [(pr, OB 2 [.ref ps, .int (((acL tk z).2).1.1), .int (((acL tk z).2).1.2.1), .int (((acL tk z).2).1.2.2.1), .int (((acL tk z).2).1.2.2.2.1), .int (((acL tk z).2).1.2.2.2.2.1), .int (((acL tk z).2).1.2.2.2.2.2)]), (ps, OB 0 [.ref pm, .ref pv, .int (nI (((acL tk z).2).2.2.2))]), (pm, AJ G 10 (((acL tk z).2).2.1)), (pv, AI G 10 (((acL tk z).2).2.2.1))] := hD
        exact ret (bI (acL tk z).1) _ _ _ _ _ _ _ (Nat.le_of_ble_eq_true rfl) (Nat.le_of_ble_eq_true rfl) (bI_nar _) (⟨by simp [acR, c_3, c_15, c_22], by simp [acR, c_3, c_15, c_22]⟩) (hP.sub (ws' := [(pr, OB 2 [.ref ps, .int (((acL tk z).2).1.1), .int (((acL tk z).2).1.2.1), .int (((acL tk z).2).1.2.2.1), .int (((acL tk z).2).1.2.2.2.1), .int (((acL tk z).2).1.2.2.2.2.1), .int (((acL tk z).2).1.2.2.2.2.2)]), (ps, OB 0 [.ref pm, .ref pv, .int (nI (((acL tk z).2).2.2.2))]), (pm, AJ G 10 (((acL tk z).2).2.1)), (pv, AI G 10 (((acL tk z).2).2.2.1))]) [0, 1, 2, 3] rfl) (hD.sub (ws' := [(pr, OB 2 [.ref ps, .int (((acL tk z).2).1.1), .int (((acL tk z).2).1.2.1), .int (((acL tk z).2).1.2.2.1), .int (((acL tk z).2).1.2.2.2.1), .int (((acL tk z).2).1.2.2.2.2.1), .int (((acL tk z).2).1.2.2.2.2.2)]), (ps, OB 0 [.ref pm, .ref pv, .int (nI (((acL tk z).2).2.2.2))]), (pm, AJ G 10 (((acL tk z).2).2.1)), (pv, AI G 10 (((acL tk z).2).2.2.1))]) [0, 1, 2, 3] (by decide) rfl) hS dX2_acceptBehindLiteral_38
      ·
        refine lv_aload_n hx hb dX2_acceptBehindLiteral_25 rfl (lv_at hl 0 rfl) ?_
        refine lv_bipush (v := 6) hx hb dX2_acceptBehindLiteral_26 (by decide) ?_
        refine va_put (D := G.1) (ci := 2) (v := .int 6) (ty := .int) (C := RX2) (T := TX2) (N := 7) hx hb hts hi2 tyX2 tyX2_ok nmX2 hown hK hP hD hS 0 rfl rfl 1 (by decide) (hts (.fieldLink RX2 21 "ConflictEnumerator$Parser" "place" "I") (List.mem_of_getElem? (i := 2) rfl)) (fun _ h9 => h9) rfl (by decide +kernel) rfl rfl (Nat.le_of_ble_eq_true rfl) dX2_acceptBehindLiteral_28 (fun H locs hP hD hS => ?_)
        have hP : va_P G.1 vwCl [(pr, OB 2 [.ref ps, .int 6, .int z.1.2.1, .int z.1.2.2.1, .int z.1.2.2.2.1, .int z.1.2.2.2.2.1, .int z.1.2.2.2.2.2]), (ps, OB 0 [.ref pm, .ref pv, .int (nI z.2.2.2)]), (pm, AJ G 10 z.2.1), (pv, AI G 10 z.2.2.1)] H := hP
        have hD : va_D A [(pr, OB 2 [.ref ps, .int 6, .int z.1.2.1, .int z.1.2.2.1, .int z.1.2.2.2.1, .int z.1.2.2.2.2.1, .int z.1.2.2.2.2.2]), (ps, OB 0 [.ref pm, .ref pv, .int (nI z.2.2.2)]), (pm, AJ G 10 z.2.1), (pv, AI G 10 z.2.2.1)] := hD
        refine lv_iconst (v := 1) hx hb dX2_acceptBehindLiteral_31 (by decide) ?_
        exact ret 1 _ _ _ _ _ _ _ (Nat.le_of_ble_eq_true rfl) (Nat.le_of_ble_eq_true rfl) (rfl) (⟨by simp [acR, bI, c_3, c_15, c_22], by simp [acR, c_3, c_15, c_22]⟩) (hP.sub (ws' := [(pr, OB 2 [.ref ps, .int 6, .int z.1.2.1, .int z.1.2.2.1, .int z.1.2.2.2.1, .int z.1.2.2.2.2.1, .int z.1.2.2.2.2.2]), (ps, OB 0 [.ref pm, .ref pv, .int (nI z.2.2.2)]), (pm, AJ G 10 z.2.1), (pv, AI G 10 z.2.2.1)]) [0, 1, 2, 3] rfl) (hD.sub (ws' := [(pr, OB 2 [.ref ps, .int 6, .int z.1.2.1, .int z.1.2.2.1, .int z.1.2.2.2.1, .int z.1.2.2.2.2.1, .int z.1.2.2.2.2.2]), (ps, OB 0 [.ref pm, .ref pv, .int (nI z.2.2.2)]), (pm, AJ G 10 z.2.1), (pv, AI G 10 z.2.2.1)]) [0, 1, 2, 3] (by decide) rfl) hS dX2_acceptBehindLiteral_32
  ·
    refine lv_aload_n hx hb dX2_acceptBehindLiteral_6 rfl (lv_at hl 0 rfl) ?_
    refine lv_iload_n hx hb dX2_acceptBehindLiteral_7 rfl (lv_at hl 1 rfl) ?_
    refine call_Vi (rest := []) (As := [.int tk]) (wr := []) (c1 := 0) (s1 := 0) ⟨hx, hb, hml, hown, hts⟩ (c_X2_acceptEnd l G pr ps pm pv z tk (by first | assumption | omega)) (cwV 1 hts gX2_acceptBehindLiteral_X2_acceptEnd rfl rfl rfl (by decide +kernel) ⟨Nat.le_of_ble_eq_true rfl, Nat.le_of_ble_eq_true rfl⟩) hK hN hSS hP hD hS hA 0 2 rfl rfl rfl [0, 1, 2, 3] [] rfl rfl (by decide) (by decide) (by decide) rfl hl.1 rfl (Nat.le_of_ble_eq_true rfl) dX2_acceptBehindLiteral_8 ⟨Nat.le_of_ble_eq_true rfl, Nat.le_of_ble_eq_true rfl⟩ rfl rfl (fun r_8 u_8 H locs hpo hP hD hS => ?_)
    obtain ⟨hr9, rfl⟩ := hpo
    subst r_8
    have hP : va_P G.1 vwCl [(pr, OB 2 [.ref ps, .int (((acE tk z).2).1.1), .int (((acE tk z).2).1.2.1), .int (((acE tk z).2).1.2.2.1), .int (((acE tk z).2).1.2.2.2.1), .int (((acE tk z).2).1.2.2.2.2.1), .int (((acE tk z).2).1.2.2.2.2.2)]), (ps, OB 0 [.ref pm, .ref pv, .int (nI (((acE tk z).2).2.2.2))]), (pm, AJ G 10 (((acE tk z).2).2.1)), (pv, AI G 10 (((acE tk z).2).2.2.1))] H := hP
    have hD : va_D A [(pr, OB 2 [.ref ps, .int (((acE tk z).2).1.1), .int (((acE tk z).2).1.2.1), .int (((acE tk z).2).1.2.2.1), .int (((acE tk z).2).1.2.2.2.1), .int (((acE tk z).2).1.2.2.2.2.1), .int (((acE tk z).2).1.2.2.2.2.2)]), (ps, OB 0 [.ref pm, .ref pv, .int (nI (((acE tk z).2).2.2.2))]), (pm, AJ G 10 (((acE tk z).2).2.1)), (pv, AI G 10 (((acE tk z).2).2.2.1))] := hD
    exact ret (bI (acE tk z).1) _ _ _ _ _ _ _ (Nat.le_of_ble_eq_true rfl) (Nat.le_of_ble_eq_true rfl) (bI_nar _) (⟨by simp [acR, c_3], by simp [acR, c_3]⟩) (hP.sub (ws' := [(pr, OB 2 [.ref ps, .int (((acE tk z).2).1.1), .int (((acE tk z).2).1.2.1), .int (((acE tk z).2).1.2.2.1), .int (((acE tk z).2).1.2.2.2.1), .int (((acE tk z).2).1.2.2.2.2.1), .int (((acE tk z).2).1.2.2.2.2.2)]), (ps, OB 0 [.ref pm, .ref pv, .int (nI (((acE tk z).2).2.2.2))]), (pm, AJ G 10 (((acE tk z).2).2.1)), (pv, AI G 10 (((acE tk z).2).2.2.1))]) [0, 1, 2, 3] rfl) (hD.sub (ws' := [(pr, OB 2 [.ref ps, .int (((acE tk z).2).1.1), .int (((acE tk z).2).1.2.1), .int (((acE tk z).2).1.2.2.1), .int (((acE tk z).2).1.2.2.2.1), .int (((acE tk z).2).1.2.2.2.2.1), .int (((acE tk z).2).1.2.2.2.2.2)]), (ps, OB 0 [.ref pm, .ref pv, .int (nI (((acE tk z).2).2.2.2))]), (pm, AJ G 10 (((acE tk z).2).2.1)), (pv, AI G 10 (((acE tk z).2).2.2.1))]) [0, 1, 2, 3] (by decide) rfl) hS dX2_acceptBehindLiteral_11
abbrev rmX2_acceptConstraint : Room := { frames := 1, cells := 0, slots := 0, locals := 21 }
set_option maxHeartbeats 4000000 in
set_option maxRecDepth 100000 in
theorem c_X2_acceptConstraint (l : Launch) (G : GT) (pr ps pm pv : Nat) (z : CS) (tk : Int32) (hn9 : z.2.2.2 ≤ 10) : Ci l yX2_acceptConstraint wsX2_acceptConstraint rmX2_acceptConstraint G [.ref pr, .int tk] [(pr, OB 2 [.ref ps, .int z.1.1, .int z.1.2.1, .int z.1.2.2.1, .int z.1.2.2.2.1, .int z.1.2.2.2.2.1, .int z.1.2.2.2.2.2]), (ps, OB 0 [.ref pm, .ref pv, .int (nI z.2.2.2)]), (pm, AJ G 10 z.2.1), (pv, AI G 10 z.2.2.1)] (fun r u => r = bI (acC tk z).1 ∧ u = [(pr, OB 2 [.ref ps, .int (((acC tk z).2).1.1), .int (((acC tk z).2).1.2.1), .int (((acC tk z).2).1.2.2.1), .int (((acC tk z).2).1.2.2.2.1), .int (((acC tk z).2).1.2.2.2.2.1), .int (((acC tk z).2).1.2.2.2.2.2)]), (ps, OB 0 [.ref pm, .ref pv, .int (nI (((acC tk z).2).2.2.2))]), (pm, AJ G 10 (((acC tk z).2).2.1)), (pv, AI G 10 (((acC tk z).2).2.2.1))]) := by
  refine Ci.of (cc := cX2_acceptConstraint) (maxL := 2) (ty := .boolean) (by decide) rfl (Nat.le_of_ble_eq_true rfl) ?_
  intro p e s m below meth c A ls Q hx hb hml hts hown hA hS hP hK hN hSS hD hl ret
  have hown : s.vm.findClass RX2 = some m.cls := hown
  have hl : lv_has ls 2 [(0, .ref pr), (1, .int tk)] := hl
  have hi2 : ∀ w ∈ wsX20, w ∈ wsX2_acceptConstraint := mem_places [18, 19, 20, 21, 22, 23, 24] (by decide +kernel)
  refine lv_aload_n hx hb dX2_acceptConstraint_0 rfl (lv_at hl 0 rfl) ?_
  refine va_get (D := G.1) (ci := 2) (v := .ref ps) (C := RX2) (T := TX2) (N := 7) hx hb hts hi2 hown hK hP 0 rfl rfl 0 (by decide) (hts (.fieldLink RX2 12 "ConflictEnumerator$Parser" "parsed" "LConflictEnumerator$Constraints;") (List.mem_of_getElem? (i := 1) rfl)) (fun _ h9 => h9) rfl dX2_acceptConstraint_1 ?_
  refine call_Vi (rest := []) (As := []) (wr := [(pr, OB 2 [.ref ps, .int z.1.1, .int z.1.2.1, .int z.1.2.2.1, .int z.1.2.2.2.1, .int z.1.2.2.2.2.1, .int z.1.2.2.2.2.2])]) (c1 := 0) (s1 := 0) ⟨hx, hb, hml, hown, hts⟩ (c_X0_isFull l G ps pm pv z.2.1 z.2.2.1 z.2.2.2 (by first | assumption | omega)) (cwV 0 hts gX2_acceptConstraint_X0_isFull rfl rfl rfl (by decide +kernel) ⟨Nat.le_of_ble_eq_true rfl, Nat.le_of_ble_eq_true rfl⟩) hK hN hSS hP hD hS hA 0 0 rfl rfl rfl [1, 2, 3] [0] rfl rfl (by decide) (by decide) (by decide) rfl hl.1 rfl (Nat.le_of_ble_eq_true rfl) dX2_acceptConstraint_4 ⟨Nat.le_of_ble_eq_true rfl, Nat.le_of_ble_eq_true rfl⟩ rfl rfl (fun r_4 u_4 H locs hpo hP hD hS => ?_)
  obtain ⟨hr9, rfl⟩ := hpo
  subst r_4
  have hP : va_P G.1 vwCl [(pr, OB 2 [.ref ps, .int z.1.1, .int z.1.2.1, .int z.1.2.2.1, .int z.1.2.2.2.1, .int z.1.2.2.2.2.1, .int z.1.2.2.2.2.2]), (ps, OB 0 [.ref pm, .ref pv, .int (nI z.2.2.2)]), (pm, AJ G 10 z.2.1), (pv, AI G 10 z.2.2.1)] H := hP
  have hD : va_D A [(pr, OB 2 [.ref ps, .int z.1.1, .int z.1.2.1, .int z.1.2.2.1, .int z.1.2.2.2.1, .int z.1.2.2.2.2.1, .int z.1.2.2.2.2.2]), (ps, OB 0 [.ref pm, .ref pv, .int (nI z.2.2.2)]), (pm, AJ G 10 z.2.1), (pv, AI G 10 z.2.2.1)] := hD
  refine wb_eq (tgt := 12) hx hb dX2_acceptConstraint_7 (by decide) (fun c_7 => ?_) (fun c_7 => ?_)
  ·
    have c_7 : ¬ 10 ≤ z.2.2.2 := by simpa using c_7
    refine lv_aload_n hx hb dX2_acceptConstraint_12 rfl (lv_at hl 0 rfl) ?_
    refine lv_iconst (v := 0) hx hb dX2_acceptConstraint_13 (by decide) ?_
    refine va_put (D := G.1) (ci := 2) (v := .int 0) (ty := .int) (C := RX2) (T := TX2) (N := 7) hx hb hts hi2 tyX2 tyX2_ok nmX2 hown hK hP hD hS 0 rfl rfl 5 (by decide) (hts (.fieldLink RX2 92 "ConflictEnumerator$Parser" "positive" "I") (List.mem_of_getElem? (i := 2) rfl)) (fun _ h9 => h9) rfl (by decide +kernel) rfl rfl (Nat.le_of_ble_eq_true rfl) dX2_acceptConstraint_14 (fun H locs hP hD hS => ?_)
    have hP : va_P G.1 vwCl [(pr, OB 2 [.ref ps, .int z.1.1, .int z.1.2.1, .int z.1.2.2.1, .int z.1.2.2.2.1, .int 0, .int z.1.2.2.2.2.2]), (ps, OB 0 [.ref pm, .ref pv, .int (nI z.2.2.2)]), (pm, AJ G 10 z.2.1), (pv, AI G 10 z.2.2.1)] H := hP
    have hD : va_D A [(pr, OB 2 [.ref ps, .int z.1.1, .int z.1.2.1, .int z.1.2.2.1, .int z.1.2.2.2.1, .int 0, .int z.1.2.2.2.2.2]), (ps, OB 0 [.ref pm, .ref pv, .int (nI z.2.2.2)]), (pm, AJ G 10 z.2.1), (pv, AI G 10 z.2.2.1)] := hD
    refine lv_aload_n hx hb dX2_acceptConstraint_17 rfl (lv_at hl 0 rfl) ?_
    refine lv_iconst (v := 0) hx hb dX2_acceptConstraint_18 (by decide) ?_
    refine va_put (D := G.1) (ci := 2) (v := .int 0) (ty := .int) (C := RX2) (T := TX2) (N := 7) hx hb hts hi2 tyX2 tyX2_ok nmX2 hown hK hP hD hS 0 rfl rfl 6 (by decide) (hts (.fieldLink RX2 95 "ConflictEnumerator$Parser" "negative" "I") (List.mem_of_getElem? (i := 3) rfl)) (fun _ h9 => h9) rfl (by decide +kernel) rfl rfl (Nat.le_of_ble_eq_true rfl) dX2_acceptConstraint_19 (fun H locs hP hD hS => ?_)
    have hP : va_P G.1 vwCl [(pr, OB 2 [.ref ps, .int z.1.1, .int z.1.2.1, .int z.1.2.2.1, .int z.1.2.2.2.1, .int 0, .int 0]), (ps, OB 0 [.ref pm, .ref pv, .int (nI z.2.2.2)]), (pm, AJ G 10 z.2.1), (pv, AI G 10 z.2.2.1)] H := hP
    have hD : va_D A [(pr, OB 2 [.ref ps, .int z.1.1, .int z.1.2.1, .int z.1.2.2.1, .int z.1.2.2.2.1, .int 0, .int 0]), (ps, OB 0 [.ref pm, .ref pv, .int (nI z.2.2.2)]), (pm, AJ G 10 z.2.1), (pv, AI G 10 z.2.2.1)] := hD
    refine lv_aload_n hx hb dX2_acceptConstraint_22 rfl (lv_at hl 0 rfl) ?_
    refine lv_iconst (v := 1) hx hb dX2_acceptConstraint_23 (by decide) ?_
    refine va_put (D := G.1) (ci := 2) (v := .int 1) (ty := .int) (C := RX2) (T := TX2) (N := 7) hx hb hts hi2 tyX2 tyX2_ok nmX2 hown hK hP hD hS 0 rfl rfl 4 (by decide) (hts (.fieldLink RX2 98 "ConflictEnumerator$Parser" "weight" "I") (List.mem_of_getElem? (i := 4) rfl)) (fun _ h9 => h9) rfl (by decide +kernel) rfl rfl (Nat.le_of_ble_eq_true rfl) dX2_acceptConstraint_24 (fun H locs hP hD hS => ?_)
    have hP : va_P G.1 vwCl [(pr, OB 2 [.ref ps, .int z.1.1, .int z.1.2.1, .int z.1.2.2.1, .int 1, .int 0, .int 0]), (ps, OB 0 [.ref pm, .ref pv, .int (nI z.2.2.2)]), (pm, AJ G 10 z.2.1), (pv, AI G 10 z.2.2.1)] H := hP
    have hD : va_D A [(pr, OB 2 [.ref ps, .int z.1.1, .int z.1.2.1, .int z.1.2.2.1, .int 1, .int 0, .int 0]), (ps, OB 0 [.ref pm, .ref pv, .int (nI z.2.2.2)]), (pm, AJ G 10 z.2.1), (pv, AI G 10 z.2.2.1)] := hD
    refine lv_iload_n hx hb dX2_acceptConstraint_27 rfl (lv_at hl 1 rfl) ?_
    refine lv_bipush (v := 15) hx hb dX2_acceptConstraint_28 (by decide) ?_
    refine lv_icmp_ne (tgt := 45) hx hb dX2_acceptConstraint_30 (by decide) (fun c_30 => ?_) (fun c_30 => ?_)
    ·
      refine lv_aload_n hx hb dX2_acceptConstraint_45 rfl (lv_at hl 0 rfl) ?_
      refine lv_iload_n hx hb dX2_acceptConstraint_46 rfl (lv_at hl 1 rfl) ?_
      refine call_Vi (rest := []) (As := [.int tk]) (wr := []) (c1 := 0) (s1 := 0) ⟨hx, hb, hml, hown, hts⟩ (c_X2_acceptKind l G pr ps pm pv ((z.1.1, z.1.2.1, z.1.2.2.1, 1, 0, 0), z.2) tk ) (cwV 1 hts gX2_acceptConstraint_X2_acceptKind rfl rfl rfl (by decide +kernel) ⟨Nat.le_of_ble_eq_true rfl, Nat.le_of_ble_eq_true rfl⟩) hK hN hSS hP hD hS hA 0 2 rfl rfl rfl [0, 1, 2, 3] [] rfl rfl (by decide) (by decide) (by decide) rfl hl.1 rfl (Nat.le_of_ble_eq_true rfl) dX2_acceptConstraint_47 ⟨Nat.le_of_ble_eq_true rfl, Nat.le_of_ble_eq_true rfl⟩ rfl rfl (fun r_47 u_47 H locs hpo hP hD hS => ?_)
      obtain ⟨hr9, rfl⟩ := hpo
      subst r_47
      have hP : va_P G.1 vwCl [(pr, OB 2 [.ref ps, .int (((acK tk ((z.1.1, z.1.2.1, z.1.2.2.1, 1, 0, 0), z.2)).2).1.1), .int (((acK tk ((z.1.1, z.1.2.1, z.1.2.2.1, 1, 0, 0), z.2)).2).1.2.1), .int (((acK tk ((z.1.1, z.1.2.1, z.1.2.2.1, 1, 0, 0), z.2)).2).1.2.2.1), .int (((acK tk ((z.1.1, z.1.2.1, z.1.2.2.1, 1, 0, 0), z.2)).2).1.2.2.2.1), .int (((acK tk ((z.1.1, z.1.2.1, z.1.2.2.1, 1, 0, 0), z.2)).2).1.2.2.2.2.1), .int (((acK tk ((z.1.1, z.1.2.1, z.1.2.2.1, 1, 0, 0), z.2)).2).1.2.2.2.2.2)]), (ps, OB 0 [.ref pm, .ref pv, .int (nI (((acK tk ((z.1.1, z.1.2.1, z.1.2.2.1, 1, 0, 0), z.2)).2).2.2.2))]), (pm, AJ G 10 (((acK tk ((z.1.1, z.1.2.1, z.1.2.2.1, 1, 0, 0), z.2)).2).2.1)), (pv, AI G 10 (((acK tk ((z.1.1, z.1.2.1, z.1.2.2.1, 1, 0, 0), z.2)).2).2.2.1))] H := hP
      have hD : va_D A [(pr, OB 2 [.ref ps, .int (((acK tk ((z.1.1, z.1.2.1, z.1.2.2.1, 1, 0, 0), z.2)).2).1.1), .int (((acK tk ((z.1.1, z.1.2.1, z.1.2.2.1, 1, 0, 0), z.2)).2).1.2.1), .int (((acK tk ((z.1.1, z.1.2.1, z.1.2.2.1, 1, 0, 0), z.2)).2).1.2.2.1), .int (((acK tk ((z.1.1, z.1.2.1, z.1.2.2.1, 1, 0, 0), z.2)).2).1.2.2.2.1), .int (((acK tk ((z.1.1, z.1.2.1, z.1.2.2.1, 1, 0, 0), z.2)).2).1.2.2.2.2.1), .int (((acK tk ((z.1.1, z.1.2.1, z.1.2.2.1, 1, 0, 0), z.2)).2).1.2.2.2.2.2)]), (ps, OB 0 [.ref pm, .ref pv, .int (nI (((acK tk ((z.1.1, z.1.2.1, z.1.2.2.1, 1, 0, 0), z.2)).2).2.2.2))]), (pm, AJ G 10 (((acK tk ((z.1.1, z.1.2.1, z.1.2.2.1, 1, 0, 0), z.2)).2).2.1)), (pv, AI G 10 (((acK tk ((z.1.1, z.1.2.1, z.1.2.2.1, 1, 0, 0), z.2)).2).2.2.1))] := hD
      exact ret (bI (acK tk ((z.1.1, z.1.2.1, z.1.2.2.1, 1, 0, 0), z.2)).1) _ _ _ _ _ _ _ (Nat.le_of_ble_eq_true rfl) (Nat.le_of_ble_eq_true rfl) (bI_nar _) (⟨by simp only [acC, if_neg c_7, if_neg c_30], by simp only [acC, if_neg c_7, if_neg c_30]⟩) (hP.sub (ws' := [(pr, OB 2 [.ref ps, .int (((acK tk ((z.1.1, z.1.2.1, z.1.2.2.1, 1, 0, 0), z.2)).2).1.1), .int (((acK tk ((z.1.1, z.1.2.1, z.1.2.2.1, 1, 0, 0), z.2)).2).1.2.1), .int (((acK tk ((z.1.1, z.1.2.1, z.1.2.2.1, 1, 0, 0), z.2)).2).1.2.2.1), .int (((acK tk ((z.1.1, z.1.2.1, z.1.2.2.1, 1, 0, 0), z.2)).2).1.2.2.2.1), .int (((acK tk ((z.1.1, z.1.2.1, z.1.2.2.1, 1, 0, 0), z.2)).2).1.2.2.2.2.1), .int (((acK tk ((z.1.1, z.1.2.1, z.1.2.2.1, 1, 0, 0), z.2)).2).1.2.2.2.2.2)]), (ps, OB 0 [.ref pm, .ref pv, .int (nI (((acK tk ((z.1.1, z.1.2.1, z.1.2.2.1, 1, 0, 0), z.2)).2).2.2.2))]), (pm, AJ G 10 (((acK tk ((z.1.1, z.1.2.1, z.1.2.2.1, 1, 0, 0), z.2)).2).2.1)), (pv, AI G 10 (((acK tk ((z.1.1, z.1.2.1, z.1.2.2.1, 1, 0, 0), z.2)).2).2.2.1))]) [0, 1, 2, 3] rfl) (hD.sub (ws' := [(pr, OB 2 [.ref ps, .int (((acK tk ((z.1.1, z.1.2.1, z.1.2.2.1, 1, 0, 0), z.2)).2).1.1), .int (((acK tk ((z.1.1, z.1.2.1, z.1.2.2.1, 1, 0, 0), z.2)).2).1.2.1), .int (((acK tk ((z.1.1, z.1.2.1, z.1.2.2.1, 1, 0, 0), z.2)).2).1.2.2.1), .int (((acK tk ((z.1.1, z.1.2.1, z.1.2.2.1, 1, 0, 0), z.2)).2).1.2.2.2.1), .int (((acK tk ((z.1.1, z.1.2.1, z.1.2.2.1, 1, 0, 0), z.2)).2).1.2.2.2.2.1), .int (((acK tk ((z.1.1, z.1.2.1, z.1.2.2.1, 1, 0, 0), z.2)).2).1.2.2.2.2.2)]), (ps, OB 0 [.ref pm, .ref pv, .int (nI (((acK tk ((z.1.1, z.1.2.1, z.1.2.2.1, 1, 0, 0), z.2)).2).2.2.2))]), (pm, AJ G 10 (((acK tk ((z.1.1, z.1.2.1, z.1.2.2.1, 1, 0, 0), z.2)).2).2.1)), (pv, AI G 10 (((acK tk ((z.1.1, z.1.2.1, z.1.2.2.1, 1, 0, 0), z.2)).2).2.2.1))]) [0, 1, 2, 3] (by decide) rfl) hS dX2_acceptConstraint_50
    ·
      refine lv_aload_n hx hb dX2_acceptConstraint_33 rfl (lv_at hl 0 rfl) ?_
      refine lv_iconst (v := 0) hx hb dX2_acceptConstraint_34 (by decide) ?_
      refine va_put (D := G.1) (ci := 2) (v := .int 0) (ty := .int) (C := RX2) (T := TX2) (N := 7) hx hb hts hi2 tyX2 tyX2_ok nmX2 hown hK hP hD hS 0 rfl rfl 4 (by decide) (hts (.fieldLink RX2 98 "ConflictEnumerator$Parser" "weight" "I") (List.mem_of_getElem? (i := 4) rfl)) (fun _ h9 => h9) rfl (by decide +kernel) rfl rfl (Nat.le_of_ble_eq_true rfl) dX2_acceptConstraint_35 (fun H locs hP hD hS => ?_)
      have hP : va_P G.1 vwCl [(pr, OB 2 [.ref ps, .int z.1.1, .int z.1.2.1, .int z.1.2.2.1, .int 0, .int 0, .int 0]), (ps, OB 0 [.ref pm, .ref pv, .int (nI z.2.2.2)]), (pm, AJ G 10 z.2.1), (pv, AI G 10 z.2.2.1)] H := hP
      have hD : va_D A [(pr, OB 2 [.ref ps, .int z.1.1, .int z.1.2.1, .int z.1.2.2.1, .int 0, .int 0, .int 0]), (ps, OB 0 [.ref pm, .ref pv, .int (nI z.2.2.2)]), (pm, AJ G 10 z.2.1), (pv, AI G 10 z.2.2.1)] := hD
      refine lv_aload_n hx hb dX2_acceptConstraint_38 rfl (lv_at hl 0 rfl) ?_
      refine lv_iconst (v := 1) hx hb dX2_acceptConstraint_39 (by decide) ?_
      refine va_put (D := G.1) (ci := 2) (v := .int 1) (ty := .int) (C := RX2) (T := TX2) (N := 7) hx hb hts hi2 tyX2 tyX2_ok nmX2 hown hK hP hD hS 0 rfl rfl 1 (by decide) (hts (.fieldLink RX2 21 "ConflictEnumerator$Parser" "place" "I") (List.mem_of_getElem? (i := 5) rfl)) (fun _ h9 => h9) rfl (by decide +kernel) rfl rfl (Nat.le_of_ble_eq_true rfl) dX2_acceptConstraint_40 (fun H locs hP hD hS => ?_)
      have hP : va_P G.1 vwCl [(pr, OB 2 [.ref ps, .int 1, .int z.1.2.1, .int z.1.2.2.1, .int 0, .int 0, .int 0]), (ps, OB 0 [.ref pm, .ref pv, .int (nI z.2.2.2)]), (pm, AJ G 10 z.2.1), (pv, AI G 10 z.2.2.1)] H := hP
      have hD : va_D A [(pr, OB 2 [.ref ps, .int 1, .int z.1.2.1, .int z.1.2.2.1, .int 0, .int 0, .int 0]), (ps, OB 0 [.ref pm, .ref pv, .int (nI z.2.2.2)]), (pm, AJ G 10 z.2.1), (pv, AI G 10 z.2.2.1)] := hD
      refine lv_iconst (v := 1) hx hb dX2_acceptConstraint_43 (by decide) ?_
      exact ret 1 _ _ _ _ _ _ _ (Nat.le_of_ble_eq_true rfl) (Nat.le_of_ble_eq_true rfl) (rfl) (⟨by simp only [acC, if_neg c_7, if_pos c_30]; rfl, by simp only [acC, if_neg c_7, if_pos c_30]⟩) (hP.sub (ws' := [(pr, OB 2 [.ref ps, .int 1, .int z.1.2.1, .int z.1.2.2.1, .int 0, .int 0, .int 0]), (ps, OB 0 [.ref pm, .ref pv, .int (nI z.2.2.2)]), (pm, AJ G 10 z.2.1), (pv, AI G 10 z.2.2.1)]) [0, 1, 2, 3] rfl) (hD.sub (ws' := [(pr, OB 2 [.ref ps, .int 1, .int z.1.2.1, .int z.1.2.2.1, .int 0, .int 0, .int 0]), (ps, OB 0 [.ref pm, .ref pv, .int (nI z.2.2.2)]), (pm, AJ G 10 z.2.1), (pv, AI G 10 z.2.2.1)]) [0, 1, 2, 3] (by decide) rfl) hS dX2_acceptConstraint_44
  ·
    have c_7 : 10 ≤ z.2.2.2 := by simpa using c_7
    refine lv_iconst (v := 0) hx hb dX2_acceptConstraint_10 (by decide) ?_
    exact ret 0 _ _ _ _ _ _ _ (Nat.le_of_ble_eq_true rfl) (Nat.le_of_ble_eq_true rfl) (rfl) (⟨by simp [acC, bI, c_7], by simp [acC, c_7]⟩) (hP.sub (ws' := [(pr, OB 2 [.ref ps, .int z.1.1, .int z.1.2.1, .int z.1.2.2.1, .int z.1.2.2.2.1, .int z.1.2.2.2.2.1, .int z.1.2.2.2.2.2]), (ps, OB 0 [.ref pm, .ref pv, .int (nI z.2.2.2)]), (pm, AJ G 10 z.2.1), (pv, AI G 10 z.2.2.1)]) [0, 1, 2, 3] rfl) (hD.sub (ws' := [(pr, OB 2 [.ref ps, .int z.1.1, .int z.1.2.1, .int z.1.2.2.1, .int z.1.2.2.2.1, .int z.1.2.2.2.2.1, .int z.1.2.2.2.2.2]), (ps, OB 0 [.ref pm, .ref pv, .int (nI z.2.2.2)]), (pm, AJ G 10 z.2.1), (pv, AI G 10 z.2.2.1)]) [0, 1, 2, 3] (by decide) rfl) hS dX2_acceptConstraint_11
abbrev rmX2_accept : Room := { frames := 4, cells := 0, slots := 0, locals := 87 }
set_option maxHeartbeats 4000000 in
set_option maxRecDepth 100000 in
theorem c_X2_accept (l : Launch) (G : GT) (pr ps pm pv : Nat) (z : CS) (tk : Int32) (hn9 : z.2.2.2 ≤ 10) (hn8 : z.1.1 ≠ 0 → z.2.2.2 < 10) : Ci l yX2_accept wsX2_accept rmX2_accept G [.ref pr, .int tk] [(pr, OB 2 [.ref ps, .int z.1.1, .int z.1.2.1, .int z.1.2.2.1, .int z.1.2.2.2.1, .int z.1.2.2.2.2.1, .int z.1.2.2.2.2.2]), (ps, OB 0 [.ref pm, .ref pv, .int (nI z.2.2.2)]), (pm, AJ G 10 z.2.1), (pv, AI G 10 z.2.2.1)] (fun r u => r = bI (acA tk z).1 ∧ u = [(pr, OB 2 [.ref ps, .int (((acA tk z).2).1.1), .int (((acA tk z).2).1.2.1), .int (((acA tk z).2).1.2.2.1), .int (((acA tk z).2).1.2.2.2.1), .int (((acA tk z).2).1.2.2.2.2.1), .int (((acA tk z).2).1.2.2.2.2.2)]), (ps, OB 0 [.ref pm, .ref pv, .int (nI (((acA tk z).2).2.2.2))]), (pm, AJ G 10 (((acA tk z).2).2.1)), (pv, AI G 10 (((acA tk z).2).2.2.1))]) := by
  refine Ci.of (cc := cX2_accept) (maxL := 2) (ty := .boolean) (by decide) rfl (Nat.le_of_ble_eq_true rfl) ?_
  intro p e s m below meth c A ls Q hx hb hml hts hown hA hS hP hK hN hSS hD hl ret
  have hown : s.vm.findClass RX2 = some m.cls := hown
  have hl : lv_has ls 2 [(0, .ref pr), (1, .int tk)] := hl
  have hi2 : ∀ w ∈ wsX20, w ∈ wsX2_accept := mem_places [68, 69, 70, 71, 72, 73, 74] (by decide +kernel)
  refine lv_aload_n hx hb dX2_accept_0 rfl (lv_at hl 0 rfl) ?_
  refine va_get (D := G.1) (ci := 2) (v := .int z.1.1) (C := RX2) (T := TX2) (N := 7) hx hb hts hi2 hown hK hP 0 rfl rfl 1 (by decide) (hts (.fieldLink RX2 21 "ConflictEnumerator$Parser" "place" "I") (List.mem_of_getElem? (i := 1) rfl)) (fun _ h9 => h9) rfl dX2_accept_1 ?_
  by_cases p_4_0 : z.1.1 = 0
  ·
    refine lv_tableIn (tgt := 48) hx hb dX2_accept_4 (by rw [p_4_0]; decide) (by rw [p_4_0]; decide) (by rw [p_4_0]; rfl) (by decide) ?_
    refine lv_aload_n hx hb dX2_accept_48 rfl (lv_at hl 0 rfl) ?_
    refine lv_iload_n hx hb dX2_accept_49 rfl (lv_at hl 1 rfl) ?_
    refine call_Vi (rest := []) (As := [.int tk]) (wr := []) (c1 := 0) (s1 := 0) ⟨hx, hb, hml, hown, hts⟩ (c_X2_acceptConstraint l G pr ps pm pv z tk (by first | assumption | omega)) (cwV 1 hts gX2_accept_X2_acceptConstraint rfl rfl rfl (by decide +kernel) ⟨Nat.le_of_ble_eq_true rfl, Nat.le_of_ble_eq_true rfl⟩) hK hN hSS hP hD hS hA 0 2 rfl rfl rfl [0, 1, 2, 3] [] rfl rfl (by decide) (by decide) (by decide) rfl hl.1 rfl (Nat.le_of_ble_eq_true rfl) dX2_accept_50 ⟨Nat.le_of_ble_eq_true rfl, Nat.le_of_ble_eq_true rfl⟩ rfl rfl (fun r_50 u_50 H locs hpo hP hD hS => ?_)
    obtain ⟨hr9, rfl⟩ := hpo
    subst r_50
    have hP : va_P G.1 vwCl [(pr, OB 2 [.ref ps, .int (((acC tk z).2).1.1), .int (((acC tk z).2).1.2.1), .int (((acC tk z).2).1.2.2.1), .int (((acC tk z).2).1.2.2.2.1), .int (((acC tk z).2).1.2.2.2.2.1), .int (((acC tk z).2).1.2.2.2.2.2)]), (ps, OB 0 [.ref pm, .ref pv, .int (nI (((acC tk z).2).2.2.2))]), (pm, AJ G 10 (((acC tk z).2).2.1)), (pv, AI G 10 (((acC tk z).2).2.2.1))] H := hP
    have hD : va_D A [(pr, OB 2 [.ref ps, .int (((acC tk z).2).1.1), .int (((acC tk z).2).1.2.1), .int (((acC tk z).2).1.2.2.1), .int (((acC tk z).2).1.2.2.2.1), .int (((acC tk z).2).1.2.2.2.2.1), .int (((acC tk z).2).1.2.2.2.2.2)]), (ps, OB 0 [.ref pm, .ref pv, .int (nI (((acC tk z).2).2.2.2))]), (pm, AJ G 10 (((acC tk z).2).2.1)), (pv, AI G 10 (((acC tk z).2).2.2.1))] := hD
    exact ret (bI (acC tk z).1) _ _ _ _ _ _ _ (Nat.le_of_ble_eq_true rfl) (Nat.le_of_ble_eq_true rfl) (bI_nar _) (⟨by unfold acA; simp [p_4_0], by unfold acA; simp [p_4_0]⟩) (hP.sub (ws' := [(pr, OB 2 [.ref ps, .int (((acC tk z).2).1.1), .int (((acC tk z).2).1.2.1), .int (((acC tk z).2).1.2.2.1), .int (((acC tk z).2).1.2.2.2.1), .int (((acC tk z).2).1.2.2.2.2.1), .int (((acC tk z).2).1.2.2.2.2.2)]), (ps, OB 0 [.ref pm, .ref pv, .int (nI (((acC tk z).2).2.2.2))]), (pm, AJ G 10 (((acC tk z).2).2.1)), (pv, AI G 10 (((acC tk z).2).2.2.1))]) [0, 1, 2, 3] rfl) (hD.sub (ws' := [(pr, OB 2 [.ref ps, .int (((acC tk z).2).1.1), .int (((acC tk z).2).1.2.1), .int (((acC tk z).2).1.2.2.1), .int (((acC tk z).2).1.2.2.2.1), .int (((acC tk z).2).1.2.2.2.2.1), .int (((acC tk z).2).1.2.2.2.2.2)]), (ps, OB 0 [.ref pm, .ref pv, .int (nI (((acC tk z).2).2.2.2))]), (pm, AJ G 10 (((acC tk z).2).2.1)), (pv, AI G 10 (((acC tk z).2).2.2.1))]) [0, 1, 2, 3] (by decide) rfl) hS dX2_accept_53
  by_cases p_4_1 : z.1.1 = 1
  ·
    refine lv_tableIn (tgt := 54) hx hb dX2_accept_4 (by rw [p_4_1]; decide) (by rw [p_4_1]; decide) (by rw [p_4_1]; rfl) (by decide) ?_
    refine lv_aload_n hx hb dX2_accept_54 rfl (lv_at hl 0 rfl) ?_
    refine lv_iload_n hx hb dX2_accept_55 rfl (lv_at hl 1 rfl) ?_
    refine call_Vi (rest := []) (As := [.int tk]) (wr := []) (c1 := 0) (s1 := 0) ⟨hx, hb, hml, hown, hts⟩ (c_X2_acceptKind l G pr ps pm pv z tk ) (cwV 1 hts gX2_accept_X2_acceptKind rfl rfl rfl (by decide +kernel) ⟨Nat.le_of_ble_eq_true rfl, Nat.le_of_ble_eq_true rfl⟩) hK hN hSS hP hD hS hA 0 2 rfl rfl rfl [0, 1, 2, 3] [] rfl rfl (by decide) (by decide) (by decide) rfl hl.1 rfl (Nat.le_of_ble_eq_true rfl) dX2_accept_56 ⟨Nat.le_of_ble_eq_true rfl, Nat.le_of_ble_eq_true rfl⟩ rfl rfl (fun r_56 u_56 H locs hpo hP hD hS => ?_)
    obtain ⟨hr9, rfl⟩ := hpo
    subst r_56
    have hP : va_P G.1 vwCl [(pr, OB 2 [.ref ps, .int (((acK tk z).2).1.1), .int (((acK tk z).2).1.2.1), .int (((acK tk z).2).1.2.2.1), .int (((acK tk z).2).1.2.2.2.1), .int (((acK tk z).2).1.2.2.2.2.1), .int (((acK tk z).2).1.2.2.2.2.2)]), (ps, OB 0 [.ref pm, .ref pv, .int (nI (((acK tk z).2).2.2.2))]), (pm, AJ G 10 (((acK tk z).2).2.1)), (pv, AI G 10 (((acK tk z).2).2.2.1))] H := hP
    have hD : va_D A [(pr, OB 2 [.ref ps, .int (((acK tk z).2).1.1), .int (((acK tk z).2).1.2.1), .int (((acK tk z).2).1.2.2.1), .int (((acK tk z).2).1.2.2.2.1), .int (((acK tk z).2).1.2.2.2.2.1), .int (((acK tk z).2).1.2.2.2.2.2)]), (ps, OB 0 [.ref pm, .ref pv, .int (nI (((acK tk z).2).2.2.2))]), (pm, AJ G 10 (((acK tk z).2).2.1)), (pv, AI G 10 (((acK tk z).2).2.2.1))] := hD
    exact ret (bI (acK tk z).1) _ _ _ _ _ _ _ (Nat.le_of_ble_eq_true rfl) (Nat.le_of_ble_eq_true rfl) (bI_nar _) (⟨by unfold acA; simp [p_4_0, p_4_1], by unfold acA; simp [p_4_0, p_4_1]⟩) (hP.sub (ws' := [(pr, OB 2 [.ref ps, .int (((acK tk z).2).1.1), .int (((acK tk z).2).1.2.1), .int (((acK tk z).2).1.2.2.1), .int (((acK tk z).2).1.2.2.2.1), .int (((acK tk z).2).1.2.2.2.2.1), .int (((acK tk z).2).1.2.2.2.2.2)]), (ps, OB 0 [.ref pm, .ref pv, .int (nI (((acK tk z).2).2.2.2))]), (pm, AJ G 10 (((acK tk z).2).2.1)), (pv, AI G 10 (((acK tk z).2).2.2.1))]) [0, 1, 2, 3] rfl) (hD.sub (ws' := [(pr, OB 2 [.ref ps, .int (((acK tk z).2).1.1), .int (((acK tk z).2).1.2.1), .int (((acK tk z).2).1.2.2.1), .int (((acK tk z).2).1.2.2.2.1), .int (((acK tk z).2).1.2.2.2.2.1), .int (((acK tk z).2).1.2.2.2.2.2)]), (ps, OB 0 [.ref pm, .ref pv, .int (nI (((acK tk z).2).2.2.2))]), (pm, AJ G 10 (((acK tk z).2).2.1)), (pv, AI G 10 (((acK tk z).2).2.2.1))]) [0, 1, 2, 3] (by decide) rfl) hS dX2_accept_59
  by_cases p_4_2 : z.1.1 = 2
  ·
    refine lv_tableIn (tgt := 60) hx hb dX2_accept_4 (by rw [p_4_2]; decide) (by rw [p_4_2]; decide) (by rw [p_4_2]; rfl) (by decide) ?_
    refine lv_aload_n hx hb dX2_accept_60 rfl (lv_at hl 0 rfl) ?_
    refine lv_iload_n hx hb dX2_accept_61 rfl (lv_at hl 1 rfl) ?_
    refine call_Vi (rest := []) (As := [.int tk]) (wr := []) (c1 := 0) (s1 := 0) ⟨hx, hb, hml, hown, hts⟩ (c_X2_acceptBound l G pr ps pm pv z tk ) (cwV 1 hts gX2_accept_X2_acceptBound rfl rfl rfl (by decide +kernel) ⟨Nat.le_of_ble_eq_true rfl, Nat.le_of_ble_eq_true rfl⟩) hK hN hSS hP hD hS hA 0 2 rfl rfl rfl [0, 1, 2, 3] [] rfl rfl (by decide) (by decide) (by decide) rfl hl.1 rfl (Nat.le_of_ble_eq_true rfl) dX2_accept_62 ⟨Nat.le_of_ble_eq_true rfl, Nat.le_of_ble_eq_true rfl⟩ rfl rfl (fun r_62 u_62 H locs hpo hP hD hS => ?_)
    obtain ⟨hr9, rfl⟩ := hpo
    subst r_62
    have hP : va_P G.1 vwCl [(pr, OB 2 [.ref ps, .int (((acB tk z).2).1.1), .int (((acB tk z).2).1.2.1), .int (((acB tk z).2).1.2.2.1), .int (((acB tk z).2).1.2.2.2.1), .int (((acB tk z).2).1.2.2.2.2.1), .int (((acB tk z).2).1.2.2.2.2.2)]), (ps, OB 0 [.ref pm, .ref pv, .int (nI (((acB tk z).2).2.2.2))]), (pm, AJ G 10 (((acB tk z).2).2.1)), (pv, AI G 10 (((acB tk z).2).2.2.1))] H := hP
    have hD : va_D A [(pr, OB 2 [.ref ps, .int (((acB tk z).2).1.1), .int (((acB tk z).2).1.2.1), .int (((acB tk z).2).1.2.2.1), .int (((acB tk z).2).1.2.2.2.1), .int (((acB tk z).2).1.2.2.2.2.1), .int (((acB tk z).2).1.2.2.2.2.2)]), (ps, OB 0 [.ref pm, .ref pv, .int (nI (((acB tk z).2).2.2.2))]), (pm, AJ G 10 (((acB tk z).2).2.1)), (pv, AI G 10 (((acB tk z).2).2.2.1))] := hD
    exact ret (bI (acB tk z).1) _ _ _ _ _ _ _ (Nat.le_of_ble_eq_true rfl) (Nat.le_of_ble_eq_true rfl) (bI_nar _) (⟨by unfold acA; simp [p_4_0, p_4_1, p_4_2], by unfold acA; simp [p_4_0, p_4_1, p_4_2]⟩) (hP.sub (ws' := [(pr, OB 2 [.ref ps, .int (((acB tk z).2).1.1), .int (((acB tk z).2).1.2.1), .int (((acB tk z).2).1.2.2.1), .int (((acB tk z).2).1.2.2.2.1), .int (((acB tk z).2).1.2.2.2.2.1), .int (((acB tk z).2).1.2.2.2.2.2)]), (ps, OB 0 [.ref pm, .ref pv, .int (nI (((acB tk z).2).2.2.2))]), (pm, AJ G 10 (((acB tk z).2).2.1)), (pv, AI G 10 (((acB tk z).2).2.2.1))]) [0, 1, 2, 3] rfl) (hD.sub (ws' := [(pr, OB 2 [.ref ps, .int (((acB tk z).2).1.1), .int (((acB tk z).2).1.2.1), .int (((acB tk z).2).1.2.2.1), .int (((acB tk z).2).1.2.2.2.1), .int (((acB tk z).2).1.2.2.2.2.1), .int (((acB tk z).2).1.2.2.2.2.2)]), (ps, OB 0 [.ref pm, .ref pv, .int (nI (((acB tk z).2).2.2.2))]), (pm, AJ G 10 (((acB tk z).2).2.1)), (pv, AI G 10 (((acB tk z).2).2.2.1))]) [0, 1, 2, 3] (by decide) rfl) hS dX2_accept_65
  by_cases p_4_3 : z.1.1 = 3
  ·
    refine lv_tableIn (tgt := 66) hx hb dX2_accept_4 (by rw [p_4_3]; decide) (by rw [p_4_3]; decide) (by rw [p_4_3]; rfl) (by decide) ?_
    refine lv_aload_n hx hb dX2_accept_66 rfl (lv_at hl 0 rfl) ?_
    refine lv_iload_n hx hb dX2_accept_67 rfl (lv_at hl 1 rfl) ?_
    refine call_Vi (rest := []) (As := [.int tk]) (wr := []) (c1 := 0) (s1 := 0) ⟨hx, hb, hml, hown, hts⟩ (c_X2_acceptLiteral l G pr ps pm pv z tk ) (cwV 1 hts gX2_accept_X2_acceptLiteral rfl rfl rfl (by decide +kernel) ⟨Nat.le_of_ble_eq_true rfl, Nat.le_of_ble_eq_true rfl⟩) hK hN hSS hP hD hS hA 0 2 rfl rfl rfl [0, 1, 2, 3] [] rfl rfl (by decide) (by decide) (by decide) rfl hl.1 rfl (Nat.le_of_ble_eq_true rfl) dX2_accept_68 ⟨Nat.le_of_ble_eq_true rfl, Nat.le_of_ble_eq_true rfl⟩ rfl rfl (fun r_68 u_68 H locs hpo hP hD hS => ?_)
    obtain ⟨hr9, rfl⟩ := hpo
    subst r_68
    have hP : va_P G.1 vwCl [(pr, OB 2 [.ref ps, .int (((acL tk z).2).1.1), .int (((acL tk z).2).1.2.1), .int (((acL tk z).2).1.2.2.1), .int (((acL tk z).2).1.2.2.2.1), .int (((acL tk z).2).1.2.2.2.2.1), .int (((acL tk z).2).1.2.2.2.2.2)]), (ps, OB 0 [.ref pm, .ref pv, .int (nI (((acL tk z).2).2.2.2))]), (pm, AJ G 10 (((acL tk z).2).2.1)), (pv, AI G 10 (((acL tk z).2).2.2.1))] H := hP
    have hD : va_D A [(pr, OB 2 [.ref ps, .int (((acL tk z).2).1.1), .int (((acL tk z).2).1.2.1), .int (((acL tk z).2).1.2.2.1), .int (((acL tk z).2).1.2.2.2.1), .int (((acL tk z).2).1.2.2.2.2.1), .int (((acL tk z).2).1.2.2.2.2.2)]), (ps, OB 0 [.ref pm, .ref pv, .int (nI (((acL tk z).2).2.2.2))]), (pm, AJ G 10 (((acL tk z).2).2.1)), (pv, AI G 10 (((acL tk z).2).2.2.1))] := hD
    exact ret (bI (acL tk z).1) _ _ _ _ _ _ _ (Nat.le_of_ble_eq_true rfl) (Nat.le_of_ble_eq_true rfl) (bI_nar _) (⟨by unfold acA; simp [p_4_0, p_4_1, p_4_2, p_4_3], by unfold acA; simp [p_4_0, p_4_1, p_4_2, p_4_3]⟩) (hP.sub (ws' := [(pr, OB 2 [.ref ps, .int (((acL tk z).2).1.1), .int (((acL tk z).2).1.2.1), .int (((acL tk z).2).1.2.2.1), .int (((acL tk z).2).1.2.2.2.1), .int (((acL tk z).2).1.2.2.2.2.1), .int (((acL tk z).2).1.2.2.2.2.2)]), (ps, OB 0 [.ref pm, .ref pv, .int (nI (((acL tk z).2).2.2.2))]), (pm, AJ G 10 (((acL tk z).2).2.1)), (pv, AI G 10 (((acL tk z).2).2.2.1))]) [0, 1, 2, 3] rfl) (hD.sub (ws' := [(pr, OB 2 [.ref ps, .int (((acL tk z).2).1.1), .int (((acL tk z).2).1.2.1), .int (((acL tk z).2).1.2.2.1), .int (((acL tk z).2).1.2.2.2.1), .int (((acL tk z).2).1.2.2.2.2.1), .int (((acL tk z).2).1.2.2.2.2.2)]), (ps, OB 0 [.ref pm, .ref pv, .int (nI (((acL tk z).2).2.2.2))]), (pm, AJ G 10 (((acL tk z).2).2.1)), (pv, AI G 10 (((acL tk z).2).2.2.1))]) [0, 1, 2, 3] (by decide) rfl) hS dX2_accept_71
  by_cases p_4_4 : z.1.1 = 4
  ·
    refine lv_tableIn (tgt := 72) hx hb dX2_accept_4 (by rw [p_4_4]; decide) (by rw [p_4_4]; decide) (by rw [p_4_4]; rfl) (by decide) ?_
    refine lv_aload_n hx hb dX2_accept_72 rfl (lv_at hl 0 rfl) ?_
    refine lv_iload_n hx hb dX2_accept_73 rfl (lv_at hl 1 rfl) ?_
    refine lv_iconst (v := 1) hx hb dX2_accept_74 (by decide) ?_
    refine call_Vi (rest := []) (As := [.int tk, .int 1]) (wr := []) (c1 := 0) (s1 := 0) ⟨hx, hb, hml, hown, hts⟩ (c_X2_acceptVariable l G pr ps pm pv z tk true ) (cwV 2 hts gX2_accept_X2_acceptVariable rfl rfl rfl (by decide +kernel) ⟨Nat.le_of_ble_eq_true rfl, Nat.le_of_ble_eq_true rfl⟩) hK hN hSS hP hD hS hA 0 2 rfl rfl rfl [0, 1, 2, 3] [] rfl rfl (by decide) (by decide) (by decide) rfl hl.1 rfl (Nat.le_of_ble_eq_true rfl) dX2_accept_75 ⟨Nat.le_of_ble_eq_true rfl, Nat.le_of_ble_eq_true rfl⟩ rfl rfl (fun r_75 u_75 H locs hpo hP hD hS => ?_)
    obtain ⟨hr9, rfl⟩ := hpo
    subst r_75
    have hP : va_P G.1 vwCl [(pr, OB 2 [.ref ps, .int (((acV tk true z).2).1.1), .int (((acV tk true z).2).1.2.1), .int (((acV tk true z).2).1.2.2.1), .int (((acV tk true z).2).1.2.2.2.1), .int (((acV tk true z).2).1.2.2.2.2.1), .int (((acV tk true z).2).1.2.2.2.2.2)]), (ps, OB 0 [.ref pm, .ref pv, .int (nI (((acV tk true z).2).2.2.2))]), (pm, AJ G 10 (((acV tk true z).2).2.1)), (pv, AI G 10 (((acV tk true z).2).2.2.1))] H := hP
    have hD : va_D A [(pr, OB 2 [.ref ps, .int (((acV tk true z).2).1.1), .int (((acV tk true z).2).1.2.1), .int (((acV tk true z).2).1.2.2.1), .int (((acV tk true z).2).1.2.2.2.1), .int (((acV tk true z).2).1.2.2.2.2.1), .int (((acV tk true z).2).1.2.2.2.2.2)]), (ps, OB 0 [.ref pm, .ref pv, .int (nI (((acV tk true z).2).2.2.2))]), (pm, AJ G 10 (((acV tk true z).2).2.1)), (pv, AI G 10 (((acV tk true z).2).2.2.1))] := hD
    exact ret (bI (acV tk true z).1) _ _ _ _ _ _ _ (Nat.le_of_ble_eq_true rfl) (Nat.le_of_ble_eq_true rfl) (bI_nar _) (⟨by unfold acA; simp [p_4_0, p_4_1, p_4_2, p_4_3, p_4_4], by unfold acA; simp [p_4_0, p_4_1, p_4_2, p_4_3, p_4_4]⟩) (hP.sub (ws' := [(pr, OB 2 [.ref ps, .int (((acV tk true z).2).1.1), .int (((acV tk true z).2).1.2.1), .int (((acV tk true z).2).1.2.2.1), .int (((acV tk true z).2).1.2.2.2.1), .int (((acV tk true z).2).1.2.2.2.2.1), .int (((acV tk true z).2).1.2.2.2.2.2)]), (ps, OB 0 [.ref pm, .ref pv, .int (nI (((acV tk true z).2).2.2.2))]), (pm, AJ G 10 (((acV tk true z).2).2.1)), (pv, AI G 10 (((acV tk true z).2).2.2.1))]) [0, 1, 2, 3] rfl) (hD.sub (ws' := [(pr, OB 2 [.ref ps, .int (((acV tk true z).2).1.1), .int (((acV tk true z).2).1.2.1), .int (((acV tk true z).2).1.2.2.1), .int (((acV tk true z).2).1.2.2.2.1), .int (((acV tk true z).2).1.2.2.2.2.1), .int (((acV tk true z).2).1.2.2.2.2.2)]), (ps, OB 0 [.ref pm, .ref pv, .int (nI (((acV tk true z).2).2.2.2))]), (pm, AJ G 10 (((acV tk true z).2).2.1)), (pv, AI G 10 (((acV tk true z).2).2.2.1))]) [0, 1, 2, 3] (by decide) rfl) hS dX2_accept_78
  by_cases p_4_5 : z.1.1 = 5
  ·
    refine lv_tableIn (tgt := 79) hx hb dX2_accept_4 (by rw [p_4_5]; decide) (by rw [p_4_5]; decide) (by rw [p_4_5]; rfl) (by decide) ?_
    refine lv_aload_n hx hb dX2_accept_79 rfl (lv_at hl 0 rfl) ?_
    refine lv_iload_n hx hb dX2_accept_80 rfl (lv_at hl 1 rfl) ?_
    refine call_Vi (rest := []) (As := [.int tk]) (wr := []) (c1 := 0) (s1 := 0) ⟨hx, hb, hml, hown, hts⟩ (c_X2_acceptBehindLiteral l G pr ps pm pv z tk (fun _ => hn8 p_4_0)) (cwV 1 hts gX2_accept_X2_acceptBehindLiteral rfl rfl rfl (by decide +kernel) ⟨Nat.le_of_ble_eq_true rfl, Nat.le_of_ble_eq_true rfl⟩) hK hN hSS hP hD hS hA 0 2 rfl rfl rfl [0, 1, 2, 3] [] rfl rfl (by decide) (by decide) (by decide) rfl hl.1 rfl (Nat.le_of_ble_eq_true rfl) dX2_accept_81 ⟨Nat.le_of_ble_eq_true rfl, Nat.le_of_ble_eq_true rfl⟩ rfl rfl (fun r_81 u_81 H locs hpo hP hD hS => ?_)
    obtain ⟨hr9, rfl⟩ := hpo
    subst r_81
    have hP : va_P G.1 vwCl [(pr, OB 2 [.ref ps, .int (((acR tk z).2).1.1), .int (((acR tk z).2).1.2.1), .int (((acR tk z).2).1.2.2.1), .int (((acR tk z).2).1.2.2.2.1), .int (((acR tk z).2).1.2.2.2.2.1), .int (((acR tk z).2).1.2.2.2.2.2)]), (ps, OB 0 [.ref pm, .ref pv, .int (nI (((acR tk z).2).2.2.2))]), (pm, AJ G 10 (((acR tk z).2).2.1)), (pv, AI G 10 (((acR tk z).2).2.2.1))] H := hP
    have hD : va_D A [(pr, OB 2 [.ref ps, .int (((acR tk z).2).1.1), .int (((acR tk z).2).1.2.1), .int (((acR tk z).2).1.2.2.1), .int (((acR tk z).2).1.2.2.2.1), .int (((acR tk z).2).1.2.2.2.2.1), .int (((acR tk z).2).1.2.2.2.2.2)]), (ps, OB 0 [.ref pm, .ref pv, .int (nI (((acR tk z).2).2.2.2))]), (pm, AJ G 10 (((acR tk z).2).2.1)), (pv, AI G 10 (((acR tk z).2).2.2.1))] := hD
    exact ret (bI (acR tk z).1) _ _ _ _ _ _ _ (Nat.le_of_ble_eq_true rfl) (Nat.le_of_ble_eq_true rfl) (bI_nar _) (⟨by unfold acA; simp [p_4_0, p_4_1, p_4_2, p_4_3, p_4_4, p_4_5], by unfold acA; simp [p_4_0, p_4_1, p_4_2, p_4_3, p_4_4, p_4_5]⟩) (hP.sub (ws' := [(pr, OB 2 [.ref ps, .int (((acR tk z).2).1.1), .int (((acR tk z).2).1.2.1), .int (((acR tk z).2).1.2.2.1), .int (((acR tk z).2).1.2.2.2.1), .int (((acR tk z).2).1.2.2.2.2.1), .int (((acR tk z).2).1.2.2.2.2.2)]), (ps, OB 0 [.ref pm, .ref pv, .int (nI (((acR tk z).2).2.2.2))]), (pm, AJ G 10 (((acR tk z).2).2.1)), (pv, AI G 10 (((acR tk z).2).2.2.1))]) [0, 1, 2, 3] rfl) (hD.sub (ws' := [(pr, OB 2 [.ref ps, .int (((acR tk z).2).1.1), .int (((acR tk z).2).1.2.1), .int (((acR tk z).2).1.2.2.1), .int (((acR tk z).2).1.2.2.2.1), .int (((acR tk z).2).1.2.2.2.2.1), .int (((acR tk z).2).1.2.2.2.2.2)]), (ps, OB 0 [.ref pm, .ref pv, .int (nI (((acR tk z).2).2.2.2))]), (pm, AJ G 10 (((acR tk z).2).2.1)), (pv, AI G 10 (((acR tk z).2).2.2.1))]) [0, 1, 2, 3] (by decide) rfl) hS dX2_accept_84
  by_cases p_4_6 : z.1.1 = 6
  ·
    refine lv_tableIn (tgt := 85) hx hb dX2_accept_4 (by rw [p_4_6]; decide) (by rw [p_4_6]; decide) (by rw [p_4_6]; rfl) (by decide) ?_
    refine lv_aload_n hx hb dX2_accept_85 rfl (lv_at hl 0 rfl) ?_
    refine lv_iload_n hx hb dX2_accept_86 rfl (lv_at hl 1 rfl) ?_
    refine call_Vi (rest := []) (As := [.int tk]) (wr := []) (c1 := 0) (s1 := 0) ⟨hx, hb, hml, hown, hts⟩ (c_X2_acceptWeight l G pr ps pm pv z tk ) (cwV 1 hts gX2_accept_X2_acceptWeight rfl rfl rfl (by decide +kernel) ⟨Nat.le_of_ble_eq_true rfl, Nat.le_of_ble_eq_true rfl⟩) hK hN hSS hP hD hS hA 0 2 rfl rfl rfl [0, 1, 2, 3] [] rfl rfl (by decide) (by decide) (by decide) rfl hl.1 rfl (Nat.le_of_ble_eq_true rfl) dX2_accept_87 ⟨Nat.le_of_ble_eq_true rfl, Nat.le_of_ble_eq_true rfl⟩ rfl rfl (fun r_87 u_87 H locs hpo hP hD hS => ?_)
    obtain ⟨hr9, rfl⟩ := hpo
    subst r_87
    have hP : va_P G.1 vwCl [(pr, OB 2 [.ref ps, .int (((acW tk z).2).1.1), .int (((acW tk z).2).1.2.1), .int (((acW tk z).2).1.2.2.1), .int (((acW tk z).2).1.2.2.2.1), .int (((acW tk z).2).1.2.2.2.2.1), .int (((acW tk z).2).1.2.2.2.2.2)]), (ps, OB 0 [.ref pm, .ref pv, .int (nI (((acW tk z).2).2.2.2))]), (pm, AJ G 10 (((acW tk z).2).2.1)), (pv, AI G 10 (((acW tk z).2).2.2.1))] H := hP
    have hD : va_D A [(pr, OB 2 [.ref ps, .int (((acW tk z).2).1.1), .int (((acW tk z).2).1.2.1), .int (((acW tk z).2).1.2.2.1), .int (((acW tk z).2).1.2.2.2.1), .int (((acW tk z).2).1.2.2.2.2.1), .int (((acW tk z).2).1.2.2.2.2.2)]), (ps, OB 0 [.ref pm, .ref pv, .int (nI (((acW tk z).2).2.2.2))]), (pm, AJ G 10 (((acW tk z).2).2.1)), (pv, AI G 10 (((acW tk z).2).2.2.1))] := hD
    exact ret (bI (acW tk z).1) _ _ _ _ _ _ _ (Nat.le_of_ble_eq_true rfl) (Nat.le_of_ble_eq_true rfl) (bI_nar _) (⟨by unfold acA; simp [p_4_0, p_4_1, p_4_2, p_4_3, p_4_4, p_4_5, p_4_6], by unfold acA; simp [p_4_0, p_4_1, p_4_2, p_4_3, p_4_4, p_4_5, p_4_6]⟩) (hP.sub (ws' := [(pr, OB 2 [.ref ps, .int (((acW tk z).2).1.1), .int (((acW tk z).2).1.2.1), .int (((acW tk z).2).1.2.2.1), .int (((acW tk z).2).1.2.2.2.1), .int (((acW tk z).2).1.2.2.2.2.1), .int (((acW tk z).2).1.2.2.2.2.2)]), (ps, OB 0 [.ref pm, .ref pv, .int (nI (((acW tk z).2).2.2.2))]), (pm, AJ G 10 (((acW tk z).2).2.1)), (pv, AI G 10 (((acW tk z).2).2.2.1))]) [0, 1, 2, 3] rfl) (hD.sub (ws' := [(pr, OB 2 [.ref ps, .int (((acW tk z).2).1.1), .int (((acW tk z).2).1.2.1), .int (((acW tk z).2).1.2.2.1), .int (((acW tk z).2).1.2.2.2.1), .int (((acW tk z).2).1.2.2.2.2.1), .int (((acW tk z).2).1.2.2.2.2.2)]), (ps, OB 0 [.ref pm, .ref pv, .int (nI (((acW tk z).2).2.2.2))]), (pm, AJ G 10 (((acW tk z).2).2.1)), (pv, AI G 10 (((acW tk z).2).2.2.1))]) [0, 1, 2, 3] (by decide) rfl) hS dX2_accept_90
  refine lv_tableOut (tgt := 91) hx hb dX2_accept_4 (sw_out p_4_0 p_4_1 p_4_2 p_4_3 p_4_4 p_4_5 p_4_6) (by decide) ?_
  refine lv_aload_n hx hb dX2_accept_91 rfl (lv_at hl 0 rfl) ?_
  refine lv_iload_n hx hb dX2_accept_92 rfl (lv_at hl 1 rfl) ?_
  refine call_Vi (rest := []) (As := [.int tk]) (wr := []) (c1 := 0) (s1 := 0) ⟨hx, hb, hml, hown, hts⟩ (c_X2_acceptEnd l G pr ps pm pv z tk (fun _ => hn8 p_4_0)) (cwV 1 hts gX2_accept_X2_acceptEnd rfl rfl rfl (by decide +kernel) ⟨Nat.le_of_ble_eq_true rfl, Nat.le_of_ble_eq_true rfl⟩) hK hN hSS hP hD hS hA 0 2 rfl rfl rfl [0, 1, 2, 3] [] rfl rfl (by decide) (by decide) (by decide) rfl hl.1 rfl (Nat.le_of_ble_eq_true rfl) dX2_accept_93 ⟨Nat.le_of_ble_eq_true rfl, Nat.le_of_ble_eq_true rfl⟩ rfl rfl (fun r_93 u_93 H locs hpo hP hD hS => ?_)
  obtain ⟨hr9, rfl⟩ := hpo
  subst r_93
  have hP : va_P G.1 vwCl [(pr, OB 2 [.ref ps, .int (((acE tk z).2).1.1), .int (((acE tk z).2).1.2.1), .int (((acE tk z).2).1.2.2.1), .int (((acE tk z).2).1.2.2.2.1), .int (((acE tk z).2).1.2.2.2.2.1), .int (((acE tk z).2).1.2.2.2.2.2)]), (ps, OB 0 [.ref pm, .ref pv, .int (nI (((acE tk z).2).2.2.2))]), (pm, AJ G 10 (((acE tk z).2).2.1)), (pv, AI G 10 (((acE tk z).2).2.2.1))] H := hP
  have hD : va_D A [(pr, OB 2 [.ref ps, .int (((acE tk z).2).1.1), .int (((acE tk z).2).1.2.1), .int (((acE tk z).2).1.2.2.1), .int (((acE tk z).2).1.2.2.2.1), .int (((acE tk z).2).1.2.2.2.2.1), .int (((acE tk z).2).1.2.2.2.2.2)]), (ps, OB 0 [.ref pm, .ref pv, .int (nI (((acE tk z).2).2.2.2))]), (pm, AJ G 10 (((acE tk z).2).2.1)), (pv, AI G 10 (((acE tk z).2).2.2.1))] := hD
  exact ret (bI (acE tk z).1) _ _ _ _ _ _ _ (Nat.le_of_ble_eq_true rfl) (Nat.le_of_ble_eq_true rfl) (bI_nar _) (⟨by unfold acA; simp [p_4_0, p_4_1, p_4_2, p_4_3, p_4_4, p_4_5, p_4_6], by unfold acA; simp [p_4_0, p_4_1, p_4_2, p_4_3, p_4_4, p_4_5, p_4_6]⟩) (hP.sub (ws' := [(pr, OB 2 [.ref ps, .int (((acE tk z).2).1.1), .int (((acE tk z).2).1.2.1), .int (((acE tk z).2).1.2.2.1), .int (((acE tk z).2).1.2.2.2.1), .int (((acE tk z).2).1.2.2.2.2.1), .int (((acE tk z).2).1.2.2.2.2.2)]), (ps, OB 0 [.ref pm, .ref pv, .int (nI (((acE tk z).2).2.2.2))]), (pm, AJ G 10 (((acE tk z).2).2.1)), (pv, AI G 10 (((acE tk z).2).2.2.1))]) [0, 1, 2, 3] rfl) (hD.sub (ws' := [(pr, OB 2 [.ref ps, .int (((acE tk z).2).1.1), .int (((acE tk z).2).1.2.1), .int (((acE tk z).2).1.2.2.1), .int (((acE tk z).2).1.2.2.2.1), .int (((acE tk z).2).1.2.2.2.2.1), .int (((acE tk z).2).1.2.2.2.2.2)]), (ps, OB 0 [.ref pm, .ref pv, .int (nI (((acE tk z).2).2.2.2))]), (pm, AJ G 10 (((acE tk z).2).2.1)), (pv, AI G 10 (((acE tk z).2).2.2.1))]) [0, 1, 2, 3] (by decide) rfl) hS dX2_accept_96
