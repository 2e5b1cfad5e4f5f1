abbrev rmX4_init : Room := { frames := 2, cells := 8, slots := 547, locals := 32 }
set_option maxHeartbeats 4000000 in
set_option maxRecDepth 100000 in
theorem c_X4_init (l : Launch) (G : GT) (h0 : Nat)  : Cv l yX4_init wsX4_init rmX4_init G [.ref h0] [(h0, OB 4 [.null, .null, .null, .null, .int 0])] (fun u => ∃ (sy sm sw mu ma mz mb ex : Nat), u = [(h0, OB 4 [.ref sy, .ref mu, .ref mz, .ref ex, .int 0]), (sy, OB 0 [.ref sm, .ref sw, .int (nI 0)]), (sm, AJ G 10 (fun _ => 0)), (sw, AI G 10 (fun _ => 0)), (mu, OB 3 [.ref ma, .int (nI 0)]), (ma, AI G 252 (fun _ => 0)), (mz, OB 3 [.ref mb, .int (nI 0)]), (mb, AI G 252 (fun _ => 0)), (ex, AJ G 16 (fun _ => 0))]) := by
  refine Cv.of (cc := cX4_init) (maxL := 1) (by decide) rfl (Nat.le_of_ble_eq_true rfl) ?_
  intro p e s m below meth c A ls Q hx hb hml hts hown hin hA hS hP hK hN hSS hD hl ret
  have hown : s.vm.findClass RX4 = some m.cls := hown
  have hl : lv_has ls 1 [(0, .ref h0)] := hl
  have hi0 : ∀ w ∈ wsX00, w ∈ wsX4_init := mem_places [26, 27, 28] (by decide +kernel)
  have hi3 : ∀ w ∈ wsX30, w ∈ wsX4_init := mem_places [34, 35] (by decide +kernel)
  have hi4 : ∀ w ∈ wsX40, w ∈ wsX4_init := mem_places [29, 30, 31, 32, 33] (by decide +kernel)
  refine lv_aload_n hx hb dX4_init_0 rfl (lv_at hl 0 rfl) ?_
  refine W.objInit hx hb hown (hts (.methodLink RX4 3 objectInit) (List.mem_of_getElem? (i := 1) rfl)) (hts (.instanceMethod objectInit) (List.mem_of_getElem? (i := 2) rfl)) (hts _ (List.mem_of_getElem? (i := 3) rfl)) rfl (by rw [hml]; exact hl.1) rfl dX4_init_1 (Nat.le_of_ble_eq_true rfl) (Nat.le_of_ble_eq_true rfl) ?_
  refine W.eq (g2 := F0 m 4 ls []) rfl ?_
  refine lv_aload_n hx hb dX4_init_4 rfl (lv_at hl 0 rfl) ?_
  refine va_new (ci := 0) (fs := [.null, .null, .int 0]) (C := RX0) (T := TX0) (N := 3) hx hb hts hi0 tyX0 tyX0_ok hown (hts (.classLink RX4 9 RX0) (List.mem_of_getElem? (i := 4) rfl)) (hts (.instantiable RX0 3) (List.mem_of_getElem? (i := 5) rfl)) (hts (.initialized RX0) (List.mem_of_getElem? (i := 6) rfl)) hK hP hD hS hA rfl (fun j hj => by rcases (show j = 0 ∨ j = 1 ∨ j = 2 by omega) with rfl | rfl | rfl <;> rfl) (Nat.le_of_ble_eq_true rfl) (Nat.le_of_ble_eq_true rfl) dX4_init_5 (fun q5 H hP hD hS => ?_)
  have hP : va_P G.1 vwCl [(h0, OB 4 [.null, .null, .null, .null, .int 0]), (q5, OB 0 [.null, .null, .int 0])] H := hP
  have hD : va_D A [(h0, OB 4 [.null, .null, .null, .null, .int 0]), (q5, OB 0 [.null, .null, .int 0])] := hD
  refine W.widen (k := 1) (n := 3) (Nat.le_of_ble_eq_true rfl) (Nat.le_of_ble_eq_true rfl) ?_
  refine lv_dup hx hb dX4_init_8 rfl ?_
  refine call_Nv (rest := [.ref q5, .ref h0]) (As := []) (wr := [(h0, OB 4 [.null, .null, .null, .null, .int 0])]) (c1 := 3) (s1 := 23) ⟨hx, hb, hml, hown, hts⟩ (c_X0_init l G q5 ) ⟨va_cnB 0 hts gX4_init_X0_init_n11 rfl rfl rfl (hN.2.2.2.2.2.1) (hts (.initialized RX0) (List.mem_of_getElem? (i := 6) rfl)) (by decide +kernel) ⟨Nat.le_of_ble_eq_true rfl, Nat.le_of_ble_eq_true rfl⟩, rfl, (hts (.instanceMethod yX0_init) (List.mem_of_getElem? (i := 16) rfl))⟩ hK hN hSS hP hD hS hA [1] [0] rfl rfl (by decide) (by decide) (by decide) rfl hl.1 rfl (Nat.le_of_ble_eq_true rfl) dX4_init_9 ⟨Nat.le_of_ble_eq_true rfl, Nat.le_of_ble_eq_true rfl⟩ rfl rfl (fun u_9 H locs hpo hP hD hS => ?_)
  obtain ⟨hm_9, hw_9, rfl⟩ := hpo
  have hP : va_P G.1 vwCl [(h0, OB 4 [.null, .null, .null, .null, .int 0]), (q5, OB 0 [.ref hm_9, .ref hw_9, .int (nI 0)]), (hm_9, AJ G 10 (fun _ => 0)), (hw_9, AI G 10 (fun _ => 0))] H := hP
  have hD : va_D A [(h0, OB 4 [.null, .null, .null, .null, .int 0]), (q5, OB 0 [.ref hm_9, .ref hw_9, .int (nI 0)]), (hm_9, AJ G 10 (fun _ => 0)), (hw_9, AI G 10 (fun _ => 0))] := hD
  refine va_putF (D := G.1) (ci := 4) (v := .ref q5) (ty := .object "ConflictEnumerator$Constraints") (C := RX4) (T := TX4) (N := 5) hx hb hts hi4 tyX4 tyX4_ok nmX4 hown hK hP hD hS 0 rfl rfl 0 (by decide) (hts (.fieldLink RX4 12 "ConflictEnumerator$State" "system" "LConflictEnumerator$Constraints;") (List.mem_of_getElem? (i := 7) rfl)) (fun _ h9 => h9) rfl hin rfl (by decide +kernel) rfl rfl (Nat.le_of_ble_eq_true rfl) dX4_init_12 (fun H locs hP hD hS => ?_)
  have hP : va_P G.1 vwCl [(h0, OB 4 [.ref q5, .null, .null, .null, .int 0]), (q5, OB 0 [.ref hm_9, .ref hw_9, .int (nI 0)]), (hm_9, AJ G 10 (fun _ => 0)), (hw_9, AI G 10 (fun _ => 0))] H := hP
  have hD : va_D A [(h0, OB 4 [.ref q5, .null, .null, .null, .int 0]), (q5, OB 0 [.ref hm_9, .ref hw_9, .int (nI 0)]), (hm_9, AJ G 10 (fun _ => 0)), (hw_9, AI G 10 (fun _ => 0))] := hD
  refine lv_aload_n hx hb dX4_init_15 rfl (lv_at hl 0 rfl) ?_
  refine va_new (ci := 3) (fs := [.null, .int 0]) (C := RX3) (T := TX3) (N := 2) hx hb hts hi3 tyX3 tyX3_ok hown (hts (.classLink RX4 18 RX3) (List.mem_of_getElem? (i := 8) rfl)) (hts (.instantiable RX3 2) (List.mem_of_getElem? (i := 9) rfl)) (hts (.initialized RX3) (List.mem_of_getElem? (i := 10) rfl)) hK hP hD hS hA rfl (fun j hj => by rcases (show j = 0 ∨ j = 1 by omega) with rfl | rfl <;> rfl) (Nat.le_of_ble_eq_true rfl) (Nat.le_of_ble_eq_true rfl) dX4_init_16 (fun q16 H hP hD hS => ?_)
  have hP : va_P G.1 vwCl [(h0, OB 4 [.ref q5, .null, .null, .null, .int 0]), (q5, OB 0 [.ref hm_9, .ref hw_9, .int (nI 0)]), (hm_9, AJ G 10 (fun _ => 0)), (hw_9, AI G 10 (fun _ => 0)), (q16, OB 3 [.null, .int 0])] H := hP
  have hD : va_D A [(h0, OB 4 [.ref q5, .null, .null, .null, .int 0]), (q5, OB 0 [.ref hm_9, .ref hw_9, .int (nI 0)]), (hm_9, AJ G 10 (fun _ => 0)), (hw_9, AI G 10 (fun _ => 0)), (q16, OB 3 [.null, .int 0])] := hD
  refine W.widen (k := 4) (n := 25) (Nat.le_of_ble_eq_true rfl) (Nat.le_of_ble_eq_true rfl) ?_
  refine lv_dup hx hb dX4_init_19 rfl ?_
  refine call_Nv (rest := [.ref q16, .ref h0]) (As := []) (wr := [(h0, OB 4 [.ref q5, .null, .null, .null, .int 0]), (q5, OB 0 [.ref hm_9, .ref hw_9, .int (nI 0)]), (hm_9, AJ G 10 (fun _ => 0)), (hw_9, AI G 10 (fun _ => 0))]) (c1 := 5) (s1 := 277) ⟨hx, hb, hml, hown, hts⟩ (c_X3_init l G q16 ) ⟨va_cnB 0 hts gX4_init_X3_init_n20 rfl rfl rfl (hN.2.2.2.2.2.2.1) (hts (.initialized RX3) (List.mem_of_getElem? (i := 10) rfl)) (by decide +kernel) ⟨Nat.le_of_ble_eq_true rfl, Nat.le_of_ble_eq_true rfl⟩, rfl, (hts (.instanceMethod yX3_init) (List.mem_of_getElem? (i := 22) rfl))⟩ hK hN hSS hP hD hS hA [4] [0, 1, 2, 3] rfl rfl (by decide) (by decide) (by decide) rfl hl.1 rfl (Nat.le_of_ble_eq_true rfl) dX4_init_20 ⟨Nat.le_of_ble_eq_true rfl, Nat.le_of_ble_eq_true rfl⟩ rfl rfl (fun u_20 H locs hpo hP hD hS => ?_)
  obtain ⟨hb0_20, rfl⟩ := hpo
  have hP : va_P G.1 vwCl [(h0, OB 4 [.ref q5, .null, .null, .null, .int 0]), (q5, OB 0 [.ref hm_9, .ref hw_9, .int (nI 0)]), (hm_9, AJ G 10 (fun _ => 0)), (hw_9, AI G 10 (fun _ => 0)), (q16, OB 3 [.ref hb0_20, .int (nI 0)]), (hb0_20, AI G 252 (fun _ => 0))] H := hP
  have hD : va_D A [(h0, OB 4 [.ref q5, .null, .null, .null, .int 0]), (q5, OB 0 [.ref hm_9, .ref hw_9, .int (nI 0)]), (hm_9, AJ G 10 (fun _ => 0)), (hw_9, AI G 10 (fun _ => 0)), (q16, OB 3 [.ref hb0_20, .int (nI 0)]), (hb0_20, AI G 252 (fun _ => 0))] := hD
  refine va_putF (D := G.1) (ci := 4) (v := .ref q16) (ty := .object "ConflictEnumerator$SelectionList") (C := RX4) (T := TX4) (N := 5) hx hb hts hi4 tyX4 tyX4_ok nmX4 hown hK hP hD hS 0 rfl rfl 1 (by decide) (hts (.fieldLink RX4 21 "ConflictEnumerator$State" "muses" "LConflictEnumerator$SelectionList;") (List.mem_of_getElem? (i := 11) rfl)) (fun _ h9 => h9) rfl hin rfl (by decide +kernel) rfl rfl (Nat.le_of_ble_eq_true rfl) dX4_init_23 (fun H locs hP hD hS => ?_)
  have hP : va_P G.1 vwCl [(h0, OB 4 [.ref q5, .ref q16, .null, .null, .int 0]), (q5, OB 0 [.ref hm_9, .ref hw_9, .int (nI 0)]), (hm_9, AJ G 10 (fun _ => 0)), (hw_9, AI G 10 (fun _ => 0)), (q16, OB 3 [.ref hb0_20, .int (nI 0)]), (hb0_20, AI G 252 (fun _ => 0))] H := hP
  have hD : va_D A [(h0, OB 4 [.ref q5, .ref q16, .null, .null, .int 0]), (q5, OB 0 [.ref hm_9, .ref hw_9, .int (nI 0)]), (hm_9, AJ G 10 (fun _ => 0)), (hw_9, AI G 10 (fun _ => 0)), (q16, OB 3 [.ref hb0_20, .int (nI 0)]), (hb0_20, AI G 252 (fun _ => 0))] := hD
  refine lv_aload_n hx hb dX4_init_26 rfl (lv_at hl 0 rfl) ?_
  refine va_new (ci := 3) (fs := [.null, .int 0]) (C := RX3) (T := TX3) (N := 2) hx hb hts hi3 tyX3 tyX3_ok hown (hts (.classLink RX4 18 RX3) (List.mem_of_getElem? (i := 8) rfl)) (hts (.instantiable RX3 2) (List.mem_of_getElem? (i := 9) rfl)) (hts (.initialized RX3) (List.mem_of_getElem? (i := 10) rfl)) hK hP hD hS hA rfl (fun j hj => by rcases (show j = 0 ∨ j = 1 by omega) with rfl | rfl <;> rfl) (Nat.le_of_ble_eq_true rfl) (Nat.le_of_ble_eq_true rfl) dX4_init_27 (fun q27 H hP hD hS => ?_)
  have hP : va_P G.1 vwCl [(h0, OB 4 [.ref q5, .ref q16, .null, .null, .int 0]), (q5, OB 0 [.ref hm_9, .ref hw_9, .int (nI 0)]), (hm_9, AJ G 10 (fun _ => 0)), (hw_9, AI G 10 (fun _ => 0)), (q16, OB 3 [.ref hb0_20, .int (nI 0)]), (hb0_20, AI G 252 (fun _ => 0)), (q27, OB 3 [.null, .int 0])] H := hP
  have hD : va_D A [(h0, OB 4 [.ref q5, .ref q16, .null, .null, .int 0]), (q5, OB 0 [.ref hm_9, .ref hw_9, .int (nI 0)]), (hm_9, AJ G 10 (fun _ => 0)), (hw_9, AI G 10 (fun _ => 0)), (q16, OB 3 [.ref hb0_20, .int (nI 0)]), (hb0_20, AI G 252 (fun _ => 0)), (q27, OB 3 [.null, .int 0])] := hD
  refine W.widen (k := 6) (n := 279) (Nat.le_of_ble_eq_true rfl) (Nat.le_of_ble_eq_true rfl) ?_
  refine lv_dup hx hb dX4_init_30 rfl ?_
  refine call_Nv (rest := [.ref q27, .ref h0]) (As := []) (wr := [(h0, OB 4 [.ref q5, .ref q16, .null, .null, .int 0]), (q5, OB 0 [.ref hm_9, .ref hw_9, .int (nI 0)]), (hm_9, AJ G 10 (fun _ => 0)), (hw_9, AI G 10 (fun _ => 0)), (q16, OB 3 [.ref hb0_20, .int (nI 0)]), (hb0_20, AI G 252 (fun _ => 0))]) (c1 := 7) (s1 := 531) ⟨hx, hb, hml, hown, hts⟩ (c_X3_init l G q27 ) ⟨va_cnB 0 hts gX4_init_X3_init_n20 rfl rfl rfl (hN.2.2.2.2.2.2.1) (hts (.initialized RX3) (List.mem_of_getElem? (i := 10) rfl)) (by decide +kernel) ⟨Nat.le_of_ble_eq_true rfl, Nat.le_of_ble_eq_true rfl⟩, rfl, (hts (.instanceMethod yX3_init) (List.mem_of_getElem? (i := 22) rfl))⟩ hK hN hSS hP hD hS hA [6] [0, 1, 2, 3, 4, 5] rfl rfl (by decide) (by decide) (by decide) rfl hl.1 rfl (Nat.le_of_ble_eq_true rfl) dX4_init_31 ⟨Nat.le_of_ble_eq_true rfl, Nat.le_of_ble_eq_true rfl⟩ rfl rfl (fun u_31 H locs hpo hP hD hS => ?_)
  obtain ⟨hb0_31, rfl⟩ := hpo
  have hP : va_P G.1 vwCl [(h0, OB 4 [.ref q5, .ref q16, .null, .null, .int 0]), (q5, OB 0 [.ref hm_9, .ref hw_9, .int (nI 0)]), (hm_9, AJ G 10 (fun _ => 0)), (hw_9, AI G 10 (fun _ => 0)), (q16, OB 3 [.ref hb0_20, .int (nI 0)]), (hb0_20, AI G 252 (fun _ => 0)), (q27, OB 3 [.ref hb0_31, .int (nI 0)]), (hb0_31, AI G 252 (fun _ => 0))] H := hP
  have hD : va_D A [(h0, OB 4 [.ref q5, .ref q16, .null, .null, .int 0]), (q5, OB 0 [.ref hm_9, .ref hw_9, .int (nI 0)]), (hm_9, AJ G 10 (fun _ => 0)), (hw_9, AI G 10 (fun _ => 0)), (q16, OB 3 [.ref hb0_20, .int (nI 0)]), (hb0_20, AI G 252 (fun _ => 0)), (q27, OB 3 [.ref hb0_31, .int (nI 0)]), (hb0_31, AI G 252 (fun _ => 0))] := hD
  refine va_putF (D := G.1) (ci := 4) (v := .ref q27) (ty := .object "ConflictEnumerator$SelectionList") (C := RX4) (T := TX4) (N := 5) hx hb hts hi4 tyX4 tyX4_ok nmX4 hown hK hP hD hS 0 rfl rfl 2 (by decide) (hts (.fieldLink RX4 25 "ConflictEnumerator$State" "msses" "LConflictEnumerator$SelectionList;") (List.mem_of_getElem? (i := 12) rfl)) (fun _ h9 => h9) rfl hin rfl (by decide +kernel) rfl rfl (Nat.le_of_ble_eq_true rfl) dX4_init_34 (fun H locs hP hD hS => ?_)
  have hP : va_P G.1 vwCl [(h0, OB 4 [.ref q5, .ref q16, .ref q27, .null, .int 0]), (q5, OB 0 [.ref hm_9, .ref hw_9, .int (nI 0)]), (hm_9, AJ G 10 (fun _ => 0)), (hw_9, AI G 10 (fun _ => 0)), (q16, OB 3 [.ref hb0_20, .int (nI 0)]), (hb0_20, AI G 252 (fun _ => 0)), (q27, OB 3 [.ref hb0_31, .int (nI 0)]), (hb0_31, AI G 252 (fun _ => 0))] H := hP
  have hD : va_D A [(h0, OB 4 [.ref q5, .ref q16, .ref q27, .null, .int 0]), (q5, OB 0 [.ref hm_9, .ref hw_9, .int (nI 0)]), (hm_9, AJ G 10 (fun _ => 0)), (hw_9, AI G 10 (fun _ => 0)), (q16, OB 3 [.ref hb0_20, .int (nI 0)]), (hb0_20, AI G 252 (fun _ => 0)), (q27, OB 3 [.ref hb0_31, .int (nI 0)]), (hb0_31, AI G 252 (fun _ => 0))] := hD
  refine lv_aload_n hx hb dX4_init_37 rfl (lv_at hl 0 rfl) ?_
  refine lv_bipush (v := 16) hx hb dX4_init_38 (by decide) ?_
  refine wa_newJ hx hb (hts (.arrayClass .long) (List.mem_of_getElem? (i := 13) rfl)) hK hP hD hS hA (n := 16) 16 (by decide) rfl (by decide) (Nat.le_of_ble_eq_true rfl) (Nat.le_of_ble_eq_true rfl) dX4_init_40 (fun q40 H hP hD hS => ?_)
  have hP : va_P G.1 vwCl [(h0, OB 4 [.ref q5, .ref q16, .ref q27, .null, .int 0]), (q5, OB 0 [.ref hm_9, .ref hw_9, .int (nI 0)]), (hm_9, AJ G 10 (fun _ => 0)), (hw_9, AI G 10 (fun _ => 0)), (q16, OB 3 [.ref hb0_20, .int (nI 0)]), (hb0_20, AI G 252 (fun _ => 0)), (q27, OB 3 [.ref hb0_31, .int (nI 0)]), (hb0_31, AI G 252 (fun _ => 0)), (q40, AJ G 16 (fun _ => 0))] H := hP
  have hD : va_D A [(h0, OB 4 [.ref q5, .ref q16, .ref q27, .null, .int 0]), (q5, OB 0 [.ref hm_9, .ref hw_9, .int (nI 0)]), (hm_9, AJ G 10 (fun _ => 0)), (hw_9, AI G 10 (fun _ => 0)), (q16, OB 3 [.ref hb0_20, .int (nI 0)]), (hb0_20, AI G 252 (fun _ => 0)), (q27, OB 3 [.ref hb0_31, .int (nI 0)]), (hb0_31, AI G 252 (fun _ => 0)), (q40, AJ G 16 (fun _ => 0))] := hD
  refine W.widen (k := 8) (n := 547) (Nat.le_of_ble_eq_true rfl) (Nat.le_of_ble_eq_true rfl) ?_
  refine va_putF (D := G.1) (ci := 4) (v := .ref q40) (ty := .array (.long)) (C := RX4) (T := TX4) (N := 5) hx hb hts hi4 tyX4 tyX4_ok nmX4 hown hK hP hD hS 0 rfl rfl 3 (by decide) (hts (.fieldLink RX4 28 "ConflictEnumerator$State" "explored" "[J") (List.mem_of_getElem? (i := 14) rfl)) (fun _ h9 => h9) rfl hin rfl (by decide +kernel) rfl rfl (Nat.le_of_ble_eq_true rfl) dX4_init_42 (fun H locs hP hD hS => ?_)
  have hP : va_P G.1 vwCl [(h0, OB 4 [.ref q5, .ref q16, .ref q27, .ref q40, .int 0]), (q5, OB 0 [.ref hm_9, .ref hw_9, .int (nI 0)]), (hm_9, AJ G 10 (fun _ => 0)), (hw_9, AI G 10 (fun _ => 0)), (q16, OB 3 [.ref hb0_20, .int (nI 0)]), (hb0_20, AI G 252 (fun _ => 0)), (q27, OB 3 [.ref hb0_31, .int (nI 0)]), (hb0_31, AI G 252 (fun _ => 0)), (q40, AJ G 16 (fun _ => 0))] H := hP
  have hD : va_D A [(h0, OB 4 [.ref q5, .ref q16, .ref q27, .ref q40, .int 0]), (q5, OB 0 [.ref hm_9, .ref hw_9, .int (nI 0)]), (hm_9, AJ G 10 (fun _ => 0)), (hw_9, AI G 10 (fun _ => 0)), (q16, OB 3 [.ref hb0_20, .int (nI 0)]), (hb0_20, AI G 252 (fun _ => 0)), (q27, OB 3 [.ref hb0_31, .int (nI 0)]), (hb0_31, AI G 252 (fun _ => 0)), (q40, AJ G 16 (fun _ => 0))] := hD
  refine lv_aload_n hx hb dX4_init_45 rfl (lv_at hl 0 rfl) ?_
  refine lv_iconst (v := 0) hx hb dX4_init_46 (by decide) ?_
  refine va_put (D := G.1) (ci := 4) (v := .int 0) (ty := .int) (C := RX4) (T := TX4) (N := 5) hx hb hts hi4 tyX4 tyX4_ok nmX4 hown hK hP hD hS 0 rfl rfl 4 (by decide) (hts (.fieldLink RX4 32 "ConflictEnumerator$State" "strategy" "I") (List.mem_of_getElem? (i := 15) rfl)) (fun _ h9 => h9) rfl (by decide +kernel) rfl rfl (Nat.le_of_ble_eq_true rfl) dX4_init_47 (fun H locs hP hD hS => ?_)
  have hP : va_P G.1 vwCl [(h0, OB 4 [.ref q5, .ref q16, .ref q27, .ref q40, .int 0]), (q5, OB 0 [.ref hm_9, .ref hw_9, .int (nI 0)]), (hm_9, AJ G 10 (fun _ => 0)), (hw_9, AI G 10 (fun _ => 0)), (q16, OB 3 [.ref hb0_20, .int (nI 0)]), (hb0_20, AI G 252 (fun _ => 0)), (q27, OB 3 [.ref hb0_31, .int (nI 0)]), (hb0_31, AI G 252 (fun _ => 0)), (q40, AJ G 16 (fun _ => 0))] H := hP
  have hD : va_D A [(h0, OB 4 [.ref q5, .ref q16, .ref q27, .ref q40, .int 0]), (q5, OB 0 [.ref hm_9, .ref hw_9, .int (nI 0)]), (hm_9, AJ G 10 (fun _ => 0)), (hw_9, AI G 10 (fun _ => 0)), (q16, OB 3 [.ref hb0_20, .int (nI 0)]), (hb0_20, AI G 252 (fun _ => 0)), (q27, OB 3 [.ref hb0_31, .int (nI 0)]), (hb0_31, AI G 252 (fun _ => 0)), (q40, AJ G 16 (fun _ => 0))] := hD
  exact ret _ _ _ _ _ _ _ (Nat.le_of_ble_eq_true rfl) (Nat.le_of_ble_eq_true rfl) (⟨q5, hm_9, hw_9, q16, hb0_20, q27, hb0_31, q40, rfl⟩) (hP.sub (ws' := [(h0, OB 4 [.ref q5, .ref q16, .ref q27, .ref q40, .int 0]), (q5, OB 0 [.ref hm_9, .ref hw_9, .int (nI 0)]), (hm_9, AJ G 10 (fun _ => 0)), (hw_9, AI G 10 (fun _ => 0)), (q16, OB 3 [.ref hb0_20, .int (nI 0)]), (hb0_20, AI G 252 (fun _ => 0)), (q27, OB 3 [.ref hb0_31, .int (nI 0)]), (hb0_31, AI G 252 (fun _ => 0)), (q40, AJ G 16 (fun _ => 0))]) [0, 1, 2, 3, 4, 5, 6, 7, 8] rfl) (hD.sub (ws' := [(h0, OB 4 [.ref q5, .ref q16, .ref q27, .ref q40, .int 0]), (q5, OB 0 [.ref hm_9, .ref hw_9, .int (nI 0)]), (hm_9, AJ G 10 (fun _ => 0)), (hw_9, AI G 10 (fun _ => 0)), (q16, OB 3 [.ref hb0_20, .int (nI 0)]), (hb0_20, AI G 252 (fun _ => 0)), (q27, OB 3 [.ref hb0_31, .int (nI 0)]), (hb0_31, AI G 252 (fun _ => 0)), (q40, AJ G 16 (fun _ => 0))]) [0, 1, 2, 3, 4, 5, 6, 7, 8] (by decide) rfl) hS dX4_init_50
abbrev rmX4_system : Room := { frames := 0, cells := 0, slots := 0, locals := 0 }
set_option maxHeartbeats 4000000 in
set_option maxRecDepth 100000 in
theorem c_X4_system (l : Launch) (G : GT) (h0 sy mu mz ex : Nat) (st : Int32)  : Cr l yX4_system wsX4_system rmX4_system G [.ref h0] [(h0, OB 4 [.ref sy, .ref mu, .ref mz, .ref ex, .int st])] (fun r u => r = sy ∧ u = [(h0, OB 4 [.ref sy, .ref mu, .ref mz, .ref ex, .int st])]) := by
  refine Cr.of (cc := cX4_system) (maxL := 1) (cn := "ConflictEnumerator$Constraints") (by decide) rfl (Nat.le_of_ble_eq_true rfl) ?_
  intro p e s m below meth c A ls Q hx hb hml hts hown hA hS hP hK hN hSS hD hl ret
  have hown : s.vm.findClass RX4 = some m.cls := hown
  have hl : lv_has ls 1 [(0, .ref h0)] := hl
  have hi4 : ∀ w ∈ wsX40, w ∈ wsX4_system := mem_places [2, 3, 4, 5, 6] (by decide +kernel)
  refine lv_aload_n hx hb dX4_system_0 rfl (lv_at hl 0 rfl) ?_
  refine va_get (D := G.1) (ci := 4) (v := .ref sy) (C := RX4) (T := TX4) (N := 5) hx hb hts hi4 hown hK hP 0 rfl rfl 0 (by decide) (hts (.fieldLink RX4 12 "ConflictEnumerator$State" "system" "LConflictEnumerator$Constraints;") (List.mem_of_getElem? (i := 1) rfl)) (fun _ h9 => h9) rfl dX4_system_1 ?_
  exact ret sy _ _ _ _ _ _ _ (Nat.le_of_ble_eq_true rfl) (Nat.le_of_ble_eq_true rfl) (⟨rfl, rfl⟩) (hP.sub (ws' := [(h0, OB 4 [.ref sy, .ref mu, .ref mz, .ref ex, .int st])]) [0] rfl) (hD.sub (ws' := [(h0, OB 4 [.ref sy, .ref mu, .ref mz, .ref ex, .int st])]) [0] (by decide) rfl) hS dX4_system_4
abbrev rmX4_muses : Room := { frames := 0, cells := 0, slots := 0, locals := 0 }
set_option maxHeartbeats 4000000 in
set_option maxRecDepth 100000 in
theorem c_X4_muses (l : Launch) (G : GT) (h0 sy mu mz ex : Nat) (st : Int32)  : Cr l yX4_muses wsX4_muses rmX4_muses G [.ref h0] [(h0, OB 4 [.ref sy, .ref mu, .ref mz, .ref ex, .int st])] (fun r u => r = mu ∧ u = [(h0, OB 4 [.ref sy, .ref mu, .ref mz, .ref ex, .int st])]) := by
  refine Cr.of (cc := cX4_muses) (maxL := 1) (cn := "ConflictEnumerator$SelectionList") (by decide) rfl (Nat.le_of_ble_eq_true rfl) ?_
  intro p e s m below meth c A ls Q hx hb hml hts hown hA hS hP hK hN hSS hD hl ret
  have hown : s.vm.findClass RX4 = some m.cls := hown
  have hl : lv_has ls 1 [(0, .ref h0)] := hl
  have hi4 : ∀ w ∈ wsX40, w ∈ wsX4_muses := mem_places [2, 3, 4, 5, 6] (by decide +kernel)
  refine lv_aload_n hx hb dX4_muses_0 rfl (lv_at hl 0 rfl) ?_
  refine va_get (D := G.1) (ci := 4) (v := .ref mu) (C := RX4) (T := TX4) (N := 5) hx hb hts hi4 hown hK hP 0 rfl rfl 1 (by decide) (hts (.fieldLink RX4 21 "ConflictEnumerator$State" "muses" "LConflictEnumerator$SelectionList;") (List.mem_of_getElem? (i := 1) rfl)) (fun _ h9 => h9) rfl dX4_muses_1 ?_
  exact ret mu _ _ _ _ _ _ _ (Nat.le_of_ble_eq_true rfl) (Nat.le_of_ble_eq_true rfl) (⟨rfl, rfl⟩) (hP.sub (ws' := [(h0, OB 4 [.ref sy, .ref mu, .ref mz, .ref ex, .int st])]) [0] rfl) (hD.sub (ws' := [(h0, OB 4 [.ref sy, .ref mu, .ref mz, .ref ex, .int st])]) [0] (by decide) rfl) hS dX4_muses_4
abbrev rmX4_msses : Room := { frames := 0, cells := 0, slots := 0, locals := 0 }
set_option maxHeartbeats 4000000 in
set_option maxRecDepth 100000 in
theorem c_X4_msses (l : Launch) (G : GT) (h0 sy mu mz ex : Nat) (st : Int32)  : Cr l yX4_msses wsX4_msses rmX4_msses G [.ref h0] [(h0, OB 4 [.ref sy, .ref mu, .ref mz, .ref ex, .int st])] (fun r u => r = mz ∧ u = [(h0, OB 4 [.ref sy, .ref mu, .ref mz, .ref ex, .int st])]) := by
  refine Cr.of (cc := cX4_msses) (maxL := 1) (cn := "ConflictEnumerator$SelectionList") (by decide) rfl (Nat.le_of_ble_eq_true rfl) ?_
  intro p e s m below meth c A ls Q hx hb hml hts hown hA hS hP hK hN hSS hD hl ret
  have hown : s.vm.findClass RX4 = some m.cls := hown
  have hl : lv_has ls 1 [(0, .ref h0)] := hl
  have hi4 : ∀ w ∈ wsX40, w ∈ wsX4_msses := mem_places [2, 3, 4, 5, 6] (by decide +kernel)
  refine lv_aload_n hx hb dX4_msses_0 rfl (lv_at hl 0 rfl) ?_
  refine va_get (D := G.1) (ci := 4) (v := .ref mz) (C := RX4) (T := TX4) (N := 5) hx hb hts hi4 hown hK hP 0 rfl rfl 2 (by decide) (hts (.fieldLink RX4 25 "ConflictEnumerator$State" "msses" "LConflictEnumerator$SelectionList;") (List.mem_of_getElem? (i := 1) rfl)) (fun _ h9 => h9) rfl dX4_msses_1 ?_
  exact ret mz _ _ _ _ _ _ _ (Nat.le_of_ble_eq_true rfl) (Nat.le_of_ble_eq_true rfl) (⟨rfl, rfl⟩) (hP.sub (ws' := [(h0, OB 4 [.ref sy, .ref mu, .ref mz, .ref ex, .int st])]) [0] rfl) (hD.sub (ws' := [(h0, OB 4 [.ref sy, .ref mu, .ref mz, .ref ex, .int st])]) [0] (by decide) rfl) hS dX4_msses_4
abbrev rmX4_strategy : Room := { frames := 0, cells := 0, slots := 0, locals := 0 }
set_option maxHeartbeats 4000000 in
set_option maxRecDepth 100000 in
theorem c_X4_strategy (l : Launch) (G : GT) (h0 sy mu mz ex : Nat) (st : Int32)  : Ci l yX4_strategy wsX4_strategy rmX4_strategy G [.ref h0] [(h0, OB 4 [.ref sy, .ref mu, .ref mz, .ref ex, .int st])] (fun r u => r = st ∧ u = [(h0, OB 4 [.ref sy, .ref mu, .ref mz, .ref ex, .int st])]) := by
  refine Ci.of (cc := cX4_strategy) (maxL := 1) (ty := .int) (by decide) rfl (Nat.le_of_ble_eq_true rfl) ?_
  intro p e s m below meth c A ls Q hx hb hml hts hown hA hS hP hK hN hSS hD hl ret
  have hown : s.vm.findClass RX4 = some m.cls := hown
  have hl : lv_has ls 1 [(0, .ref h0)] := hl
  have hi4 : ∀ w ∈ wsX40, w ∈ wsX4_strategy := mem_places [2, 3, 4, 5, 6] (by decide +kernel)
  refine lv_aload_n hx hb dX4_strategy_0 rfl (lv_at hl 0 rfl) ?_
  refine va_get (D := G.1) (ci := 4) (v := .int st) (C := RX4) (T := TX4) (N := 5) hx hb hts hi4 hown hK hP 0 rfl rfl 4 (by decide) (hts (.fieldLink RX4 32 "ConflictEnumerator$State" "strategy" "I") (List.mem_of_getElem? (i := 1) rfl)) (fun _ h9 => h9) rfl dX4_strategy_1 ?_
  exact ret st _ _ _ _ _ _ _ (Nat.le_of_ble_eq_true rfl) (Nat.le_of_ble_eq_true rfl) (rfl) (⟨rfl, rfl⟩) (hP.sub (ws' := [(h0, OB 4 [.ref sy, .ref mu, .ref mz, .ref ex, .int st])]) [0] rfl) (hD.sub (ws' := [(h0, OB 4 [.ref sy, .ref mu, .ref mz, .ref ex, .int st])]) [0] (by decide) rfl) hS dX4_strategy_4
abbrev rmX4_copyFrom : Room := { frames := 2, cells := 0, slots := 0, locals := 81 }
set_option maxHeartbeats 4000000 in
set_option maxRecDepth 100000 in
theorem c_X4_copyFrom (l : Launch) (G : GT) (h0 sy sm sw mu ma mz mb ex : Nat) (md : Nat → Int64) (wt : Nat → Int32) (n : Nat) (uf : Nat → Int32) (un : Nat) (zf : Nat → Int32) (zn : Nat) (xf : Nat → Int64) (st : Int32) (h1 sy1 sm1 sw1 mu1 ma1 mz1 mb1 ex1 : Nat) (md1 : Nat → Int64) (wt1 : Nat → Int32) (n1 : Nat) (uf1 : Nat → Int32) (un1 : Nat) (zf1 : Nat → Int32) (zn1 : Nat) (xf1 : Nat → Int64) (st1 : Int32)  : Cv l yX4_copyFrom wsX4_copyFrom rmX4_copyFrom G [.ref h0, .ref h1] [(h0, OB 4 [.ref sy, .ref mu, .ref mz, .ref ex, .int st]), (sy, OB 0 [.ref sm, .ref sw, .int (nI n)]), (sm, AJ G 10 md), (sw, AI G 10 wt), (mu, OB 3 [.ref ma, .int (nI un)]), (ma, AI G 252 uf), (mz, OB 3 [.ref mb, .int (nI zn)]), (mb, AI G 252 zf), (ex, AJ G 16 xf), (h1, OB 4 [.ref sy1, .ref mu1, .ref mz1, .ref ex1, .int st1]), (sy1, OB 0 [.ref sm1, .ref sw1, .int (nI n1)]), (sm1, AJ G 10 md1), (sw1, AI G 10 wt1), (mu1, OB 3 [.ref ma1, .int (nI un1)]), (ma1, AI G 252 uf1), (mz1, OB 3 [.ref mb1, .int (nI zn1)]), (mb1, AI G 252 zf1), (ex1, AJ G 16 xf1)] (fun u => u = [(h0, OB 4 [.ref sy, .ref mu, .ref mz, .ref ex, .int st1]), (sy, OB 0 [.ref sm, .ref sw, .int (nI n1)]), (sm, AJ G 10 md1), (sw, AI G 10 wt1), (mu, OB 3 [.ref ma, .int (nI un1)]), (ma, AI G 252 uf1), (mz, OB 3 [.ref mb, .int (nI zn1)]), (mb, AI G 252 zf1), (ex, AJ G 16 xf1), (h1, OB 4 [.ref sy1, .ref mu1, .ref mz1, .ref ex1, .int st1]), (sy1, OB 0 [.ref sm1, .ref sw1, .int (nI n1)]), (sm1, AJ G 10 md1), (sw1, AI G 10 wt1), (mu1, OB 3 [.ref ma1, .int (nI un1)]), (ma1, AI G 252 uf1), (mz1, OB 3 [.ref mb1, .int (nI zn1)]), (mb1, AI G 252 zf1), (ex1, AJ G 16 xf1)]) := by
  refine Cv.of (cc := cX4_copyFrom) (maxL := 2) (by decide) rfl (Nat.le_of_ble_eq_true rfl) ?_
  intro p e s m below meth c A ls Q hx hb hml hts hown hin hA hS hP hK hN hSS hD hl ret
  have hown : s.vm.findClass RX4 = some m.cls := hown
  have hl : lv_has ls 2 [(0, .ref h0), (1, .ref h1)] := hl
  have hi4 : ∀ w ∈ wsX40, w ∈ wsX4_copyFrom := mem_places [27, 28, 29, 30, 31] (by decide +kernel)
  refine lv_aload_n hx hb dX4_copyFrom_0 rfl (lv_at hl 0 rfl) ?_
  refine va_get (D := G.1) (ci := 4) (v := .ref sy) (C := RX4) (T := TX4) (N := 5) hx hb hts hi4 hown hK hP 0 rfl rfl 0 (by decide) (hts (.fieldLink RX4 12 "ConflictEnumerator$State" "system" "LConflictEnumerator$Constraints;") (List.mem_of_getElem? (i := 1) rfl)) (fun _ h9 => h9) rfl dX4_copyFrom_1 ?_
  refine lv_aload_n hx hb dX4_copyFrom_4 rfl (lv_at hl 1 rfl) ?_
  refine va_get (D := G.1) (ci := 4) (v := .ref sy1) (C := RX4) (T := TX4) (N := 5) hx hb hts hi4 hown hK hP 9 rfl rfl 0 (by decide) (hts (.fieldLink RX4 12 "ConflictEnumerator$State" "system" "LConflictEnumerator$Constraints;") (List.mem_of_getElem? (i := 1) rfl)) (fun _ h9 => h9) rfl dX4_copyFrom_5 ?_
  refine call_Vv (rest := []) (As := [.ref sy1]) (wr := [(h0, OB 4 [.ref sy, .ref mu, .ref mz, .ref ex, .int st]), (mu, OB 3 [.ref ma, .int (nI un)]), (ma, AI G 252 uf), (mz, OB 3 [.ref mb, .int (nI zn)]), (mb, AI G 252 zf), (ex, AJ G 16 xf), (h1, OB 4 [.ref sy1, .ref mu1, .ref mz1, .ref ex1, .int st1]), (mu1, OB 3 [.ref ma1, .int (nI un1)]), (ma1, AI G 252 uf1), (mz1, OB 3 [.ref mb1, .int (nI zn1)]), (mb1, AI G 252 zf1), (ex1, AJ G 16 xf1)]) (c1 := 0) (s1 := 0) ⟨hx, hb, hml, hown, hts⟩ (c_X0_copyFrom l G sy sm sw md wt n sy1 sm1 sw1 md1 wt1 n1 ) (cwV 1 hts gX4_copyFrom_X0_copyFrom rfl rfl rfl (by decide +kernel) ⟨Nat.le_of_ble_eq_true rfl, Nat.le_of_ble_eq_true rfl⟩) hK hN hSS hP hD hS hA 0 0 rfl rfl rfl [1, 2, 3, 10, 11, 12] [0, 4, 5, 6, 7, 8, 9, 13, 14, 15, 16, 17] rfl rfl (by decide) (by decide) (by decide) rfl hl.1 rfl (Nat.le_of_ble_eq_true rfl) dX4_copyFrom_8 ⟨Nat.le_of_ble_eq_true rfl, Nat.le_of_ble_eq_true rfl⟩ rfl rfl (fun u_8 H locs hpo hP hD hS => ?_)
  subst hpo
  have hP : va_P G.1 vwCl [(h0, OB 4 [.ref sy, .ref mu, .ref mz, .ref ex, .int st]), (mu, OB 3 [.ref ma, .int (nI un)]), (ma, AI G 252 uf), (mz, OB 3 [.ref mb, .int (nI zn)]), (mb, AI G 252 zf), (ex, AJ G 16 xf), (h1, OB 4 [.ref sy1, .ref mu1, .ref mz1, .ref ex1, .int st1]), (mu1, OB 3 [.ref ma1, .int (nI un1)]), (ma1, AI G 252 uf1), (mz1, OB 3 [.ref mb1, .int (nI zn1)]), (mb1, AI G 252 zf1), (ex1, AJ G 16 xf1), (sy, OB 0 [.ref sm, .ref sw, .int (nI n1)]), (sm, AJ G 10 md1), (sw, AI G 10 wt1), (sy1, OB 0 [.ref sm1, .ref sw1, .int (nI n1)]), (sm1, AJ G 10 md1), (sw1, AI G 10 wt1)] H := hP
  have hD : va_D A [(h0, OB 4 [.ref sy, .ref mu, .ref mz, .ref ex, .int st]), (mu, OB 3 [.ref ma, .int (nI un)]), (ma, AI G 252 uf), (mz, OB 3 [.ref mb, .int (nI zn)]), (mb, AI G 252 zf), (ex, AJ G 16 xf), (h1, OB 4 [.ref sy1, .ref mu1, .ref mz1, .ref ex1, .int st1]), (mu1, OB 3 [.ref ma1, .int (nI un1)]), (ma1, AI G 252 uf1), (mz1, OB 3 [.ref mb1, .int (nI zn1)]), (mb1, AI G 252 zf1), (ex1, AJ G 16 xf1), (sy, OB 0 [.ref sm, .ref sw, .int (nI n1)]), (sm, AJ G 10 md1), (sw, AI G 10 wt1), (sy1, OB 0 [.ref sm1, .ref sw1, .int (nI n1)]), (sm1, AJ G 10 md1), (sw1, AI G 10 wt1)] := hD
  refine lv_aload_n hx hb dX4_copyFrom_11 rfl (lv_at hl 0 rfl) ?_
  refine va_get (D := G.1) (ci := 4) (v := .ref mu) (C := RX4) (T := TX4) (N := 5) hx hb hts hi4 hown hK hP 0 rfl rfl 1 (by decide) (hts (.fieldLink RX4 21 "ConflictEnumerator$State" "muses" "LConflictEnumerator$SelectionList;") (List.mem_of_getElem? (i := 2) rfl)) (fun _ h9 => h9) rfl dX4_copyFrom_12 ?_
  refine lv_aload_n hx hb dX4_copyFrom_15 rfl (lv_at hl 1 rfl) ?_
  refine va_get (D := G.1) (ci := 4) (v := .ref mu1) (C := RX4) (T := TX4) (N := 5) hx hb hts hi4 hown hK hP 6 rfl rfl 1 (by decide) (hts (.fieldLink RX4 21 "ConflictEnumerator$State" "muses" "LConflictEnumerator$SelectionList;") (List.mem_of_getElem? (i := 2) rfl)) (fun _ h9 => h9) rfl dX4_copyFrom_16 ?_
  refine call_Vv (rest := []) (As := [.ref mu1]) (wr := [(h0, OB 4 [.ref sy, .ref mu, .ref mz, .ref ex, .int st]), (mz, OB 3 [.ref mb, .int (nI zn)]), (mb, AI G 252 zf), (ex, AJ G 16 xf), (h1, OB 4 [.ref sy1, .ref mu1, .ref mz1, .ref ex1, .int st1]), (mz1, OB 3 [.ref mb1, .int (nI zn1)]), (mb1, AI G 252 zf1), (ex1, AJ G 16 xf1), (sy, OB 0 [.ref sm, .ref sw, .int (nI n1)]), (sm, AJ G 10 md1), (sw, AI G 10 wt1), (sy1, OB 0 [.ref sm1, .ref sw1, .int (nI n1)]), (sm1, AJ G 10 md1), (sw1, AI G 10 wt1)]) (c1 := 0) (s1 := 0) ⟨hx, hb, hml, hown, hts⟩ (c_X3_copyFrom l G mu ma uf un mu1 ma1 uf1 un1 ) (cwV 1 hts gX4_copyFrom_X3_copyFrom rfl rfl rfl (by decide +kernel) ⟨Nat.le_of_ble_eq_true rfl, Nat.le_of_ble_eq_true rfl⟩) hK hN hSS hP hD hS hA 0 3 rfl rfl rfl [1, 2, 7, 8] [0, 3, 4, 5, 6, 9, 10, 11, 12, 13, 14, 15, 16, 17] rfl rfl (by decide) (by decide) (by decide) rfl hl.1 rfl (Nat.le_of_ble_eq_true rfl) dX4_copyFrom_19 ⟨Nat.le_of_ble_eq_true rfl, Nat.le_of_ble_eq_true rfl⟩ rfl rfl (fun u_19 H locs hpo hP hD hS => ?_)
  subst hpo
  have hP : va_P G.1 vwCl [(h0, OB 4 [.ref sy, .ref mu, .ref mz, .ref ex, .int st]), (mz, OB 3 [.ref mb, .int (nI zn)]), (mb, AI G 252 zf), (ex, AJ G 16 xf), (h1, OB 4 [.ref sy1, .ref mu1, .ref mz1, .ref ex1, .int st1]), (mz1, OB 3 [.ref mb1, .int (nI zn1)]), (mb1, AI G 252 zf1), (ex1, AJ G 16 xf1), (sy, OB 0 [.ref sm, .ref sw, .int (nI n1)]), (sm, AJ G 10 md1), (sw, AI G 10 wt1), (sy1, OB 0 [.ref sm1, .ref sw1, .int (nI n1)]), (sm1, AJ G 10 md1), (sw1, AI G 10 wt1), (mu, OB 3 [.ref ma, .int (nI un1)]), (ma, AI G 252 uf1), (mu1, OB 3 [.ref ma1, .int (nI un1)]), (ma1, AI G 252 uf1)] H := hP
  have hD : va_D A [(h0, OB 4 [.ref sy, .ref mu, .ref mz, .ref ex, .int st]), (mz, OB 3 [.ref mb, .int (nI zn)]), (mb, AI G 252 zf), (ex, AJ G 16 xf), (h1, OB 4 [.ref sy1, .ref mu1, .ref mz1, .ref ex1, .int st1]), (mz1, OB 3 [.ref mb1, .int (nI zn1)]), (mb1, AI G 252 zf1), (ex1, AJ G 16 xf1), (sy, OB 0 [.ref sm, .ref sw, .int (nI n1)]), (sm, AJ G 10 md1), (sw, AI G 10 wt1), (sy1, OB 0 [.ref sm1, .ref sw1, .int (nI n1)]), (sm1, AJ G 10 md1), (sw1, AI G 10 wt1), (mu, OB 3 [.ref ma, .int (nI un1)]), (ma, AI G 252 uf1), (mu1, OB 3 [.ref ma1, .int (nI un1)]), (ma1, AI G 252 uf1)] := hD
  refine lv_aload_n hx hb dX4_copyFrom_22 rfl (lv_at hl 0 rfl) ?_
  refine va_get (D := G.1) (ci := 4) (v := .ref mz) (C := RX4) (T := TX4) (N := 5) hx hb hts hi4 hown hK hP 0 rfl rfl 2 (by decide) (hts (.fieldLink RX4 25 "ConflictEnumerator$State" "msses" "LConflictEnumerator$SelectionList;") (List.mem_of_getElem? (i := 3) rfl)) (fun _ h9 => h9) rfl dX4_copyFrom_23 ?_
  refine lv_aload_n hx hb dX4_copyFrom_26 rfl (lv_at hl 1 rfl) ?_
  refine va_get (D := G.1) (ci := 4) (v := .ref mz1) (C := RX4) (T := TX4) (N := 5) hx hb hts hi4 hown hK hP 4 rfl rfl 2 (by decide) (hts (.fieldLink RX4 25 "ConflictEnumerator$State" "msses" "LConflictEnumerator$SelectionList;") (List.mem_of_getElem? (i := 3) rfl)) (fun _ h9 => h9) rfl dX4_copyFrom_27 ?_
  refine call_Vv (rest := []) (As := [.ref mz1]) (wr := [(h0, OB 4 [.ref sy, .ref mu, .ref mz, .ref ex, .int st]), (ex, AJ G 16 xf), (h1, OB 4 [.ref sy1, .ref mu1, .ref mz1, .ref ex1, .int st1]), (ex1, AJ G 16 xf1), (sy, OB 0 [.ref sm, .ref sw, .int (nI n1)]), (sm, AJ G 10 md1), (sw, AI G 10 wt1), (sy1, OB 0 [.ref sm1, .ref sw1, .int (nI n1)]), (sm1, AJ G 10 md1), (sw1, AI G 10 wt1), (mu, OB 3 [.ref ma, .int (nI un1)]), (ma, AI G 252 uf1), (mu1, OB 3 [.ref ma1, .int (nI un1)]), (ma1, AI G 252 uf1)]) (c1 := 0) (s1 := 0) ⟨hx, hb, hml, hown, hts⟩ (c_X3_copyFrom l G mz mb zf zn mz1 mb1 zf1 zn1 ) (cwV 1 hts gX4_copyFrom_X3_copyFrom rfl rfl rfl (by decide +kernel) ⟨Nat.le_of_ble_eq_true rfl, Nat.le_of_ble_eq_true rfl⟩) hK hN hSS hP hD hS hA 0 3 rfl rfl rfl [1, 2, 5, 6] [0, 3, 4, 7, 8, 9, 10, 11, 12, 13, 14, 15, 16, 17] rfl rfl (by decide) (by decide) (by decide) rfl hl.1 rfl (Nat.le_of_ble_eq_true rfl) dX4_copyFrom_30 ⟨Nat.le_of_ble_eq_true rfl, Nat.le_of_ble_eq_true rfl⟩ rfl rfl (fun u_30 H locs hpo hP hD hS => ?_)
  subst hpo
  have hP : va_P G.1 vwCl [(h0, OB 4 [.ref sy, .ref mu, .ref mz, .ref ex, .int st]), (ex, AJ G 16 xf), (h1, OB 4 [.ref sy1, .ref mu1, .ref mz1, .ref ex1, .int st1]), (ex1, AJ G 16 xf1), (sy, OB 0 [.ref sm, .ref sw, .int (nI n1)]), (sm, AJ G 10 md1), (sw, AI G 10 wt1), (sy1, OB 0 [.ref sm1, .ref sw1, .int (nI n1)]), (sm1, AJ G 10 md1), (sw1, AI G 10 wt1), (mu, OB 3 [.ref ma, .int (nI un1)]), (ma, AI G 252 uf1), (mu1, OB 3 [.ref ma1, .int (nI un1)]), (ma1, AI G 252 uf1), (mz, OB 3 [.ref mb, .int (nI zn1)]), (mb, AI G 252 zf1), (mz1, OB 3 [.ref mb1, .int (nI zn1)]), (mb1, AI G 252 zf1)] H := hP
  have hD : va_D A [(h0, OB 4 [.ref sy, .ref mu, .ref mz, .ref ex, .int st]), (ex, AJ G 16 xf), (h1, OB 4 [.ref sy1, .ref mu1, .ref mz1, .ref ex1, .int st1]), (ex1, AJ G 16 xf1), (sy, OB 0 [.ref sm, .ref sw, .int (nI n1)]), (sm, AJ G 10 md1), (sw, AI G 10 wt1), (sy1, OB 0 [.ref sm1, .ref sw1, .int (nI n1)]), (sm1, AJ G 10 md1), (sw1, AI G 10 wt1), (mu, OB 3 [.ref ma, .int (nI un1)]), (ma, AI G 252 uf1), (mu1, OB 3 [.ref ma1, .int (nI un1)]), (ma1, AI G 252 uf1), (mz, OB 3 [.ref mb, .int (nI zn1)]), (mb, AI G 252 zf1), (mz1, OB 3 [.ref mb1, .int (nI zn1)]), (mb1, AI G 252 zf1)] := hD
  refine lv_aload_n hx hb dX4_copyFrom_33 rfl (lv_at hl 1 rfl) ?_
  refine va_get (D := G.1) (ci := 4) (v := .ref ex1) (C := RX4) (T := TX4) (N := 5) hx hb hts hi4 hown hK hP 2 rfl rfl 3 (by decide) (hts (.fieldLink RX4 28 "ConflictEnumerator$State" "explored" "[J") (List.mem_of_getElem? (i := 4) rfl)) (fun _ h9 => h9) rfl dX4_copyFrom_34 ?_
  refine lv_iconst (v := 0) hx hb dX4_copyFrom_37 (by decide) ?_
  refine lv_aload_n hx hb dX4_copyFrom_38 rfl (lv_at hl 0 rfl) ?_
  refine va_get (D := G.1) (ci := 4) (v := .ref ex) (C := RX4) (T := TX4) (N := 5) hx hb hts hi4 hown hK hP 0 rfl rfl 3 (by decide) (hts (.fieldLink RX4 28 "ConflictEnumerator$State" "explored" "[J") (List.mem_of_getElem? (i := 4) rfl)) (fun _ h9 => h9) rfl dX4_copyFrom_39 ?_
  refine lv_iconst (v := 0) hx hb dX4_copyFrom_42 (by decide) ?_
  refine lv_bipush (v := 16) hx hb dX4_copyFrom_43 (by decide) ?_
  refine wa_copyl hx hb (by rw [hml]; exact hl.1.symm) hown (hts (.methodLink RX4 43 arraycopyName) (List.mem_of_getElem? (i := 5) rfl)) (hts (.native arraycopyName) (List.mem_of_getElem? (i := 6) rfl)) (hts (.static arraycopyName) (List.mem_of_getElem? (i := 7) rfl)) (hts (.initialized "java/lang/System") (List.mem_of_getElem? (i := 8) rfl)) hK hP hD hS 3 1 rfl rfl (n := 16) rfl rfl rfl (by decide) (Nat.le_of_ble_eq_true rfl) (Nat.le_of_ble_eq_true rfl) dX4_copyFrom_45 (fun H locs hP hD hS => ?_)
  have hP : va_P G.1 vwCl [(h0, OB 4 [.ref sy, .ref mu, .ref mz, .ref ex, .int st]), (ex, AJ G 16 xf1), (h1, OB 4 [.ref sy1, .ref mu1, .ref mz1, .ref ex1, .int st1]), (ex1, AJ G 16 xf1), (sy, OB 0 [.ref sm, .ref sw, .int (nI n1)]), (sm, AJ G 10 md1), (sw, AI G 10 wt1), (sy1, OB 0 [.ref sm1, .ref sw1, .int (nI n1)]), (sm1, AJ G 10 md1), (sw1, AI G 10 wt1), (mu, OB 3 [.ref ma, .int (nI un1)]), (ma, AI G 252 uf1), (mu1, OB 3 [.ref ma1, .int (nI un1)]), (ma1, AI G 252 uf1), (mz, OB 3 [.ref mb, .int (nI zn1)]), (mb, AI G 252 zf1), (mz1, OB 3 [.ref mb1, .int (nI zn1)]), (mb1, AI G 252 zf1)] H := hP
  have hD : va_D A [(h0, OB 4 [.ref sy, .ref mu, .ref mz, .ref ex, .int st]), (ex, AJ G 16 xf1), (h1, OB 4 [.ref sy1, .ref mu1, .ref mz1, .ref ex1, .int st1]), (ex1, AJ G 16 xf1), (sy, OB 0 [.ref sm, .ref sw, .int (nI n1)]), (sm, AJ G 10 md1), (sw, AI G 10 wt1), (sy1, OB 0 [.ref sm1, .ref sw1, .int (nI n1)]), (sm1, AJ G 10 md1), (sw1, AI G 10 wt1), (mu, OB 3 [.ref ma, .int (nI un1)]), (ma, AI G 252 uf1), (mu1, OB 3 [.ref ma1, .int (nI un1)]), (ma1, AI G 252 uf1), (mz, OB 3 [.ref mb, .int (nI zn1)]), (mb, AI G 252 zf1), (mz1, OB 3 [.ref mb1, .int (nI zn1)]), (mb1, AI G 252 zf1)] := hD
  refine lv_aload_n hx hb dX4_copyFrom_48 rfl (lv_at hl 0 rfl) ?_
  refine lv_aload_n hx hb dX4_copyFrom_49 rfl (lv_at hl 1 rfl) ?_
  refine va_get (D := G.1) (ci := 4) (v := .int st1) (C := RX4) (T := TX4) (N := 5) hx hb hts hi4 hown hK hP 2 rfl rfl 4 (by decide) (hts (.fieldLink RX4 32 "ConflictEnumerator$State" "strategy" "I") (List.mem_of_getElem? (i := 9) rfl)) (fun _ h9 => h9) rfl dX4_copyFrom_50 ?_
  refine va_put (D := G.1) (ci := 4) (v := .int st1) (ty := .int) (C := RX4) (T := TX4) (N := 5) hx hb hts hi4 tyX4 tyX4_ok nmX4 hown hK hP hD hS 0 rfl rfl 4 (by decide) (hts (.fieldLink RX4 32 "ConflictEnumerator$State" "strategy" "I") (List.mem_of_getElem? (i := 9) rfl)) (fun _ h9 => h9) rfl (by decide +kernel) rfl rfl (Nat.le_of_ble_eq_true rfl) dX4_copyFrom_53 (fun H locs hP hD hS => ?_)
  have hP : va_P G.1 vwCl [(h0, OB 4 [.ref sy, .ref mu, .ref mz, .ref ex, .int st1]), (ex, AJ G 16 xf1), (h1, OB 4 [.ref sy1, .ref mu1, .ref mz1, .ref ex1, .int st1]), (ex1, AJ G 16 xf1), (sy, OB 0 [.ref sm, .ref sw, .int (nI n1)]), (sm, AJ G 10 md1), (sw, AI G 10 wt1), (sy1, OB 0 [.ref sm1, .ref sw1, .int (nI n1)]), (sm1, AJ G 10 md1), (sw1, AI G 10 wt1), (mu, OB 3 [.ref ma, .int (nI un1)]), (ma, AI G 252 uf1), (mu1, OB 3 [.ref ma1, .int (nI un1)]), (ma1, AI G 252 uf1), (mz, OB 3 [.ref mb, .int (nI zn1)]), (mb, AI G 252 zf1), (mz1, OB 3 [.ref mb1, .int (nI zn1)]), (mb1, AI G 252 zf1)] H := hP
  have hD : va_D A [(h0, OB 4 [.ref sy, .ref mu, .ref mz, .ref ex, .int st1]), (ex, AJ G 16 xf1), (h1, OB 4 [.ref sy1, .ref mu1, .ref mz1, .ref ex1, .int st1]), (ex1, AJ G 16 xf1), (sy, OB 0 [.ref sm, .ref sw, .int (nI n1)]), (sm, AJ G 10 md1), (sw, AI G 10 wt1), (sy1, OB 0 [.ref sm1, .ref sw1, .int (nI n1)]), (sm1, AJ G 10 md1), (sw1, AI G 10 wt1), (mu, OB 3 [.ref ma, .int (nI un1)]), (ma, AI G 252 uf1), (mu1, OB 3 [.ref ma1, .int (nI un1)]), (ma1, AI G 252 uf1), (mz, OB 3 [.ref mb, .int (nI zn1)]), (mb, AI G 252 zf1), (mz1, OB 3 [.ref mb1, .int (nI zn1)]), (mb1, AI G 252 zf1)] := hD
  exact ret _ _ _ _ _ _ _ (Nat.le_of_ble_eq_true rfl) (Nat.le_of_ble_eq_true rfl) (rfl) (hP.sub (ws' := [(h0, OB 4 [.ref sy, .ref mu, .ref mz, .ref ex, .int st1]), (sy, OB 0 [.ref sm, .ref sw, .int (nI n1)]), (sm, AJ G 10 md1), (sw, AI G 10 wt1), (mu, OB 3 [.ref ma, .int (nI un1)]), (ma, AI G 252 uf1), (mz, OB 3 [.ref mb, .int (nI zn1)]), (mb, AI G 252 zf1), (ex, AJ G 16 xf1), (h1, OB 4 [.ref sy1, .ref mu1, .ref mz1, .ref ex1, .int st1]), (sy1, OB 0 [.ref sm1, .ref sw1, .int (nI n1)]), (sm1, AJ G 10 md1), (sw1, AI G 10 wt1), (mu1, OB 3 [.ref ma1, .int (nI un1)]), (ma1, AI G 252 uf1), (mz1, OB 3 [.ref mb1, .int (nI zn1)]), (mb1, AI G 252 zf1), (ex1, AJ G 16 xf1)]) [0, 4, 5, 6, 10, 11, 14, 15, 1, 2, 7, 8, 9, 12, 13, 16, 17, 3] rfl) (hD.sub (ws' := [(h0, OB 4 [.ref sy, .ref mu, .ref mz, .ref ex, .int st1]), (sy, OB 0 [.ref sm, .ref sw, .int (nI n1)]), (sm, AJ G 10 md1), (sw, AI G 10 wt1), (mu, OB 3 [.ref ma, .int (nI un1)]), (ma, AI G 252 uf1), (mz, OB 3 [.ref mb, .int (nI zn1)]), (mb, AI G 252 zf1), (ex, AJ G 16 xf1), (h1, OB 4 [.ref sy1, .ref mu1, .ref mz1, .ref ex1, .int st1]), (sy1, OB 0 [.ref sm1, .ref sw1, .int (nI n1)]), (sm1, AJ G 10 md1), (sw1, AI G 10 wt1), (mu1, OB 3 [.ref ma1, .int (nI un1)]), (ma1, AI G 252 uf1), (mz1, OB 3 [.ref mb1, .int (nI zn1)]), (mb1, AI G 252 zf1), (ex1, AJ G 16 xf1)]) [0, 4, 5, 6, 10, 11, 14, 15, 1, 2, 7, 8, 9, 12, 13, 16, 17, 3] (by decide) rfl) hS dX4_copyFrom_56
abbrev rmX4_forgetFindings : Room := { frames := 1, cells := 0, slots := 0, locals := 20 }
set_option maxHeartbeats 4000000 in
set_option maxRecDepth 100000 in
theorem c_X4_forgetFindings (l : Launch) (G : GT) (h0 sy sm sw mu ma mz mb ex : Nat) (md : Nat → Int64) (wt : Nat → Int32) (n : Nat) (uf : Nat → Int32) (un : Nat) (zf : Nat → Int32) (zn : Nat) (xf : Nat → Int64) (st : Int32)  : Cv l yX4_forgetFindings wsX4_forgetFindings rmX4_forgetFindings G [.ref h0] [(h0, OB 4 [.ref sy, .ref mu, .ref mz, .ref ex, .int st]), (sy, OB 0 [.ref sm, .ref sw, .int (nI n)]), (sm, AJ G 10 md), (sw, AI G 10 wt), (mu, OB 3 [.ref ma, .int (nI un)]), (ma, AI G 252 uf), (mz, OB 3 [.ref mb, .int (nI zn)]), (mb, AI G 252 zf), (ex, AJ G 16 xf)] (fun u => u = [(h0, OB 4 [.ref sy, .ref mu, .ref mz, .ref ex, .int st]), (sy, OB 0 [.ref sm, .ref sw, .int (nI n)]), (sm, AJ G 10 md), (sw, AI G 10 wt), (mu, OB 3 [.ref ma, .int (nI 0)]), (ma, AI G 252 uf), (mz, OB 3 [.ref mb, .int (nI 0)]), (mb, AI G 252 zf), (ex, AJ G 16 (zF xf 16))]) := by
  refine Cv.of (cc := cX4_forgetFindings) (maxL := 2) (by decide) rfl (Nat.le_of_ble_eq_true rfl) ?_
  intro p e s m below meth c A ls Q hx hb hml hts hown hin hA hS hP hK hN hSS hD hl ret
  have hown : s.vm.findClass RX4 = some m.cls := hown
  have hl : lv_has ls 2 [(0, .ref h0)] := hl
  have hi4 : ∀ w ∈ wsX40, w ∈ wsX4_forgetFindings := mem_places [10, 11, 12, 13, 14] (by decide +kernel)
  refine lv_aload_n hx hb dX4_forgetFindings_0 rfl (lv_at hl 0 rfl) ?_
  refine va_get (D := G.1) (ci := 4) (v := .ref mu) (C := RX4) (T := TX4) (N := 5) hx hb hts hi4 hown hK hP 0 rfl rfl 1 (by decide) (hts (.fieldLink RX4 21 "ConflictEnumerator$State" "muses" "LConflictEnumerator$SelectionList;") (List.mem_of_getElem? (i := 1) rfl)) (fun _ h9 => h9) rfl dX4_forgetFindings_1 ?_
  refine call_Vv (rest := []) (As := []) (wr := [(h0, OB 4 [.ref sy, .ref mu, .ref mz, .ref ex, .int st]), (sy, OB 0 [.ref sm, .ref sw, .int (nI n)]), (sm, AJ G 10 md), (sw, AI G 10 wt), (mz, OB 3 [.ref mb, .int (nI zn)]), (mb, AI G 252 zf), (ex, AJ G 16 xf)]) (c1 := 0) (s1 := 0) ⟨hx, hb, hml, hown, hts⟩ (c_X3_clear l G mu ma uf un ) (cwV 0 hts gX4_forgetFindings_X3_clear rfl rfl rfl (by decide +kernel) ⟨Nat.le_of_ble_eq_true rfl, Nat.le_of_ble_eq_true rfl⟩) hK hN hSS hP hD hS hA 0 3 rfl rfl rfl [4, 5] [0, 1, 2, 3, 6, 7, 8] rfl rfl (by decide) (by decide) (by decide) rfl hl.1 rfl (Nat.le_of_ble_eq_true rfl) dX4_forgetFindings_4 ⟨Nat.le_of_ble_eq_true rfl, Nat.le_of_ble_eq_true rfl⟩ rfl rfl (fun u_4 H locs hpo hP hD hS => ?_)
  subst hpo
  have hP : va_P G.1 vwCl [(h0, OB 4 [.ref sy, .ref mu, .ref mz, .ref ex, .int st]), (sy, OB 0 [.ref sm, .ref sw, .int (nI n)]), (sm, AJ G 10 md), (sw, AI G 10 wt), (mz, OB 3 [.ref mb, .int (nI zn)]), (mb, AI G 252 zf), (ex, AJ G 16 xf), (mu, OB 3 [.ref ma, .int (nI 0)]), (ma, AI G 252 uf)] H := hP
  have hD : va_D A [(h0, OB 4 [.ref sy, .ref mu, .ref mz, .ref ex, .int st]), (sy, OB 0 [.ref sm, .ref sw, .int (nI n)]), (sm, AJ G 10 md), (sw, AI G 10 wt), (mz, OB 3 [.ref mb, .int (nI zn)]), (mb, AI G 252 zf), (ex, AJ G 16 xf), (mu, OB 3 [.ref ma, .int (nI 0)]), (ma, AI G 252 uf)] := hD
  refine lv_aload_n hx hb dX4_forgetFindings_7 rfl (lv_at hl 0 rfl) ?_
  refine va_get (D := G.1) (ci := 4) (v := .ref mz) (C := RX4) (T := TX4) (N := 5) hx hb hts hi4 hown hK hP 0 rfl rfl 2 (by decide) (hts (.fieldLink RX4 25 "ConflictEnumerator$State" "msses" "LConflictEnumerator$SelectionList;") (List.mem_of_getElem? (i := 2) rfl)) (fun _ h9 => h9) rfl dX4_forgetFindings_8 ?_
  refine call_Vv (rest := []) (As := []) (wr := [(h0, OB 4 [.ref sy, .ref mu, .ref mz, .ref ex, .int st]), (sy, OB 0 [.ref sm, .ref sw, .int (nI n)]), (sm, AJ G 10 md), (sw, AI G 10 wt), (ex, AJ G 16 xf), (mu, OB 3 [.ref ma, .int (nI 0)]), (ma, AI G 252 uf)]) (c1 := 0) (s1 := 0) ⟨hx, hb, hml, hown, hts⟩ (c_X3_clear l G mz mb zf zn ) (cwV 0 hts gX4_forgetFindings_X3_clear rfl rfl rfl (by decide +kernel) ⟨Nat.le_of_ble_eq_true rfl, Nat.le_of_ble_eq_true rfl⟩) hK hN hSS hP hD hS hA 0 3 rfl rfl rfl [4, 5] [0, 1, 2, 3, 6, 7, 8] rfl rfl (by decide) (by decide) (by decide) rfl hl.1 rfl (Nat.le_of_ble_eq_true rfl) dX4_forgetFindings_11 ⟨Nat.le_of_ble_eq_true rfl, Nat.le_of_ble_eq_true rfl⟩ rfl rfl (fun u_11 H locs hpo hP hD hS => ?_)
  subst hpo
  have hP : va_P G.1 vwCl [(h0, OB 4 [.ref sy, .ref mu, .ref mz, .ref ex, .int st]), (sy, OB 0 [.ref sm, .ref sw, .int (nI n)]), (sm, AJ G 10 md), (sw, AI G 10 wt), (ex, AJ G 16 xf), (mu, OB 3 [.ref ma, .int (nI 0)]), (ma, AI G 252 uf), (mz, OB 3 [.ref mb, .int (nI 0)]), (mb, AI G 252 zf)] H := hP
  have hD : va_D A [(h0, OB 4 [.ref sy, .ref mu, .ref mz, .ref ex, .int st]), (sy, OB 0 [.ref sm, .ref sw, .int (nI n)]), (sm, AJ G 10 md), (sw, AI G 10 wt), (ex, AJ G 16 xf), (mu, OB 3 [.ref ma, .int (nI 0)]), (ma, AI G 252 uf), (mz, OB 3 [.ref mb, .int (nI 0)]), (mb, AI G 252 zf)] := hD
  refine lv_iconst (v := 0) hx hb dX4_forgetFindings_14 (by decide) ?_
  refine lv_istore_n (lv' := [(1, .int 0), (0, .ref h0)]) hx hb dX4_forgetFindings_15 rfl hl (by decide) rfl (fun ls hl => ?_)
  have L16 : ∀ (kf : Nat) (i : Nat) (f : Nat → Int64) (H : Heap) (locs : List Loc) (ls : Array Slot), 16 - i < kf → (i ≤ 16) → (f = zF xf i) → va_P G.1 vwCl [(h0, OB 4 [.ref sy, .ref mu, .ref mz, .ref ex, .int st]), (sy, OB 0 [.ref sm, .ref sw, .int (nI n)]), (sm, AJ G 10 md), (sw, AI G 10 wt), (ex, AJ G 16 f), (mu, OB 3 [.ref ma, .int (nI 0)]), (ma, AI G 252 uf), (mz, OB 3 [.ref mb, .int (nI 0)]), (mb, AI G 252 zf)] H → va_D A [(h0, OB 4 [.ref sy, .ref mu, .ref mz, .ref ex, .int st]), (sy, OB 0 [.ref sm, .ref sw, .int (nI n)]), (sm, AJ G 10 md), (sw, AI G 10 wt), (ex, AJ G 16 f), (mu, OB 3 [.ref ma, .int (nI 0)]), (ma, AI G 252 uf), (mz, OB 3 [.ref mb, .int (nI 0)]), (mb, AI G 252 zf)] → va_S A s.heap H locs → lv_has ls 2 [(0, .ref h0), (1, .int (nI i))] → W p l e rmX4_forgetFindings s m ([.ref h0] : List Value).toArray below meth c H locs 0 0 Q (F0 m 16 ls []) := by
    intro kf
    induction kf with
    | zero => intro i f H locs ls h; exact absurd h (Nat.not_lt_zero _)
    | succ kf ih =>
      intro i f H locs ls hk hi hf hP hD hS hl
      refine lv_iload_n hx hb dX4_forgetFindings_16 rfl (lv_at hl 1 rfl) ?_
      refine lv_bipush (v := 16) hx hb dX4_forgetFindings_17 (by decide) ?_
      refine lv_icmp_ge (tgt := 35) hx hb dX4_forgetFindings_19 (by decide) (fun c_19 => ?_) (fun c_19 => ?_)
      ·
        have c_19 : 16 ≤ i := (nI_leI (a := 16) (b := i) (by omega) (by omega)).mp c_19
        exact ret _ _ _ _ _ _ _ (Nat.le_of_ble_eq_true rfl) (Nat.le_of_ble_eq_true rfl) (by obtain rfl : i = 16 := (by omega); subst hf; rfl) (hP.sub (ws' := [(h0, OB 4 [.ref sy, .ref mu, .ref mz, .ref ex, .int st]), (sy, OB 0 [.ref sm, .ref sw, .int (nI n)]), (sm, AJ G 10 md), (sw, AI G 10 wt), (mu, OB 3 [.ref ma, .int (nI 0)]), (ma, AI G 252 uf), (mz, OB 3 [.ref mb, .int (nI 0)]), (mb, AI G 252 zf), (ex, AJ G 16 f)]) [0, 1, 2, 3, 5, 6, 7, 8, 4] rfl) (hD.sub (ws' := [(h0, OB 4 [.ref sy, .ref mu, .ref mz, .ref ex, .int st]), (sy, OB 0 [.ref sm, .ref sw, .int (nI n)]), (sm, AJ G 10 md), (sw, AI G 10 wt), (mu, OB 3 [.ref ma, .int (nI 0)]), (ma, AI G 252 uf), (mz, OB 3 [.ref mb, .int (nI 0)]), (mb, AI G 252 zf), (ex, AJ G 16 f)]) [0, 1, 2, 3, 5, 6, 7, 8, 4] (by decide) rfl) hS dX4_forgetFindings_35
      ·
        have c_19 : i < 16 := by have h9 := mt (nI_leI (a := 16) (b := i) (by omega) (by omega)).mpr c_19; omega
        refine lv_aload_n hx hb dX4_forgetFindings_22 rfl (lv_at hl 0 rfl) ?_
        refine va_get (D := G.1) (ci := 4) (v := .ref ex) (C := RX4) (T := TX4) (N := 5) hx hb hts hi4 hown hK hP 0 rfl rfl 3 (by decide) (hts (.fieldLink RX4 28 "ConflictEnumerator$State" "explored" "[J") (List.mem_of_getElem? (i := 3) rfl)) (fun _ h9 => h9) rfl dX4_forgetFindings_23 ?_
        refine lv_iload_n hx hb dX4_forgetFindings_26 rfl (lv_at hl 1 rfl) ?_
        refine lv_lconst (v := 0) hx hb dX4_forgetFindings_27 (by decide) ?_
        refine wa_last hx hb hK hP hD hS 4 rfl (i) (rfl) (by omega) (by decide) dX4_forgetFindings_28 (fun H locs hP hD hS => ?_)
        have hP : va_P G.1 vwCl [(h0, OB 4 [.ref sy, .ref mu, .ref mz, .ref ex, .int st]), (sy, OB 0 [.ref sm, .ref sw, .int (nI n)]), (sm, AJ G 10 md), (sw, AI G 10 wt), (ex, AJ G 16 (va_up f i 0)), (mu, OB 3 [.ref ma, .int (nI 0)]), (ma, AI G 252 uf), (mz, OB 3 [.ref mb, .int (nI 0)]), (mb, AI G 252 zf)] H := hP
        have hD : va_D A [(h0, OB 4 [.ref sy, .ref mu, .ref mz, .ref ex, .int st]), (sy, OB 0 [.ref sm, .ref sw, .int (nI n)]), (sm, AJ G 10 md), (sw, AI G 10 wt), (ex, AJ G 16 (va_up f i 0)), (mu, OB 3 [.ref ma, .int (nI 0)]), (ma, AI G 252 uf), (mz, OB 3 [.ref mb, .int (nI 0)]), (mb, AI G 252 zf)] := hD
        refine lv_iinc (v := nI (i + 1)) (lv' := [(1, .int (nI (i + 1))), (0, .ref h0)]) hx hb dX4_forgetFindings_29 hl (k := 1) rfl (nI_inc (i) 1) (by decide) rfl (fun ls hl => ?_)
        refine lv_goto (tgt := 16) hx hb dX4_forgetFindings_32 (by decide) ?_
        exact ih (i + 1) (va_up f i 0) _ _ _ (by omega) (by omega) (by subst hf; exact zF_s xf i) (hP.sub (ws' := [(h0, OB 4 [.ref sy, .ref mu, .ref mz, .ref ex, .int st]), (sy, OB 0 [.ref sm, .ref sw, .int (nI n)]), (sm, AJ G 10 md), (sw, AI G 10 wt), (ex, AJ G 16 (va_up f i 0)), (mu, OB 3 [.ref ma, .int (nI 0)]), (ma, AI G 252 uf), (mz, OB 3 [.ref mb, .int (nI 0)]), (mb, AI G 252 zf)]) [0, 1, 2, 3, 4, 5, 6, 7, 8] rfl) (hD.sub (ws' := [(h0, OB 4 [.ref sy, .ref mu, .ref mz, .ref ex, .int st]), (sy, OB 0 [.ref sm, .ref sw, .int (nI n)]), (sm, AJ G 10 md), (sw, AI G 10 wt), (ex, AJ G 16 (va_up f i 0)), (mu, OB 3 [.ref ma, .int (nI 0)]), (ma, AI G 252 uf), (mz, OB 3 [.ref mb, .int (nI 0)]), (mb, AI G 252 zf)]) [0, 1, 2, 3, 4, 5, 6, 7, 8] (by decide) rfl) hS (lv_sub (l' := [(0, .ref h0), (1, .int (nI (i + 1)))]) hl [1, 0] rfl)
  exact L16 ((16 - 0) + 1) 0 xf _ _ _ (Nat.lt_succ_self _) (Nat.zero_le 16) ((zF_0 xf).symm) (hP.sub (ws' := [(h0, OB 4 [.ref sy, .ref mu, .ref mz, .ref ex, .int st]), (sy, OB 0 [.ref sm, .ref sw, .int (nI n)]), (sm, AJ G 10 md), (sw, AI G 10 wt), (ex, AJ G 16 xf), (mu, OB 3 [.ref ma, .int (nI 0)]), (ma, AI G 252 uf), (mz, OB 3 [.ref mb, .int (nI 0)]), (mb, AI G 252 zf)]) [0, 1, 2, 3, 4, 5, 6, 7, 8] rfl) (hD.sub (ws' := [(h0, OB 4 [.ref sy, .ref mu, .ref mz, .ref ex, .int st]), (sy, OB 0 [.ref sm, .ref sw, .int (nI n)]), (sm, AJ G 10 md), (sw, AI G 10 wt), (ex, AJ G 16 xf), (mu, OB 3 [.ref ma, .int (nI 0)]), (ma, AI G 252 uf), (mz, OB 3 [.ref mb, .int (nI 0)]), (mb, AI G 252 zf)]) [0, 1, 2, 3, 4, 5, 6, 7, 8] (by decide) rfl) hS (lv_sub (l' := [(0, .ref h0), (1, .int (nI 0))]) hl [1, 0] rfl)
abbrev rmX4_replaceSystem : Room := { frames := 2, cells := 0, slots := 0, locals := 81 }
set_option maxHeartbeats 4000000 in
set_option maxRecDepth 100000 in
theorem c_X4_replaceSystem (l : Launch) (G : GT) (h0 sy sm sw mu ma mz mb ex : Nat) (md : Nat → Int64) (wt : Nat → Int32) (n : Nat) (uf : Nat → Int32) (un : Nat) (zf : Nat → Int32) (zn : Nat) (xf : Nat → Int64) (st : Int32) (h1 hm1 hw1 : Nat) (md1 : Nat → Int64) (wt1 : Nat → Int32) (n1 : Nat)  : Cv l yX4_replaceSystem wsX4_replaceSystem rmX4_replaceSystem G [.ref h0, .ref h1] [(h0, OB 4 [.ref sy, .ref mu, .ref mz, .ref ex, .int st]), (sy, OB 0 [.ref sm, .ref sw, .int (nI n)]), (sm, AJ G 10 md), (sw, AI G 10 wt), (mu, OB 3 [.ref ma, .int (nI un)]), (ma, AI G 252 uf), (mz, OB 3 [.ref mb, .int (nI zn)]), (mb, AI G 252 zf), (ex, AJ G 16 xf), (h1, OB 0 [.ref hm1, .ref hw1, .int (nI n1)]), (hm1, AJ G 10 md1), (hw1, AI G 10 wt1)] (fun u => u = [(h0, OB 4 [.ref sy, .ref mu, .ref mz, .ref ex, .int st]), (sy, OB 0 [.ref sm, .ref sw, .int (nI n1)]), (sm, AJ G 10 md1), (sw, AI G 10 wt1), (mu, OB 3 [.ref ma, .int (nI 0)]), (ma, AI G 252 uf), (mz, OB 3 [.ref mb, .int (nI 0)]), (mb, AI G 252 zf), (ex, AJ G 16 (zF xf 16)), (h1, OB 0 [.ref hm1, .ref hw1, .int (nI n1)]), (hm1, AJ G 10 md1), (hw1, AI G 10 wt1)]) := by
  refine Cv.of (cc := cX4_replaceSystem) (maxL := 2) (by decide) rfl (Nat.le_of_ble_eq_true rfl) ?_
  intro p e s m below meth c A ls Q hx hb hml hts hown hin hA hS hP hK hN hSS hD hl ret
  have hown : s.vm.findClass RX4 = some m.cls := hown
  have hl : lv_has ls 2 [(0, .ref h0), (1, .ref h1)] := hl
  have hi4 : ∀ w ∈ wsX40, w ∈ wsX4_replaceSystem := mem_places [28, 29, 30, 31, 32] (by decide +kernel)
  refine lv_aload_n hx hb dX4_replaceSystem_0 rfl (lv_at hl 0 rfl) ?_
  refine va_get (D := G.1) (ci := 4) (v := .ref sy) (C := RX4) (T := TX4) (N := 5) hx hb hts hi4 hown hK hP 0 rfl rfl 0 (by decide) (hts (.fieldLink RX4 12 "ConflictEnumerator$State" "system" "LConflictEnumerator$Constraints;") (List.mem_of_getElem? (i := 1) rfl)) (fun _ h9 => h9) rfl dX4_replaceSystem_1 ?_
  refine lv_aload_n hx hb dX4_replaceSystem_4 rfl (lv_at hl 1 rfl) ?_
  refine call_Vv (rest := []) (As := [.ref h1]) (wr := [(h0, OB 4 [.ref sy, .ref mu, .ref mz, .ref ex, .int st]), (mu, OB 3 [.ref ma, .int (nI un)]), (ma, AI G 252 uf), (mz, OB 3 [.ref mb, .int (nI zn)]), (mb, AI G 252 zf), (ex, AJ G 16 xf)]) (c1 := 0) (s1 := 0) ⟨hx, hb, hml, hown, hts⟩ (c_X0_copyFrom l G sy sm sw md wt n h1 hm1 hw1 md1 wt1 n1 ) (cwV 1 hts gX4_replaceSystem_X0_copyFrom rfl rfl rfl (by decide +kernel) ⟨Nat.le_of_ble_eq_true rfl, Nat.le_of_ble_eq_true rfl⟩) hK hN hSS hP hD hS hA 0 0 rfl rfl rfl [1, 2, 3, 9, 10, 11] [0, 4, 5, 6, 7, 8] rfl rfl (by decide) (by decide) (by decide) rfl hl.1 rfl (Nat.le_of_ble_eq_true rfl) dX4_replaceSystem_5 ⟨Nat.le_of_ble_eq_true rfl, Nat.le_of_ble_eq_true rfl⟩ rfl rfl (fun u_5 H locs hpo hP hD hS => ?_)
  subst hpo
  have hP : va_P G.1 vwCl [(h0, OB 4 [.ref sy, .ref mu, .ref mz, .ref ex, .int st]), (mu, OB 3 [.ref ma, .int (nI un)]), (ma, AI G 252 uf), (mz, OB 3 [.ref mb, .int (nI zn)]), (mb, AI G 252 zf), (ex, AJ G 16 xf), (sy, OB 0 [.ref sm, .ref sw, .int (nI n1)]), (sm, AJ G 10 md1), (sw, AI G 10 wt1), (h1, OB 0 [.ref hm1, .ref hw1, .int (nI n1)]), (hm1, AJ G 10 md1), (hw1, AI G 10 wt1)] H := hP
  have hD : va_D A [(h0, OB 4 [.ref sy, .ref mu, .ref mz, .ref ex, .int st]), (mu, OB 3 [.ref ma, .int (nI un)]), (ma, AI G 252 uf), (mz, OB 3 [.ref mb, .int (nI zn)]), (mb, AI G 252 zf), (ex, AJ G 16 xf), (sy, OB 0 [.ref sm, .ref sw, .int (nI n1)]), (sm, AJ G 10 md1), (sw, AI G 10 wt1), (h1, OB 0 [.ref hm1, .ref hw1, .int (nI n1)]), (hm1, AJ G 10 md1), (hw1, AI G 10 wt1)] := hD
  refine lv_aload_n hx hb dX4_replaceSystem_8 rfl (lv_at hl 0 rfl) ?_
  refine call_Vv (rest := []) (As := []) (wr := [(h1, OB 0 [.ref hm1, .ref hw1, .int (nI n1)]), (hm1, AJ G 10 md1), (hw1, AI G 10 wt1)]) (c1 := 0) (s1 := 0) ⟨hx, hb, hml, hown, hts⟩ (c_X4_forgetFindings l G h0 sy sm sw mu ma mz mb ex md1 wt1 n1 uf un zf zn xf st ) (cwV 0 hts gX4_replaceSystem_X4_forgetFindings rfl rfl rfl (by decide +kernel) ⟨Nat.le_of_ble_eq_true rfl, Nat.le_of_ble_eq_true rfl⟩) hK hN hSS hP hD hS hA 0 4 rfl rfl rfl [0, 6, 7, 8, 1, 2, 3, 4, 5] [9, 10, 11] rfl rfl (by decide) (by decide) (by decide) rfl hl.1 rfl (Nat.le_of_ble_eq_true rfl) dX4_replaceSystem_9 ⟨Nat.le_of_ble_eq_true rfl, Nat.le_of_ble_eq_true rfl⟩ rfl rfl (fun u_9 H locs hpo hP hD hS => ?_)
  subst hpo
  have hP : va_P G.1 vwCl [(h1, OB 0 [.ref hm1, .ref hw1, .int (nI n1)]), (hm1, AJ G 10 md1), (hw1, AI G 10 wt1), (h0, OB 4 [.ref sy, .ref mu, .ref mz, .ref ex, .int st]), (sy, OB 0 [.ref sm, .ref sw, .int (nI n1)]), (sm, AJ G 10 md1), (sw, AI G 10 wt1), (mu, OB 3 [.ref ma, .int (nI 0)]), (ma, AI G 252 uf), (mz, OB 3 [.ref mb, .int (nI 0)]), (mb, AI G 252 zf), (ex, AJ G 16 (zF xf 16))] H := hP
  have hD : va_D A [(h1, OB 0 [.ref hm1, .ref hw1, .int (nI n1)]), (hm1, AJ G 10 md1), (hw1, AI G 10 wt1), (h0, OB 4 [.ref sy, .ref mu, .ref mz, .ref ex, .int st]), (sy, OB 0 [.ref sm, .ref sw, .int (nI n1)]), (sm, AJ G 10 md1), (sw, AI G 10 wt1), (mu, OB 3 [.ref ma, .int (nI 0)]), (ma, AI G 252 uf), (mz, OB 3 [.ref mb, .int (nI 0)]), (mb, AI G 252 zf), (ex, AJ G 16 (zF xf 16))] := hD
  exact ret _ _ _ _ _ _ _ (Nat.le_of_ble_eq_true rfl) (Nat.le_of_ble_eq_true rfl) (rfl) (hP.sub (ws' := [(h0, OB 4 [.ref sy, .ref mu, .ref mz, .ref ex, .int st]), (sy, OB 0 [.ref sm, .ref sw, .int (nI n1)]), (sm, AJ G 10 md1), (sw, AI G 10 wt1), (mu, OB 3 [.ref ma, .int (nI 0)]), (ma, AI G 252 uf), (mz, OB 3 [.ref mb, .int (nI 0)]), (mb, AI G 252 zf), (ex, AJ G 16 (zF xf 16)), (h1, OB 0 [.ref hm1, .ref hw1, .int (nI n1)]), (hm1, AJ G 10 md1), (hw1, AI G 10 wt1)]) [3, 4, 5, 6, 7, 8, 9, 10, 11, 0, 1, 2] rfl) (hD.sub (ws' := [(h0, OB 4 [.ref sy, .ref mu, .ref mz, .ref ex, .int st]), (sy, OB 0 [.ref sm, .ref sw, .int (nI n1)]), (sm, AJ G 10 md1), (sw, AI G 10 wt1), (mu, OB 3 [.ref ma, .int (nI 0)]), (ma, AI G 252 uf), (mz, OB 3 [.ref mb, .int (nI 0)]), (mb, AI G 252 zf), (ex, AJ G 16 (zF xf 16)), (h1, OB 0 [.ref hm1, .ref hw1, .int (nI n1)]), (hm1, AJ G 10 md1), (hw1, AI G 10 wt1)]) [3, 4, 5, 6, 7, 8, 9, 10, 11, 0, 1, 2] (by decide) rfl) hS dX4_replaceSystem_12
abbrev rmX4_deleteConstraint : Room := { frames := 2, cells := 0, slots := 0, locals := 43 }
set_option maxHeartbeats 4000000 in
set_option maxRecDepth 100000 in
theorem c_X4_deleteConstraint (l : Launch) (G : GT) (h0 sy sm sw mu ma mz mb ex : Nat) (md : Nat → Int64) (wt : Nat → Int32) (n : Nat) (uf : Nat → Int32) (un : Nat) (zf : Nat → Int32) (zn : Nat) (xf : Nat → Int64) (st : Int32) (k : Nat) (hn : n ≤ 10) (hk1 : k < n) : Cv l yX4_deleteConstraint wsX4_deleteConstraint rmX4_deleteConstraint G [.ref h0, .int (nI k)] [(h0, OB 4 [.ref sy, .ref mu, .ref mz, .ref ex, .int st]), (sy, OB 0 [.ref sm, .ref sw, .int (nI n)]), (sm, AJ G 10 md), (sw, AI G 10 wt), (mu, OB 3 [.ref ma, .int (nI un)]), (ma, AI G 252 uf), (mz, OB 3 [.ref mb, .int (nI zn)]), (mb, AI G 252 zf), (ex, AJ G 16 xf)] (fun u => u = [(h0, OB 4 [.ref sy, .ref mu, .ref mz, .ref ex, .int st]), (sy, OB 0 [.ref sm, .ref sw, .int (nI (n - 1))]), (sm, AJ G 10 (dlF md k (n - 1))), (sw, AI G 10 (dlF wt k (n - 1))), (mu, OB 3 [.ref ma, .int (nI 0)]), (ma, AI G 252 uf), (mz, OB 3 [.ref mb, .int (nI 0)]), (mb, AI G 252 zf), (ex, AJ G 16 (zF xf 16))]) := by
  refine Cv.of (cc := cX4_deleteConstraint) (maxL := 2) (by decide) rfl (Nat.le_of_ble_eq_true rfl) ?_
  intro p e s m below meth c A ls Q hx hb hml hts hown hin hA hS hP hK hN hSS hD hl ret
  have hown : s.vm.findClass RX4 = some m.cls := hown
  have hl : lv_has ls 2 [(0, .ref h0), (1, .int (nI k))] := hl
  have hi4 : ∀ w ∈ wsX40, w ∈ wsX4_deleteConstraint := mem_places [28, 29, 30, 31, 32] (by decide +kernel)
  refine lv_aload_n hx hb dX4_deleteConstraint_0 rfl (lv_at hl 0 rfl) ?_
  refine va_get (D := G.1) (ci := 4) (v := .ref sy) (C := RX4) (T := TX4) (N := 5) hx hb hts hi4 hown hK hP 0 rfl rfl 0 (by decide) (hts (.fieldLink RX4 12 "ConflictEnumerator$State" "system" "LConflictEnumerator$Constraints;") (List.mem_of_getElem? (i := 1) rfl)) (fun _ h9 => h9) rfl dX4_deleteConstraint_1 ?_
  refine lv_iload_n hx hb dX4_deleteConstraint_4 rfl (lv_at hl 1 rfl) ?_
  refine call_Vv (rest := []) (As := [.int (nI k)]) (wr := [(h0, OB 4 [.ref sy, .ref mu, .ref mz, .ref ex, .int st]), (mu, OB 3 [.ref ma, .int (nI un)]), (ma, AI G 252 uf), (mz, OB 3 [.ref mb, .int (nI zn)]), (mb, AI G 252 zf), (ex, AJ G 16 xf)]) (c1 := 0) (s1 := 0) ⟨hx, hb, hml, hown, hts⟩ (c_X0_delete l G sy sm sw md wt n k (by first | assumption | omega) (by first | assumption | omega)) (cwV 1 hts gX4_deleteConstraint_X0_delete rfl rfl rfl (by decide +kernel) ⟨Nat.le_of_ble_eq_true rfl, Nat.le_of_ble_eq_true rfl⟩) hK hN hSS hP hD hS hA 0 0 rfl rfl rfl [1, 2, 3] [0, 4, 5, 6, 7, 8] rfl rfl (by decide) (by decide) (by decide) rfl hl.1 rfl (Nat.le_of_ble_eq_true rfl) dX4_deleteConstraint_5 ⟨Nat.le_of_ble_eq_true rfl, Nat.le_of_ble_eq_true rfl⟩ rfl rfl (fun u_5 H locs hpo hP hD hS => ?_)
  subst hpo
  have hP : va_P G.1 vwCl [(h0, OB 4 [.ref sy, .ref mu, .ref mz, .ref ex, .int st]), (mu, OB 3 [.ref ma, .int (nI un)]), (ma, AI G 252 uf), (mz, OB 3 [.ref mb, .int (nI zn)]), (mb, AI G 252 zf), (ex, AJ G 16 xf), (sy, OB 0 [.ref sm, .ref sw, .int (nI (n - 1))]), (sm, AJ G 10 (dlF md k (n - 1))), (sw, AI G 10 (dlF wt k (n - 1)))] H := hP
  have hD : va_D A [(h0, OB 4 [.ref sy, .ref mu, .ref mz, .ref ex, .int st]), (mu, OB 3 [.ref ma, .int (nI un)]), (ma, AI G 252 uf), (mz, OB 3 [.ref mb, .int (nI zn)]), (mb, AI G 252 zf), (ex, AJ G 16 xf), (sy, OB 0 [.ref sm, .ref sw, .int (nI (n - 1))]), (sm, AJ G 10 (dlF md k (n - 1))), (sw, AI G 10 (dlF wt k (n - 1)))] := hD
  refine lv_aload_n hx hb dX4_deleteConstraint_8 rfl (lv_at hl 0 rfl) ?_
  refine call_Vv (rest := []) (As := []) (wr := []) (c1 := 0) (s1 := 0) ⟨hx, hb, hml, hown, hts⟩ (c_X4_forgetFindings l G h0 sy sm sw mu ma mz mb ex (dlF md k (n - 1)) (dlF wt k (n - 1)) (n - 1) uf un zf zn xf st ) (cwV 0 hts gX4_deleteConstraint_X4_forgetFindings rfl rfl rfl (by decide +kernel) ⟨Nat.le_of_ble_eq_true rfl, Nat.le_of_ble_eq_true rfl⟩) hK hN hSS hP hD hS hA 0 4 rfl rfl rfl [0, 6, 7, 8, 1, 2, 3, 4, 5] [] rfl rfl (by decide) (by decide) (by decide) rfl hl.1 rfl (Nat.le_of_ble_eq_true rfl) dX4_deleteConstraint_9 ⟨Nat.le_of_ble_eq_true rfl, Nat.le_of_ble_eq_true rfl⟩ rfl rfl (fun u_9 H locs hpo hP hD hS => ?_)
  subst hpo
  have hP : va_P G.1 vwCl [(h0, OB 4 [.ref sy, .ref mu, .ref mz, .ref ex, .int st]), (sy, OB 0 [.ref sm, .ref sw, .int (nI (n - 1))]), (sm, AJ G 10 (dlF md k (n - 1))), (sw, AI G 10 (dlF wt k (n - 1))), (mu, OB 3 [.ref ma, .int (nI 0)]), (ma, AI G 252 uf), (mz, OB 3 [.ref mb, .int (nI 0)]), (mb, AI G 252 zf), (ex, AJ G 16 (zF xf 16))] H := hP
  have hD : va_D A [(h0, OB 4 [.ref sy, .ref mu, .ref mz, .ref ex, .int st]), (sy, OB 0 [.ref sm, .ref sw, .int (nI (n - 1))]), (sm, AJ G 10 (dlF md k (n - 1))), (sw, AI G 10 (dlF wt k (n - 1))), (mu, OB 3 [.ref ma, .int (nI 0)]), (ma, AI G 252 uf), (mz, OB 3 [.ref mb, .int (nI 0)]), (mb, AI G 252 zf), (ex, AJ G 16 (zF xf 16))] := hD
  exact ret _ _ _ _ _ _ _ (Nat.le_of_ble_eq_true rfl) (Nat.le_of_ble_eq_true rfl) (rfl) (hP.sub (ws' := [(h0, OB 4 [.ref sy, .ref mu, .ref mz, .ref ex, .int st]), (sy, OB 0 [.ref sm, .ref sw, .int (nI (n - 1))]), (sm, AJ G 10 (dlF md k (n - 1))), (sw, AI G 10 (dlF wt k (n - 1))), (mu, OB 3 [.ref ma, .int (nI 0)]), (ma, AI G 252 uf), (mz, OB 3 [.ref mb, .int (nI 0)]), (mb, AI G 252 zf), (ex, AJ G 16 (zF xf 16))]) [0, 1, 2, 3, 4, 5, 6, 7, 8] rfl) (hD.sub (ws' := [(h0, OB 4 [.ref sy, .ref mu, .ref mz, .ref ex, .int st]), (sy, OB 0 [.ref sm, .ref sw, .int (nI (n - 1))]), (sm, AJ G 10 (dlF md k (n - 1))), (sw, AI G 10 (dlF wt k (n - 1))), (mu, OB 3 [.ref ma, .int (nI 0)]), (ma, AI G 252 uf), (mz, OB 3 [.ref mb, .int (nI 0)]), (mb, AI G 252 zf), (ex, AJ G 16 (zF xf 16))]) [0, 1, 2, 3, 4, 5, 6, 7, 8] (by decide) rfl) hS dX4_deleteConstraint_12
abbrev rmX4_changeHardness : Room := { frames := 2, cells := 0, slots := 0, locals := 43 }
set_option maxHeartbeats 4000000 in
set_option maxRecDepth 100000 in
theorem c_X4_changeHardness (l : Launch) (G : GT) (h0 sy sm sw mu ma mz mb ex : Nat) (md : Nat → Int64) (wt : Nat → Int32) (n : Nat) (uf : Nat → Int32) (un : Nat) (zf : Nat → Int32) (zn : Nat) (xf : Nat → Int64) (st : Int32) (k : Nat) (hd : Bool) (hn : n ≤ 10) (hk1 : k < n) : Cv l yX4_changeHardness wsX4_changeHardness rmX4_changeHardness G [.ref h0, .int (nI k), .int (bI hd)] [(h0, OB 4 [.ref sy, .ref mu, .ref mz, .ref ex, .int st]), (sy, OB 0 [.ref sm, .ref sw, .int (nI n)]), (sm, AJ G 10 md), (sw, AI G 10 wt), (mu, OB 3 [.ref ma, .int (nI un)]), (ma, AI G 252 uf), (mz, OB 3 [.ref mb, .int (nI zn)]), (mb, AI G 252 zf), (ex, AJ G 16 xf)] (fun u => u = [(h0, OB 4 [.ref sy, .ref mu, .ref mz, .ref ex, .int st]), (sy, OB 0 [.ref sm, .ref sw, .int (nI n)]), (sm, AJ G 10 md), (sw, AI G 10 (va_up wt k (if hd = true then 0 else 1))), (mu, OB 3 [.ref ma, .int (nI 0)]), (ma, AI G 252 uf), (mz, OB 3 [.ref mb, .int (nI 0)]), (mb, AI G 252 zf), (ex, AJ G 16 (zF xf 16))]) := by
  refine Cv.of (cc := cX4_changeHardness) (maxL := 3) (by decide) rfl (Nat.le_of_ble_eq_true rfl) ?_
  intro p e s m below meth c A ls Q hx hb hml hts hown hin hA hS hP hK hN hSS hD hl ret
  have hown : s.vm.findClass RX4 = some m.cls := hown
  have hl : lv_has ls 3 [(0, .ref h0), (1, .int (nI k)), (2, .int (bI hd))] := hl
  have hi4 : ∀ w ∈ wsX40, w ∈ wsX4_changeHardness := mem_places [27, 28, 29, 30, 31] (by decide +kernel)
  refine lv_aload_n hx hb dX4_changeHardness_0 rfl (lv_at hl 0 rfl) ?_
  refine va_get (D := G.1) (ci := 4) (v := .ref sy) (C := RX4) (T := TX4) (N := 5) hx hb hts hi4 hown hK hP 0 rfl rfl 0 (by decide) (hts (.fieldLink RX4 12 "ConflictEnumerator$State" "system" "LConflictEnumerator$Constraints;") (List.mem_of_getElem? (i := 1) rfl)) (fun _ h9 => h9) rfl dX4_changeHardness_1 ?_
  refine lv_iload_n hx hb dX4_changeHardness_4 rfl (lv_at hl 1 rfl) ?_
  refine lv_iload_n hx hb dX4_changeHardness_5 rfl (lv_at hl 2 rfl) ?_
  refine wb_eq (tgt := 13) hx hb dX4_changeHardness_6 (by decide) (fun c_6 => ?_) (fun c_6 => ?_)
  ·
    refine lv_iconst (v := 1) hx hb dX4_changeHardness_13 (by decide) ?_
    refine call_Vv (rest := []) (As := [.int (nI k), .int 1]) (wr := [(h0, OB 4 [.ref sy, .ref mu, .ref mz, .ref ex, .int st]), (mu, OB 3 [.ref ma, .int (nI un)]), (ma, AI G 252 uf), (mz, OB 3 [.ref mb, .int (nI zn)]), (mb, AI G 252 zf), (ex, AJ G 16 xf)]) (c1 := 0) (s1 := 0) ⟨hx, hb, hml, hown, hts⟩ (c_X0_changeWeight l G sy sm sw md wt n k 1 (by first | assumption | omega) (by first | assumption | omega)) (cwV 2 hts gX4_changeHardness_X0_changeWeight rfl rfl rfl (by decide +kernel) ⟨Nat.le_of_ble_eq_true rfl, Nat.le_of_ble_eq_true rfl⟩) hK hN hSS hP hD hS hA 0 0 rfl rfl rfl [1, 2, 3] [0, 4, 5, 6, 7, 8] rfl rfl (by decide) (by decide) (by decide) rfl hl.1 rfl (Nat.le_of_ble_eq_true rfl) dX4_changeHardness_14 ⟨Nat.le_of_ble_eq_true rfl, Nat.le_of_ble_eq_true rfl⟩ rfl rfl (fun u_14 H locs hpo hP hD hS => ?_)
    subst hpo
    have hP : va_P G.1 vwCl [(h0, OB 4 [.ref sy, .ref mu, .ref mz, .ref ex, .int st]), (mu, OB 3 [.ref ma, .int (nI un)]), (ma, AI G 252 uf), (mz, OB 3 [.ref mb, .int (nI zn)]), (mb, AI G 252 zf), (ex, AJ G 16 xf), (sy, OB 0 [.ref sm, .ref sw, .int (nI n)]), (sm, AJ G 10 md), (sw, AI G 10 (va_up wt k 1))] H := hP
    have hD : va_D A [(h0, OB 4 [.ref sy, .ref mu, .ref mz, .ref ex, .int st]), (mu, OB 3 [.ref ma, .int (nI un)]), (ma, AI G 252 uf), (mz, OB 3 [.ref mb, .int (nI zn)]), (mb, AI G 252 zf), (ex, AJ G 16 xf), (sy, OB 0 [.ref sm, .ref sw, .int (nI n)]), (sm, AJ G 10 md), (sw, AI G 10 (va_up wt k 1))] := hD
    refine lv_aload_n hx hb dX4_changeHardness_17 rfl (lv_at hl 0 rfl) ?_
    refine call_Vv (rest := []) (As := []) (wr := []) (c1 := 0) (s1 := 0) ⟨hx, hb, hml, hown, hts⟩ (c_X4_forgetFindings l G h0 sy sm sw mu ma mz mb ex md (va_up wt k 1) n uf un zf zn xf st ) (cwV 0 hts gX4_changeHardness_X4_forgetFindings rfl rfl rfl (by decide +kernel) ⟨Nat.le_of_ble_eq_true rfl, Nat.le_of_ble_eq_true rfl⟩) hK hN hSS hP hD hS hA 0 4 rfl rfl rfl [0, 6, 7, 8, 1, 2, 3, 4, 5] [] rfl rfl (by decide) (by decide) (by decide) rfl hl.1 rfl (Nat.le_of_ble_eq_true rfl) dX4_changeHardness_18 ⟨Nat.le_of_ble_eq_true rfl, Nat.le_of_ble_eq_true rfl⟩ rfl rfl (fun u_18 H locs hpo hP hD hS => ?_)
    subst hpo
    have hP : va_P G.1 vwCl [(h0, OB 4 [.ref sy, .ref mu, .ref mz, .ref ex, .int st]), (sy, OB 0 [.ref sm, .ref sw, .int (nI n)]), (sm, AJ G 10 md), (sw, AI G 10 (va_up wt k 1)), (mu, OB 3 [.ref ma, .int (nI 0)]), (ma, AI G 252 uf), (mz, OB 3 [.ref mb, .int (nI 0)]), (mb, AI G 252 zf), (ex, AJ G 16 (zF xf 16))] H := hP
    have hD : va_D A [(h0, OB 4 [.ref sy, .ref mu, .ref mz, .ref ex, .int st]), (sy, OB 0 [.ref sm, .ref sw, .int (nI n)]), (sm, AJ G 10 md), (sw, AI G 10 (va_up wt k 1)), (mu, OB 3 [.ref ma, .int (nI 0)]), (ma, AI G 252 uf), (mz, OB 3 [.ref mb, .int (nI 0)]), (mb, AI G 252 zf), (ex, AJ G 16 (zF xf 16))] := hD
    exact ret _ _ _ _ _ _ _ (Nat.le_of_ble_eq_true rfl) (Nat.le_of_ble_eq_true rfl) (by rw [c_6]; rfl) (hP.sub (ws' := [(h0, OB 4 [.ref sy, .ref mu, .ref mz, .ref ex, .int st]), (sy, OB 0 [.ref sm, .ref sw, .int (nI n)]), (sm, AJ G 10 md), (sw, AI G 10 (va_up wt k 1)), (mu, OB 3 [.ref ma, .int (nI 0)]), (ma, AI G 252 uf), (mz, OB 3 [.ref mb, .int (nI 0)]), (mb, AI G 252 zf), (ex, AJ G 16 (zF xf 16))]) [0, 1, 2, 3, 4, 5, 6, 7, 8] rfl) (hD.sub (ws' := [(h0, OB 4 [.ref sy, .ref mu, .ref mz, .ref ex, .int st]), (sy, OB 0 [.ref sm, .ref sw, .int (nI n)]), (sm, AJ G 10 md), (sw, AI G 10 (va_up wt k 1)), (mu, OB 3 [.ref ma, .int (nI 0)]), (ma, AI G 252 uf), (mz, OB 3 [.ref mb, .int (nI 0)]), (mb, AI G 252 zf), (ex, AJ G 16 (zF xf 16))]) [0, 1, 2, 3, 4, 5, 6, 7, 8] (by decide) rfl) hS dX4_changeHardness_21
  ·
    refine lv_iconst (v := 0) hx hb dX4_changeHardness_9 (by decide) ?_
    refine lv_goto (tgt := 14) hx hb dX4_changeHardness_10 (by decide) ?_
    refine call_Vv (rest := []) (As := [.int (nI k), .int 0]) (wr := [(h0, OB 4 [.ref sy, .ref mu, .ref mz, .ref ex, .int st]), (mu, OB 3 [.ref ma, .int (nI un)]), (ma, AI G 252 uf), (mz, OB 3 [.ref mb, .int (nI zn)]), (mb, AI G 252 zf), (ex, AJ G 16 xf)]) (c1 := 0) (s1 := 0) ⟨hx, hb, hml, hown, hts⟩ (c_X0_changeWeight l G sy sm sw md wt n k 0 (by first | assumption | omega) (by first | assumption | omega)) (cwV 2 hts gX4_changeHardness_X0_changeWeight rfl rfl rfl (by decide +kernel) ⟨Nat.le_of_ble_eq_true rfl, Nat.le_of_ble_eq_true rfl⟩) hK hN hSS hP hD hS hA 0 0 rfl rfl rfl [1, 2, 3] [0, 4, 5, 6, 7, 8] rfl rfl (by decide) (by decide) (by decide) rfl hl.1 rfl (Nat.le_of_ble_eq_true rfl) dX4_changeHardness_14 ⟨Nat.le_of_ble_eq_true rfl, Nat.le_of_ble_eq_true rfl⟩ rfl rfl (fun u_14 H locs hpo hP hD hS => ?_)
    subst hpo
    have hP : va_P G.1 vwCl [(h0, OB 4 [.ref sy, .ref mu, .ref mz, .ref ex, .int st]), (mu, OB 3 [.ref ma, .int (nI un)]), (ma, AI G 252 uf), (mz, OB 3 [.ref mb, .int (nI zn)]), (mb, AI G 252 zf), (ex, AJ G 16 xf), (sy, OB 0 [.ref sm, .ref sw, .int (nI n)]), (sm, AJ G 10 md), (sw, AI G 10 (va_up wt k 0))] H := hP
    have hD : va_D A [(h0, OB 4 [.ref sy, .ref mu, .ref mz, .ref ex, .int st]), (mu, OB 3 [.ref ma, .int (nI un)]), (ma, AI G 252 uf), (mz, OB 3 [.ref mb, .int (nI zn)]), (mb, AI G 252 zf), (ex, AJ G 16 xf), (sy, OB 0 [.ref sm, .ref sw, .int (nI n)]), (sm, AJ G 10 md), (sw, AI G 10 (va_up wt k 0))] := hD
    refine lv_aload_n hx hb dX4_changeHardness_17 rfl (lv_at hl 0 rfl) ?_
    refine call_Vv (rest := []) (As := []) (wr := []) (c1 := 0) (s1 := 0) ⟨hx, hb, hml, hown, hts⟩ (c_X4_forgetFindings l G h0 sy sm sw mu ma mz mb ex md (va_up wt k 0) n uf un zf zn xf st ) (cwV 0 hts gX4_changeHardness_X4_forgetFindings rfl rfl rfl (by decide +kernel) ⟨Nat.le_of_ble_eq_true rfl, Nat.le_of_ble_eq_true rfl⟩) hK hN hSS hP hD hS hA 0 4 rfl rfl rfl [0, 6, 7, 8, 1, 2, 3, 4, 5] [] rfl rfl (by decide) (by decide) (by decide) rfl hl.1 rfl (Nat.le_of_ble_eq_true rfl) dX4_changeHardness_18 ⟨Nat.le_of_ble_eq_true rfl, Nat.le_of_ble_eq_true rfl⟩ rfl rfl (fun u_18 H locs hpo hP hD hS => ?_)
    subst hpo
    have hP : va_P G.1 vwCl [(h0, OB 4 [.ref sy, .ref mu, .ref mz, .ref ex, .int st]), (sy, OB 0 [.ref sm, .ref sw, .int (nI n)]), (sm, AJ G 10 md), (sw, AI G 10 (va_up wt k 0)), (mu, OB 3 [.ref ma, .int (nI 0)]), (ma, AI G 252 uf), (mz, OB 3 [.ref mb, .int (nI 0)]), (mb, AI G 252 zf), (ex, AJ G 16 (zF xf 16))] H := hP
    have hD : va_D A [(h0, OB 4 [.ref sy, .ref mu, .ref mz, .ref ex, .int st]), (sy, OB 0 [.ref sm, .ref sw, .int (nI n)]), (sm, AJ G 10 md), (sw, AI G 10 (va_up wt k 0)), (mu, OB 3 [.ref ma, .int (nI 0)]), (ma, AI G 252 uf), (mz, OB 3 [.ref mb, .int (nI 0)]), (mb, AI G 252 zf), (ex, AJ G 16 (zF xf 16))] := hD
    exact ret _ _ _ _ _ _ _ (Nat.le_of_ble_eq_true rfl) (Nat.le_of_ble_eq_true rfl) (by rw [c_6]; rfl) (hP.sub (ws' := [(h0, OB 4 [.ref sy, .ref mu, .ref mz, .ref ex, .int st]), (sy, OB 0 [.ref sm, .ref sw, .int (nI n)]), (sm, AJ G 10 md), (sw, AI G 10 (va_up wt k 0)), (mu, OB 3 [.ref ma, .int (nI 0)]), (ma, AI G 252 uf), (mz, OB 3 [.ref mb, .int (nI 0)]), (mb, AI G 252 zf), (ex, AJ G 16 (zF xf 16))]) [0, 1, 2, 3, 4, 5, 6, 7, 8] rfl) (hD.sub (ws' := [(h0, OB 4 [.ref sy, .ref mu, .ref mz, .ref ex, .int st]), (sy, OB 0 [.ref sm, .ref sw, .int (nI n)]), (sm, AJ G 10 md), (sw, AI G 10 (va_up wt k 0)), (mu, OB 3 [.ref ma, .int (nI 0)]), (ma, AI G 252 uf), (mz, OB 3 [.ref mb, .int (nI 0)]), (mb, AI G 252 zf), (ex, AJ G 16 (zF xf 16))]) [0, 1, 2, 3, 4, 5, 6, 7, 8] (by decide) rfl) hS dX4_changeHardness_21
abbrev rmX4_changeStrategy : Room := { frames := 0, cells := 0, slots := 0, locals := 0 }
set_option maxHeartbeats 4000000 in
set_option maxRecDepth 100000 in
theorem c_X4_changeStrategy (l : Launch) (G : GT) (h0 sy mu mz ex : Nat) (st : Int32) (x : Int32)  : Cv l yX4_changeStrategy wsX4_changeStrategy rmX4_changeStrategy G [.ref h0, .int x] [(h0, OB 4 [.ref sy, .ref mu, .ref mz, .ref ex, .int st])] (fun u => u = [(h0, OB 4 [.ref sy, .ref mu, .ref mz, .ref ex, .int x])]) := by
  refine Cv.of (cc := cX4_changeStrategy) (maxL := 2) (by decide) rfl (Nat.le_of_ble_eq_true rfl) ?_
  intro p e s m below meth c A ls Q hx hb hml hts hown hin hA hS hP hK hN hSS hD hl ret
  have hown : s.vm.findClass RX4 = some m.cls := hown
  have hl : lv_has ls 2 [(0, .ref h0), (1, .int x)] := hl
  have hi4 : ∀ w ∈ wsX40, w ∈ wsX4_changeStrategy := mem_places [2, 3, 4, 5, 6] (by decide +kernel)
  refine lv_aload_n hx hb dX4_changeStrategy_0 rfl (lv_at hl 0 rfl) ?_
  refine lv_iload_n hx hb dX4_changeStrategy_1 rfl (lv_at hl 1 rfl) ?_
  refine va_put (D := G.1) (ci := 4) (v := .int x) (ty := .int) (C := RX4) (T := TX4) (N := 5) hx hb hts hi4 tyX4 tyX4_ok nmX4 hown hK hP hD hS 0 rfl rfl 4 (by decide) (hts (.fieldLink RX4 32 "ConflictEnumerator$State" "strategy" "I") (List.mem_of_getElem? (i := 1) rfl)) (fun _ h9 => h9) rfl (by decide +kernel) rfl rfl (Nat.le_of_ble_eq_true rfl) dX4_changeStrategy_2 (fun H locs hP hD hS => ?_)
  have hP : va_P G.1 vwCl [(h0, OB 4 [.ref sy, .ref mu, .ref mz, .ref ex, .int x])] H := hP
  have hD : va_D A [(h0, OB 4 [.ref sy, .ref mu, .ref mz, .ref ex, .int x])] := hD
  exact ret _ _ _ _ _ _ _ (Nat.le_of_ble_eq_true rfl) (Nat.le_of_ble_eq_true rfl) (rfl) (hP.sub (ws' := [(h0, OB 4 [.ref sy, .ref mu, .ref mz, .ref ex, .int x])]) [0] rfl) (hD.sub (ws' := [(h0, OB 4 [.ref sy, .ref mu, .ref mz, .ref ex, .int x])]) [0] (by decide) rfl) hS dX4_changeStrategy_5
abbrev rmX4_isExplored : Room := { frames := 0, cells := 0, slots := 0, locals := 0 }
set_option maxHeartbeats 4000000 in
set_option maxRecDepth 100000 in
theorem c_X4_isExplored (l : Launch) (G : GT) (h0 sy mu mz ex : Nat) (st : Int32) (xf : Nat → Int64) (j : Nat) (hj : j < 1024) : Ci l yX4_isExplored wsX4_isExplored rmX4_isExplored G [.ref h0, .int (nI j)] [(h0, OB 4 [.ref sy, .ref mu, .ref mz, .ref ex, .int st]), (ex, AJ G 16 xf)] (fun r u => r = bI (exB xf j) ∧ u = [(h0, OB 4 [.ref sy, .ref mu, .ref mz, .ref ex, .int st]), (ex, AJ G 16 xf)]) := by
  refine Ci.of (cc := cX4_isExplored) (maxL := 3) (ty := .boolean) (by decide) rfl (Nat.le_of_ble_eq_true rfl) ?_
  intro p e s m below meth c A ls Q hx hb hml hts hown hA hS hP hK hN hSS hD hl ret
  have hown : s.vm.findClass RX4 = some m.cls := hown
  have hl : lv_has ls 3 [(0, .ref h0), (1, .int (nI j))] := hl
  have hi4 : ∀ w ∈ wsX40, w ∈ wsX4_isExplored := mem_places [2, 3, 4, 5, 6] (by decide +kernel)
  refine lv_iload_n hx hb dX4_isExplored_0 rfl (lv_at hl 1 rfl) ?_
  refine lv_bipush (v := 6) hx hb dX4_isExplored_1 (by decide) ?_
  refine lv_ishr hx hb dX4_isExplored_3 ?_
  rw [show (nI j) >>> (6 &&& 31) = nI (j / 64) from shr6 j hj]
  refine lv_istore_n (lv' := [(2, .int (nI (j / 64))), (0, .ref h0), (1, .int (nI j))]) hx hb dX4_isExplored_4 rfl hl (by decide) rfl (fun ls hl => ?_)
  refine lv_iload_n hx hb dX4_isExplored_5 rfl (lv_at hl 0 rfl) ?_
  refine lv_if_lt (tgt := 37) hx hb dX4_isExplored_6 (by decide) (fun c_6 => ?_) (fun c_6 => ?_)
  ·
    have c_6 : (j / 64) < 0 := (nI_ltI (a := j / 64) (b := 0) (by omega) (by omega)).mp c_6
    omega
  ·
    have c_6 : 0 ≤ (j / 64) := by have h9 := mt (nI_ltI (a := j / 64) (b := 0) (by omega) (by omega)).mpr c_6; omega
    refine lv_iload_n hx hb dX4_isExplored_9 rfl (lv_at hl 0 rfl) ?_
    refine lv_bipush (v := 16) hx hb dX4_isExplored_10 (by decide) ?_
    refine lv_icmp_ge (tgt := 37) hx hb dX4_isExplored_12 (by decide) (fun c_12 => ?_) (fun c_12 => ?_)
    ·
      have c_12 : 16 ≤ (j / 64) := (nI_leI (a := 16) (b := j / 64) (by omega) (by omega)).mp c_12
      omega
    ·
      have c_12 : (j / 64) < 16 := by have h9 := mt (nI_leI (a := 16) (b := j / 64) (by omega) (by omega)).mpr c_12; omega
      refine lv_aload_n hx hb dX4_isExplored_15 rfl (lv_at hl 1 rfl) ?_
      refine va_get (D := G.1) (ci := 4) (v := .ref ex) (C := RX4) (T := TX4) (N := 5) hx hb hts hi4 hown hK hP 0 rfl rfl 3 (by decide) (hts (.fieldLink RX4 28 "ConflictEnumerator$State" "explored" "[J") (List.mem_of_getElem? (i := 1) rfl)) (fun _ h9 => h9) rfl dX4_isExplored_16 ?_
      refine lv_iload_n hx hb dX4_isExplored_19 rfl (lv_at hl 0 rfl) ?_
      refine wa_lald hx hb hK hP 1 rfl (j / 64) (rfl) (by omega) (by decide) dX4_isExplored_20 ?_
      refine lv_iload_n hx hb dX4_isExplored_21 rfl (lv_at hl 2 rfl) ?_
      refine lv_bipush (v := 63) hx hb dX4_isExplored_22 (by decide) ?_
      refine lv_iand hx hb dX4_isExplored_24 ?_
      rw [show (nI j) &&& 63 = nI (j % 64) from and63 j]
      refine lv_lushr (v := ((xf (j / 64) : Int64).toUInt64 >>> ((nI (j % 64) : Int32).toInt64.toUInt64 &&& Int64.toUInt64 63)).toInt64) hx hb dX4_isExplored_25 rfl ?_
      refine lv_lconst (v := 1) hx hb dX4_isExplored_26 (by decide) ?_
      refine lv_land hx hb dX4_isExplored_27 ?_
      refine lv_lconst (v := 1) hx hb dX4_isExplored_28 (by decide) ?_
      refine W.lcmp hx hb dX4_isExplored_29 ?_
      refine wl_ne (tgt := 37) hx hb dX4_isExplored_30 (by decide) (fun c_30 => ?_) (fun c_30 => ?_)
      ·
        refine lv_iconst (v := 0) hx hb dX4_isExplored_37 (by decide) ?_
        exact ret 0 _ _ _ _ _ _ _ (Nat.le_of_ble_eq_true rfl) (Nat.le_of_ble_eq_true rfl) (rfl) (⟨by first | (have h9 := bitL_1.mp c_30; simp [bI, exB, h9]; done) | (have h9 := mt bitL_1.mpr c_30; simp at h9; simp [bI, exB, h9]), rfl⟩) (hP.sub (ws' := [(h0, OB 4 [.ref sy, .ref mu, .ref mz, .ref ex, .int st]), (ex, AJ G 16 xf)]) [0, 1] rfl) (hD.sub (ws' := [(h0, OB 4 [.ref sy, .ref mu, .ref mz, .ref ex, .int st]), (ex, AJ G 16 xf)]) [0, 1] (by decide) rfl) hS dX4_isExplored_38
      ·
        refine lv_iconst (v := 1) hx hb dX4_isExplored_33 (by decide) ?_
        refine lv_goto (tgt := 38) hx hb dX4_isExplored_34 (by decide) ?_
        exact ret 1 _ _ _ _ _ _ _ (Nat.le_of_ble_eq_true rfl) (Nat.le_of_ble_eq_true rfl) (rfl) (⟨by first | (have h9 := bitL_1.mp c_30; simp [bI, exB, h9]; done) | (have h9 := mt bitL_1.mpr c_30; simp at h9; simp [bI, exB, h9]), rfl⟩) (hP.sub (ws' := [(h0, OB 4 [.ref sy, .ref mu, .ref mz, .ref ex, .int st]), (ex, AJ G 16 xf)]) [0, 1] rfl) (hD.sub (ws' := [(h0, OB 4 [.ref sy, .ref mu, .ref mz, .ref ex, .int st]), (ex, AJ G 16 xf)]) [0, 1] (by decide) rfl) hS dX4_isExplored_38
abbrev rmX4_markExplored : Room := { frames := 0, cells := 0, slots := 0, locals := 0 }
set_option maxHeartbeats 4000000 in
set_option maxRecDepth 100000 in
theorem c_X4_markExplored (l : Launch) (G : GT) (h0 sy mu mz ex : Nat) (st : Int32) (xf : Nat → Int64) (j : Nat) (hj : j < 1024) : Cv l yX4_markExplored wsX4_markExplored rmX4_markExplored G [.ref h0, .int (nI j)] [(h0, OB 4 [.ref sy, .ref mu, .ref mz, .ref ex, .int st]), (ex, AJ G 16 xf)] (fun u => u = [(h0, OB 4 [.ref sy, .ref mu, .ref mz, .ref ex, .int st]), (ex, AJ G 16 (mkF xf j))]) := by
  refine Cv.of (cc := cX4_markExplored) (maxL := 3) (by decide) rfl (Nat.le_of_ble_eq_true rfl) ?_
  intro p e s m below meth c A ls Q hx hb hml hts hown hin hA hS hP hK hN hSS hD hl ret
  have hown : s.vm.findClass RX4 = some m.cls := hown
  have hl : lv_has ls 3 [(0, .ref h0), (1, .int (nI j))] := hl
  have hi4 : ∀ w ∈ wsX40, w ∈ wsX4_markExplored := mem_places [2, 3, 4, 5, 6] (by decide +kernel)
  refine lv_iload_n hx hb dX4_markExplored_0 rfl (lv_at hl 1 rfl) ?_
  refine lv_bipush (v := 6) hx hb dX4_markExplored_1 (by decide) ?_
  refine lv_ishr hx hb dX4_markExplored_3 ?_
  rw [show (nI j) >>> (6 &&& 31) = nI (j / 64) from shr6 j hj]
  refine lv_istore_n (lv' := [(2, .int (nI (j / 64))), (0, .ref h0), (1, .int (nI j))]) hx hb dX4_markExplored_4 rfl hl (by decide) rfl (fun ls hl => ?_)
  refine lv_iload_n hx hb dX4_markExplored_5 rfl (lv_at hl 0 rfl) ?_
  refine lv_if_lt (tgt := 30) hx hb dX4_markExplored_6 (by decide) (fun c_6 => ?_) (fun c_6 => ?_)
  ·
    have c_6 : (j / 64) < 0 := (nI_ltI (a := j / 64) (b := 0) (by omega) (by omega)).mp c_6
    omega
  ·
    have c_6 : 0 ≤ (j / 64) := by have h9 := mt (nI_ltI (a := j / 64) (b := 0) (by omega) (by omega)).mpr c_6; omega
    refine lv_iload_n hx hb dX4_markExplored_9 rfl (lv_at hl 0 rfl) ?_
    refine lv_bipush (v := 16) hx hb dX4_markExplored_10 (by decide) ?_
    refine lv_icmp_ge (tgt := 30) hx hb dX4_markExplored_12 (by decide) (fun c_12 => ?_) (fun c_12 => ?_)
    ·
      have c_12 : 16 ≤ (j / 64) := (nI_leI (a := 16) (b := j / 64) (by omega) (by omega)).mp c_12
      omega
    ·
      have c_12 : (j / 64) < 16 := by have h9 := mt (nI_leI (a := 16) (b := j / 64) (by omega) (by omega)).mpr c_12; omega
      refine lv_aload_n hx hb dX4_markExplored_15 rfl (lv_at hl 1 rfl) ?_
      refine va_get (D := G.1) (ci := 4) (v := .ref ex) (C := RX4) (T := TX4) (N := 5) hx hb hts hi4 hown hK hP 0 rfl rfl 3 (by decide) (hts (.fieldLink RX4 28 "ConflictEnumerator$State" "explored" "[J") (List.mem_of_getElem? (i := 1) rfl)) (fun _ h9 => h9) rfl dX4_markExplored_16 ?_
      refine lv_iload_n hx hb dX4_markExplored_19 rfl (lv_at hl 0 rfl) ?_
      refine lv_dup2_11 hx hb dX4_markExplored_20 rfl rfl ?_
      refine wa_lald hx hb hK hP 1 rfl (j / 64) (rfl) (by omega) (by decide) dX4_markExplored_21 ?_
      refine lv_lconst (v := 1) hx hb dX4_markExplored_22 (by decide) ?_
      refine lv_iload_n hx hb dX4_markExplored_23 rfl (lv_at hl 2 rfl) ?_
      refine lv_bipush (v := 63) hx hb dX4_markExplored_24 (by decide) ?_
      refine lv_iand hx hb dX4_markExplored_26 ?_
      rw [show (nI j) &&& 63 = nI (j % 64) from and63 j]
      refine lv_lshl (v := 1 <<< ((nI (j % 64) : Int32).toInt64 &&& 63)) hx hb dX4_markExplored_27 rfl ?_
      refine lv_lor hx hb dX4_markExplored_28 ?_
      refine wa_last hx hb hK hP hD hS 1 rfl (j / 64) (rfl) (by omega) (by decide) dX4_markExplored_29 (fun H locs hP hD hS => ?_)
      have hP : va_P G.1 vwCl [(h0, OB 4 [.ref sy, .ref mu, .ref mz, .ref ex, .int st]), (ex, AJ G 16 (va_up xf (j / 64) ((xf (j / 64)) ||| (1 <<< ((nI (j % 64) : Int32).toInt64 &&& 63)))))] H := hP
      have hD : va_D A [(h0, OB 4 [.ref sy, .ref mu, .ref mz, .ref ex, .int st]), (ex, AJ G 16 (va_up xf (j / 64) ((xf (j / 64)) ||| (1 <<< ((nI (j % 64) : Int32).toInt64 &&& 63)))))] := hD
      exact ret _ _ _ _ _ _ _ (Nat.le_of_ble_eq_true rfl) (Nat.le_of_ble_eq_true rfl) (rfl) (hP.sub (ws' := [(h0, OB 4 [.ref sy, .ref mu, .ref mz, .ref ex, .int st]), (ex, AJ G 16 (va_up xf (j / 64) ((xf (j / 64)) ||| (1 <<< ((nI (j % 64) : Int32).toInt64 &&& 63)))))]) [0, 1] rfl) (hD.sub (ws' := [(h0, OB 4 [.ref sy, .ref mu, .ref mz, .ref ex, .int st]), (ex, AJ G 16 (va_up xf (j / 64) ((xf (j / 64)) ||| (1 <<< ((nI (j % 64) : Int32).toInt64 &&& 63)))))]) [0, 1] (by decide) rfl) hS dX4_markExplored_30
abbrev rmX4_countUnexplored : Room := { frames := 1, cells := 0, slots := 0, locals := 22 }
set_option maxHeartbeats 4000000 in
set_option maxRecDepth 100000 in
theorem c_X4_countUnexplored (l : Launch) (G : GT) (h0 sy sm sw mu mz ex : Nat) (md : Nat → Int64) (wt : Nat → Int32) (n : Nat) (xf : Nat → Int64) (st : Int32) (hn : n ≤ 10) : Ci l yX4_countUnexplored wsX4_countUnexplored rmX4_countUnexplored G [.ref h0] [(h0, OB 4 [.ref sy, .ref mu, .ref mz, .ref ex, .int st]), (sy, OB 0 [.ref sm, .ref sw, .int (nI n)]), (sm, AJ G 10 md), (sw, AI G 10 wt), (ex, AJ G 16 xf)] (fun r u => r = nI (cntF (fun z => subB (nI z) (nI (softN wt n)) && !exB xf z) (softN wt n + 1)) ∧ u = [(h0, OB 4 [.ref sy, .ref mu, .ref mz, .ref ex, .int st]), (sy, OB 0 [.ref sm, .ref sw, .int (nI n)]), (sm, AJ G 10 md), (sw, AI G 10 wt), (ex, AJ G 16 xf)]) := by
  refine Ci.of (cc := cX4_countUnexplored) (maxL := 4) (ty := .int) (by decide) rfl (Nat.le_of_ble_eq_true rfl) ?_
  intro p e s m below meth c A ls Q hx hb hml hts hown hA hS hP hK hN hSS hD hl ret
  have hown : s.vm.findClass RX4 = some m.cls := hown
  have hl : lv_has ls 4 [(0, .ref h0)] := hl
  have hi4 : ∀ w ∈ wsX40, w ∈ wsX4_countUnexplored := mem_places [15, 16, 17, 18, 19] (by decide +kernel)
  have hsn := softN_1024 wt hn
  refine lv_aload_n hx hb dX4_countUnexplored_0 rfl (lv_at hl 0 rfl) ?_
  refine va_get (D := G.1) (ci := 4) (v := .ref sy) (C := RX4) (T := TX4) (N := 5) hx hb hts hi4 hown hK hP 0 rfl rfl 0 (by decide) (hts (.fieldLink RX4 12 "ConflictEnumerator$State" "system" "LConflictEnumerator$Constraints;") (List.mem_of_getElem? (i := 1) rfl)) (fun _ h9 => h9) rfl dX4_countUnexplored_1 ?_
  refine call_Vi (rest := []) (As := []) (wr := [(h0, OB 4 [.ref sy, .ref mu, .ref mz, .ref ex, .int st]), (ex, AJ G 16 xf)]) (c1 := 0) (s1 := 0) ⟨hx, hb, hml, hown, hts⟩ (c_X0_softMask l G sy sm sw md wt n (by first | assumption | omega)) (cwV 0 hts gX4_countUnexplored_X0_softMask rfl rfl rfl (by decide +kernel) ⟨Nat.le_of_ble_eq_true rfl, Nat.le_of_ble_eq_true rfl⟩) hK hN hSS hP hD hS hA 0 0 rfl rfl rfl [1, 2, 3] [0, 4] rfl rfl (by decide) (by decide) (by decide) rfl hl.1 rfl (Nat.le_of_ble_eq_true rfl) dX4_countUnexplored_4 ⟨Nat.le_of_ble_eq_true rfl, Nat.le_of_ble_eq_true rfl⟩ rfl rfl (fun r_4 u_4 H locs hpo hP hD hS => ?_)
  obtain ⟨hr9, rfl⟩ := hpo
  subst r_4
  have hP : va_P G.1 vwCl [(h0, OB 4 [.ref sy, .ref mu, .ref mz, .ref ex, .int st]), (ex, AJ G 16 xf), (sy, OB 0 [.ref sm, .ref sw, .int (nI n)]), (sm, AJ G 10 md), (sw, AI G 10 wt)] H := hP
  have hD : va_D A [(h0, OB 4 [.ref sy, .ref mu, .ref mz, .ref ex, .int st]), (ex, AJ G 16 xf), (sy, OB 0 [.ref sm, .ref sw, .int (nI n)]), (sm, AJ G 10 md), (sw, AI G 10 wt)] := hD
  rw [show softM wt n = nI (softN wt n) from softM_nI wt n (by omega)]
  refine lv_istore_n (lv' := [(1, .int (nI (softN wt n))), (0, .ref h0)]) hx hb dX4_countUnexplored_7 rfl hl (by decide) rfl (fun ls hl => ?_)
  refine lv_iconst (v := 0) hx hb dX4_countUnexplored_8 (by decide) ?_
  refine lv_istore_n (lv' := [(2, .int 0), (1, .int (nI (softN wt n))), (0, .ref h0)]) hx hb dX4_countUnexplored_9 rfl hl (by decide) rfl (fun ls hl => ?_)
  refine lv_iconst (v := 0) hx hb dX4_countUnexplored_10 (by decide) ?_
  refine lv_istore_n (lv' := [(3, .int 0), (2, .int 0), (1, .int (nI (softN wt n))), (0, .ref h0)]) hx hb dX4_countUnexplored_11 rfl hl (by decide) rfl (fun ls hl => ?_)
  have L12 : ∀ (kf : Nat) (j c2 : Nat) (H : Heap) (locs : List Loc) (ls : Array Slot), softN wt n + 1 - j < kf → (j ≤ softN wt n + 1) → (c2 = cntF (fun z => subB (nI z) (nI (softN wt n)) && !exB xf z) j) → va_P G.1 vwCl [(h0, OB 4 [.ref sy, .ref mu, .ref mz, .ref ex, .int st]), (ex, AJ G 16 xf), (sy, OB 0 [.ref sm, .ref sw, .int (nI n)]), (sm, AJ G 10 md), (sw, AI G 10 wt)] H → va_D A [(h0, OB 4 [.ref sy, .ref mu, .ref mz, .ref ex, .int st]), (ex, AJ G 16 xf), (sy, OB 0 [.ref sm, .ref sw, .int (nI n)]), (sm, AJ G 10 md), (sw, AI G 10 wt)] → va_S A s.heap H locs → lv_has ls 4 [(0, .ref h0), (1, .int (nI (softN wt n))), (2, .int (nI c2)), (3, .int (nI j))] → W p l e rmX4_countUnexplored s m ([.ref h0] : List Value).toArray below meth c H locs 0 0 Q (F0 m 12 ls []) := by
    intro kf
    induction kf with
    | zero => intro j c2 H locs ls h; exact absurd h (Nat.not_lt_zero _)
    | succ kf ih =>
      intro j c2 H locs ls hk hi ha hP hD hS hl
      refine lv_iload_n hx hb dX4_countUnexplored_12 rfl (lv_at hl 3 rfl) ?_
      refine lv_iload_n hx hb dX4_countUnexplored_13 rfl (lv_at hl 1 rfl) ?_
      refine lv_icmp_gt (tgt := 42) hx hb dX4_countUnexplored_14 (by decide) (fun c_14 => ?_) (fun c_14 => ?_)
      ·
        have c_14 : (softN wt n) < j := (nI_ltI (a := softN wt n) (b := j) (by omega) (by omega)).mp c_14
        refine lv_iload_n hx hb dX4_countUnexplored_42 rfl (lv_at hl 2 rfl) ?_
        exact ret (nI c2) _ _ _ _ _ _ _ (Nat.le_of_ble_eq_true rfl) (Nat.le_of_ble_eq_true rfl) (rfl) (⟨by rw [ha, show j = softN wt n + 1 by omega], rfl⟩) (hP.sub (ws' := [(h0, OB 4 [.ref sy, .ref mu, .ref mz, .ref ex, .int st]), (sy, OB 0 [.ref sm, .ref sw, .int (nI n)]), (sm, AJ G 10 md), (sw, AI G 10 wt), (ex, AJ G 16 xf)]) [0, 2, 3, 4, 1] rfl) (hD.sub (ws' := [(h0, OB 4 [.ref sy, .ref mu, .ref mz, .ref ex, .int st]), (sy, OB 0 [.ref sm, .ref sw, .int (nI n)]), (sm, AJ G 10 md), (sw, AI G 10 wt), (ex, AJ G 16 xf)]) [0, 2, 3, 4, 1] (by decide) rfl) hS dX4_countUnexplored_43
      ·
        have c_14 : j ≤ (softN wt n) := by have h9 := mt (nI_ltI (a := softN wt n) (b := j) (by omega) (by omega)).mpr c_14; omega
        refine lv_iload_n hx hb dX4_countUnexplored_17 rfl (lv_at hl 3 rfl) ?_
        refine lv_iload_n hx hb dX4_countUnexplored_18 rfl (lv_at hl 1 rfl) ?_
        refine lv_iconst (v := (-1)) hx hb dX4_countUnexplored_19 (by decide) ?_
        refine wn_inot hx hb rfl dX4_countUnexplored_20 ?_
        refine lv_iand hx hb dX4_countUnexplored_21 ?_
        refine lv_if_ne (tgt := 36) hx hb dX4_countUnexplored_22 (by decide) (fun c_22 => ?_) (fun c_22 => ?_)
        ·
          refine lv_iinc (v := nI (j + 1)) (lv' := [(3, .int (nI (j + 1))), (0, .ref h0), (1, .int (nI (softN wt n))), (2, .int (nI c2))]) hx hb dX4_countUnexplored_36 hl (k := 3) rfl (nI_inc (j) 1) (by decide) rfl (fun ls hl => ?_)
          refine lv_goto (tgt := 12) hx hb dX4_countUnexplored_39 (by decide) ?_
          exact ih (j + 1) c2 _ _ _ (by omega) (by omega) (by simp [cntF, subB, ha, c_14, c_22]) (hP.sub (ws' := [(h0, OB 4 [.ref sy, .ref mu, .ref mz, .ref ex, .int st]), (ex, AJ G 16 xf), (sy, OB 0 [.ref sm, .ref sw, .int (nI n)]), (sm, AJ G 10 md), (sw, AI G 10 wt)]) [0, 1, 2, 3, 4] rfl) (hD.sub (ws' := [(h0, OB 4 [.ref sy, .ref mu, .ref mz, .ref ex, .int st]), (ex, AJ G 16 xf), (sy, OB 0 [.ref sm, .ref sw, .int (nI n)]), (sm, AJ G 10 md), (sw, AI G 10 wt)]) [0, 1, 2, 3, 4] (by decide) rfl) hS (lv_sub (l' := [(0, .ref h0), (1, .int (nI (softN wt n))), (2, .int (nI c2)), (3, .int (nI (j + 1)))]) hl [1, 2, 3, 0] rfl)
        ·
          refine lv_aload_n hx hb dX4_countUnexplored_25 rfl (lv_at hl 0 rfl) ?_
          refine lv_iload_n hx hb dX4_countUnexplored_26 rfl (lv_at hl 3 rfl) ?_
          refine call_Vi (rest := []) (As := [.int (nI j)]) (wr := [(sy, OB 0 [.ref sm, .ref sw, .int (nI n)]), (sm, AJ G 10 md), (sw, AI G 10 wt)]) (c1 := 0) (s1 := 0) ⟨hx, hb, hml, hown, hts⟩ (c_X4_isExplored l G h0 sy mu mz ex st xf j (by first | assumption | omega)) (cwV 1 hts gX4_countUnexplored_X4_isExplored rfl rfl rfl (by decide +kernel) ⟨Nat.le_of_ble_eq_true rfl, Nat.le_of_ble_eq_true rfl⟩) hK hN hSS hP hD hS hA 0 4 rfl rfl rfl [0, 1] [2, 3, 4] rfl rfl (by decide) (by decide) (by decide) rfl hl.1 rfl (Nat.le_of_ble_eq_true rfl) dX4_countUnexplored_27 ⟨Nat.le_of_ble_eq_true rfl, Nat.le_of_ble_eq_true rfl⟩ rfl rfl (fun r_27 u_27 H locs hpo hP hD hS => ?_)
          obtain ⟨hr9, rfl⟩ := hpo
          subst r_27
          have hP : va_P G.1 vwCl [(sy, OB 0 [.ref sm, .ref sw, .int (nI n)]), (sm, AJ G 10 md), (sw, AI G 10 wt), (h0, OB 4 [.ref sy, .ref mu, .ref mz, .ref ex, .int st]), (ex, AJ G 16 xf)] H := hP
          have hD : va_D A [(sy, OB 0 [.ref sm, .ref sw, .int (nI n)]), (sm, AJ G 10 md), (sw, AI G 10 wt), (h0, OB 4 [.ref sy, .ref mu, .ref mz, .ref ex, .int st]), (ex, AJ G 16 xf)] := hD
          refine wb_ne (tgt := 36) hx hb dX4_countUnexplored_30 (by decide) (fun c_30 => ?_) (fun c_30 => ?_)
          ·
            refine lv_iinc (v := nI (j + 1)) (lv' := [(3, .int (nI (j + 1))), (0, .ref h0), (1, .int (nI (softN wt n))), (2, .int (nI c2))]) hx hb dX4_countUnexplored_36 hl (k := 3) rfl (nI_inc (j) 1) (by decide) rfl (fun ls hl => ?_)
            refine lv_goto (tgt := 12) hx hb dX4_countUnexplored_39 (by decide) ?_
            exact ih (j + 1) c2 _ _ _ (by omega) (by omega) (by simp [cntF, subB, ha, c_14, c_22, c_30]) (hP.sub (ws' := [(h0, OB 4 [.ref sy, .ref mu, .ref mz, .ref ex, .int st]), (ex, AJ G 16 xf), (sy, OB 0 [.ref sm, .ref sw, .int (nI n)]), (sm, AJ G 10 md), (sw, AI G 10 wt)]) [3, 4, 0, 1, 2] rfl) (hD.sub (ws' := [(h0, OB 4 [.ref sy, .ref mu, .ref mz, .ref ex, .int st]), (ex, AJ G 16 xf), (sy, OB 0 [.ref sm, .ref sw, .int (nI n)]), (sm, AJ G 10 md), (sw, AI G 10 wt)]) [3, 4, 0, 1, 2] (by decide) rfl) hS (lv_sub (l' := [(0, .ref h0), (1, .int (nI (softN wt n))), (2, .int (nI c2)), (3, .int (nI (j + 1)))]) hl [1, 2, 3, 0] rfl)
          ·
            refine lv_iinc (v := nI (c2 + 1)) (lv' := [(2, .int (nI (c2 + 1))), (0, .ref h0), (1, .int (nI (softN wt n))), (3, .int (nI j))]) hx hb dX4_countUnexplored_33 hl (k := 2) rfl (nI_inc (c2) 1) (by decide) rfl (fun ls hl => ?_)
            refine lv_iinc (v := nI (j + 1)) (lv' := [(3, .int (nI (j + 1))), (2, .int (nI (c2 + 1))), (0, .ref h0), (1, .int (nI (softN wt n)))]) hx hb dX4_countUnexplored_36 hl (k := 3) rfl (nI_inc (j) 1) (by decide) rfl (fun ls hl => ?_)
            refine lv_goto (tgt := 12) hx hb dX4_countUnexplored_39 (by decide) ?_
            exact ih (j + 1) (c2 + 1) _ _ _ (by omega) (by omega) (by simp [cntF, subB, ha, c_14, c_22, c_30]) (hP.sub (ws' := [(h0, OB 4 [.ref sy, .ref mu, .ref mz, .ref ex, .int st]), (ex, AJ G 16 xf), (sy, OB 0 [.ref sm, .ref sw, .int (nI n)]), (sm, AJ G 10 md), (sw, AI G 10 wt)]) [3, 4, 0, 1, 2] rfl) (hD.sub (ws' := [(h0, OB 4 [.ref sy, .ref mu, .ref mz, .ref ex, .int st]), (ex, AJ G 16 xf), (sy, OB 0 [.ref sm, .ref sw, .int (nI n)]), (sm, AJ G 10 md), (sw, AI G 10 wt)]) [3, 4, 0, 1, 2] (by decide) rfl) hS (lv_sub (l' := [(0, .ref h0), (1, .int (nI (softN wt n))), (2, .int (nI (c2 + 1))), (3, .int (nI (j + 1)))]) hl [2, 3, 1, 0] rfl)
  exact L12 ((softN wt n + 1 - 0) + 1) 0 0 _ _ _ (Nat.lt_succ_self _) (Nat.zero_le _) (rfl) (hP.sub (ws' := [(h0, OB 4 [.ref sy, .ref mu, .ref mz, .ref ex, .int st]), (ex, AJ G 16 xf), (sy, OB 0 [.ref sm, .ref sw, .int (nI n)]), (sm, AJ G 10 md), (sw, AI G 10 wt)]) [0, 1, 2, 3, 4] rfl) (hD.sub (ws' := [(h0, OB 4 [.ref sy, .ref mu, .ref mz, .ref ex, .int st]), (ex, AJ G 16 xf), (sy, OB 0 [.ref sm, .ref sw, .int (nI n)]), (sm, AJ G 10 md), (sw, AI G 10 wt)]) [0, 1, 2, 3, 4] (by decide) rfl) hS (lv_sub (l' := [(0, .ref h0), (1, .int (nI (softN wt n))), (2, .int (nI 0)), (3, .int (nI 0))]) hl [3, 2, 1, 0] rfl)
abbrev rmX4_nextSeed : Room := { frames := 1, cells := 0, slots := 0, locals := 22 }
set_option maxHeartbeats 4000000 in
set_option maxRecDepth 100000 in
theorem c_X4_nextSeed (l : Launch) (G : GT) (h0 sy sm sw mu mz ex : Nat) (md : Nat → Int64) (wt : Nat → Int32) (n : Nat) (xf : Nat → Int64) (st : Int32) (hn : n ≤ 10) : Ci l yX4_nextSeed wsX4_nextSeed rmX4_nextSeed G [.ref h0] [(h0, OB 4 [.ref sy, .ref mu, .ref mz, .ref ex, .int st]), (sy, OB 0 [.ref sm, .ref sw, .int (nI n)]), (sm, AJ G 10 md), (sw, AI G 10 wt), (ex, AJ G 16 xf)] (fun r u => r = (seedF st (fun z => subB (nI z) (nI (softN wt n)) && !exB xf z) (softN wt n + 1)).1 ∧ u = [(h0, OB 4 [.ref sy, .ref mu, .ref mz, .ref ex, .int st]), (sy, OB 0 [.ref sm, .ref sw, .int (nI n)]), (sm, AJ G 10 md), (sw, AI G 10 wt), (ex, AJ G 16 xf)]) := by
  refine Ci.of (cc := cX4_nextSeed) (maxL := 7) (ty := .int) (by decide) rfl (Nat.le_of_ble_eq_true rfl) ?_
  intro p e s m below meth c A ls Q hx hb hml hts hown hA hS hP hK hN hSS hD hl ret
  have hown : s.vm.findClass RX4 = some m.cls := hown
  have hl : lv_has ls 7 [(0, .ref h0)] := hl
  have hi4 : ∀ w ∈ wsX40, w ∈ wsX4_nextSeed := mem_places [23, 24, 25, 26, 27] (by decide +kernel)
  have hsn := softN_1024 wt hn
  refine lv_aload_n hx hb dX4_nextSeed_0 rfl (lv_at hl 0 rfl) ?_
  refine va_get (D := G.1) (ci := 4) (v := .ref sy) (C := RX4) (T := TX4) (N := 5) hx hb hts hi4 hown hK hP 0 rfl rfl 0 (by decide) (hts (.fieldLink RX4 12 "ConflictEnumerator$State" "system" "LConflictEnumerator$Constraints;") (List.mem_of_getElem? (i := 1) rfl)) (fun _ h9 => h9) rfl dX4_nextSeed_1 ?_
  refine call_Vi (rest := []) (As := []) (wr := [(h0, OB 4 [.ref sy, .ref mu, .ref mz, .ref ex, .int st]), (ex, AJ G 16 xf)]) (c1 := 0) (s1 := 0) ⟨hx, hb, hml, hown, hts⟩ (c_X0_softMask l G sy sm sw md wt n (by first | assumption | omega)) (cwV 0 hts gX4_nextSeed_X0_softMask rfl rfl rfl (by decide +kernel) ⟨Nat.le_of_ble_eq_true rfl, Nat.le_of_ble_eq_true rfl⟩) hK hN hSS hP hD hS hA 0 0 rfl rfl rfl [1, 2, 3] [0, 4] rfl rfl (by decide) (by decide) (by decide) rfl hl.1 rfl (Nat.le_of_ble_eq_true rfl) dX4_nextSeed_4 ⟨Nat.le_of_ble_eq_true rfl, Nat.le_of_ble_eq_true rfl⟩ rfl rfl (fun r_4 u_4 H locs hpo hP hD hS => ?_)
  obtain ⟨hr9, rfl⟩ := hpo
  subst r_4
  have hP : va_P G.1 vwCl [(h0, OB 4 [.ref sy, .ref mu, .ref mz, .ref ex, .int st]), (ex, AJ G 16 xf), (sy, OB 0 [.ref sm, .ref sw, .int (nI n)]), (sm, AJ G 10 md), (sw, AI G 10 wt)] H := hP
  have hD : va_D A [(h0, OB 4 [.ref sy, .ref mu, .ref mz, .ref ex, .int st]), (ex, AJ G 16 xf), (sy, OB 0 [.ref sm, .ref sw, .int (nI n)]), (sm, AJ G 10 md), (sw, AI G 10 wt)] := hD
  rw [show softM wt n = nI (softN wt n) from softM_nI wt n (by omega)]
  refine lv_istore_n (lv' := [(1, .int (nI (softN wt n))), (0, .ref h0)]) hx hb dX4_nextSeed_7 rfl hl (by decide) rfl (fun ls hl => ?_)
  refine lv_bipush (v := (-9)) hx hb dX4_nextSeed_8 (by decide) ?_
  refine lv_istore_n (lv' := [(2, .int (-9)), (1, .int (nI (softN wt n))), (0, .ref h0)]) hx hb dX4_nextSeed_10 rfl hl (by decide) rfl (fun ls hl => ?_)
  refine lv_iconst (v := 0) hx hb dX4_nextSeed_11 (by decide) ?_
  refine lv_istore_n (lv' := [(3, .int 0), (2, .int (-9)), (1, .int (nI (softN wt n))), (0, .ref h0)]) hx hb dX4_nextSeed_12 rfl hl (by decide) rfl (fun ls hl => ?_)
  refine lv_iconst (v := 0) hx hb dX4_nextSeed_13 (by decide) ?_
  refine lv_istore (lv' := [(4, .int 0), (3, .int 0), (2, .int (-9)), (1, .int (nI (softN wt n))), (0, .ref h0)]) hx hb dX4_nextSeed_14 hl (by decide) rfl (fun ls hl => ?_)
  have L16 : ∀ (kf : Nat) (j : Nat) (best bs : Int32) (H : Heap) (locs : List Loc) (ls : Array Slot), softN wt n + 1 - j < kf → (j ≤ softN wt n + 1) → (best = (seedF st (fun z => subB (nI z) (nI (softN wt n)) && !exB xf z) j).1) → (bs = (seedF st (fun z => subB (nI z) (nI (softN wt n)) && !exB xf z) j).2) → va_P G.1 vwCl [(h0, OB 4 [.ref sy, .ref mu, .ref mz, .ref ex, .int st]), (ex, AJ G 16 xf), (sy, OB 0 [.ref sm, .ref sw, .int (nI n)]), (sm, AJ G 10 md), (sw, AI G 10 wt)] H → va_D A [(h0, OB 4 [.ref sy, .ref mu, .ref mz, .ref ex, .int st]), (ex, AJ G 16 xf), (sy, OB 0 [.ref sm, .ref sw, .int (nI n)]), (sm, AJ G 10 md), (sw, AI G 10 wt)] → va_S A s.heap H locs → lv_has ls 7 [(0, .ref h0), (1, .int (nI (softN wt n))), (2, .int best), (3, .int bs), (4, .int (nI j))] → W p l e rmX4_nextSeed s m ([.ref h0] : List Value).toArray below meth c H locs 0 0 Q (F0 m 16 ls []) := by
    intro kf
    induction kf with
    | zero => intro j best bs H locs ls h; exact absurd h (Nat.not_lt_zero _)
    | succ kf ih =>
      intro j best bs H locs ls hk hi ha hb9 hP hD hS hl
      refine lv_iload hx hb dX4_nextSeed_16 (lv_at hl 4 rfl) ?_
      refine lv_iload_n hx hb dX4_nextSeed_18 rfl (lv_at hl 1 rfl) ?_
      refine lv_icmp_gt (tgt := 104) hx hb dX4_nextSeed_19 (by decide) (fun c_19 => ?_) (fun c_19 => ?_)
      ·
        have c_19 : (softN wt n) < j := (nI_ltI (a := softN wt n) (b := j) (by omega) (by omega)).mp c_19
        refine lv_iload_n hx hb dX4_nextSeed_104 rfl (lv_at hl 2 rfl) ?_
        exact ret best _ _ _ _ _ _ _ (Nat.le_of_ble_eq_true rfl) (Nat.le_of_ble_eq_true rfl) (rfl) (⟨by rw [ha, show j = softN wt n + 1 by omega], rfl⟩) (hP.sub (ws' := [(h0, OB 4 [.ref sy, .ref mu, .ref mz, .ref ex, .int st]), (sy, OB 0 [.ref sm, .ref sw, .int (nI n)]), (sm, AJ G 10 md), (sw, AI G 10 wt), (ex, AJ G 16 xf)]) [0, 2, 3, 4, 1] rfl) (hD.sub (ws' := [(h0, OB 4 [.ref sy, .ref mu, .ref mz, .ref ex, .int st]), (sy, OB 0 [.ref sm, .ref sw, .int (nI n)]), (sm, AJ G 10 md), (sw, AI G 10 wt), (ex, AJ G 16 xf)]) [0, 2, 3, 4, 1] (by decide) rfl) hS dX4_nextSeed_105
      ·
        have c_19 : j ≤ (softN wt n) := by have h9 := mt (nI_ltI (a := softN wt n) (b := j) (by omega) (by omega)).mpr c_19; omega
        refine lv_iload hx hb dX4_nextSeed_22 (lv_at hl 4 rfl) ?_
        refine lv_iload_n hx hb dX4_nextSeed_24 rfl (lv_at hl 1 rfl) ?_
        refine lv_iconst (v := (-1)) hx hb dX4_nextSeed_25 (by decide) ?_
        refine wn_inot hx hb rfl dX4_nextSeed_26 ?_
        refine lv_iand hx hb dX4_nextSeed_27 ?_
        refine lv_if_ne (tgt := 98) hx hb dX4_nextSeed_28 (by decide) (fun c_28 => ?_) (fun c_28 => ?_)
        ·
          have c_28 : subB (nI (j)) (nI (softN wt n)) = false := by simpa [subB] using c_28
          refine lv_iinc (v := nI (j + 1)) (lv' := [(4, .int (nI (j + 1))), (0, .ref h0), (1, .int (nI (softN wt n))), (2, .int best), (3, .int bs)]) hx hb dX4_nextSeed_98 hl (k := 4) rfl (nI_inc (j) 1) (by decide) rfl (fun ls hl => ?_)
          refine lv_goto (tgt := 16) hx hb dX4_nextSeed_101 (by decide) ?_
          exact ih (j + 1) best bs _ _ _ (by omega) (by omega) (by simp only [seedF, ← ha, ← hb9]; simp [c_19, c_28]) (by simp only [seedF, ← ha, ← hb9]; simp [c_19, c_28]) (hP.sub (ws' := [(h0, OB 4 [.ref sy, .ref mu, .ref mz, .ref ex, .int st]), (ex, AJ G 16 xf), (sy, OB 0 [.ref sm, .ref sw, .int (nI n)]), (sm, AJ G 10 md), (sw, AI G 10 wt)]) [0, 1, 2, 3, 4] rfl) (hD.sub (ws' := [(h0, OB 4 [.ref sy, .ref mu, .ref mz, .ref ex, .int st]), (ex, AJ G 16 xf), (sy, OB 0 [.ref sm, .ref sw, .int (nI n)]), (sm, AJ G 10 md), (sw, AI G 10 wt)]) [0, 1, 2, 3, 4] (by decide) rfl) hS (lv_sub (l' := [(0, .ref h0), (1, .int (nI (softN wt n))), (2, .int best), (3, .int bs), (4, .int (nI (j + 1)))]) hl [1, 2, 3, 4, 0] rfl)
        ·
          have c_28 : subB (nI (j)) (nI (softN wt n)) = true := by simpa [subB] using c_28
          refine lv_aload_n hx hb dX4_nextSeed_31 rfl (lv_at hl 0 rfl) ?_
          refine lv_iload hx hb dX4_nextSeed_32 (lv_at hl 4 rfl) ?_
          refine call_Vi (rest := []) (As := [.int (nI j)]) (wr := [(sy, OB 0 [.ref sm, .ref sw, .int (nI n)]), (sm, AJ G 10 md), (sw, AI G 10 wt)]) (c1 := 0) (s1 := 0) ⟨hx, hb, hml, hown, hts⟩ (c_X4_isExplored l G h0 sy mu mz ex st xf j (by first | assumption | omega)) (cwV 1 hts gX4_nextSeed_X4_isExplored rfl rfl rfl (by decide +kernel) ⟨Nat.le_of_ble_eq_true rfl, Nat.le_of_ble_eq_true rfl⟩) hK hN hSS hP hD hS hA 0 4 rfl rfl rfl [0, 1] [2, 3, 4] rfl rfl (by decide) (by decide) (by decide) rfl hl.1 rfl (Nat.le_of_ble_eq_true rfl) dX4_nextSeed_34 ⟨Nat.le_of_ble_eq_true rfl, Nat.le_of_ble_eq_true rfl⟩ rfl rfl (fun r_34 u_34 H locs hpo hP hD hS => ?_)
          obtain ⟨hr9, rfl⟩ := hpo
          subst r_34
          have hP : va_P G.1 vwCl [(sy, OB 0 [.ref sm, .ref sw, .int (nI n)]), (sm, AJ G 10 md), (sw, AI G 10 wt), (h0, OB 4 [.ref sy, .ref mu, .ref mz, .ref ex, .int st]), (ex, AJ G 16 xf)] H := hP
          have hD : va_D A [(sy, OB 0 [.ref sm, .ref sw, .int (nI n)]), (sm, AJ G 10 md), (sw, AI G 10 wt), (h0, OB 4 [.ref sy, .ref mu, .ref mz, .ref ex, .int st]), (ex, AJ G 16 xf)] := hD
          refine wb_ne (tgt := 98) hx hb dX4_nextSeed_37 (by decide) (fun c_37 => ?_) (fun c_37 => ?_)
          ·
            refine lv_iinc (v := nI (j + 1)) (lv' := [(4, .int (nI (j + 1))), (0, .ref h0), (1, .int (nI (softN wt n))), (2, .int best), (3, .int bs)]) hx hb dX4_nextSeed_98 hl (k := 4) rfl (nI_inc (j) 1) (by decide) rfl (fun ls hl => ?_)
            refine lv_goto (tgt := 16) hx hb dX4_nextSeed_101 (by decide) ?_
            exact ih (j + 1) best bs _ _ _ (by omega) (by omega) (by simp only [seedF, ← ha, ← hb9]; simp [c_19, c_28, c_37]) (by simp only [seedF, ← ha, ← hb9]; simp [c_19, c_28, c_37]) (hP.sub (ws' := [(h0, OB 4 [.ref sy, .ref mu, .ref mz, .ref ex, .int st]), (ex, AJ G 16 xf), (sy, OB 0 [.ref sm, .ref sw, .int (nI n)]), (sm, AJ G 10 md), (sw, AI G 10 wt)]) [3, 4, 0, 1, 2] rfl) (hD.sub (ws' := [(h0, OB 4 [.ref sy, .ref mu, .ref mz, .ref ex, .int st]), (ex, AJ G 16 xf), (sy, OB 0 [.ref sm, .ref sw, .int (nI n)]), (sm, AJ G 10 md), (sw, AI G 10 wt)]) [3, 4, 0, 1, 2] (by decide) rfl) hS (lv_sub (l' := [(0, .ref h0), (1, .int (nI (softN wt n))), (2, .int best), (3, .int bs), (4, .int (nI (j + 1)))]) hl [1, 2, 3, 4, 0] rfl)
          ·
            refine lv_iload hx hb dX4_nextSeed_40 (lv_at hl 4 rfl) ?_
            refine call_Si (rest := []) (As := [.int (nI j)]) (wr := [(sy, OB 0 [.ref sm, .ref sw, .int (nI n)]), (sm, AJ G 10 md), (sw, AI G 10 wt), (h0, OB 4 [.ref sy, .ref mu, .ref mz, .ref ex, .int st]), (ex, AJ G 16 xf)]) (c1 := 0) (s1 := 0) ⟨hx, hb, hml, hown, hts⟩ (c_J6_bitCount_0f7a4 l G (nI j) ) (va_cwS 1 hts gX4_nextSeed_J6_bitCount_0f7a4 rfl rfl rfl (by decide +kernel) ⟨Nat.le_of_ble_eq_true rfl, Nat.le_of_ble_eq_true rfl⟩) hK hN hSS hP hD hS hA [] [0, 1, 2, 3, 4] rfl rfl (by decide) (by decide) (by decide) rfl hl.1 rfl (Nat.le_of_ble_eq_true rfl) dX4_nextSeed_42 ⟨Nat.le_of_ble_eq_true rfl, Nat.le_of_ble_eq_true rfl⟩ rfl rfl (fun r_42 u_42 H locs hpo hP hD hS => ?_)
            obtain ⟨hr9, rfl⟩ := hpo
            subst r_42
            have hP : va_P G.1 vwCl [(sy, OB 0 [.ref sm, .ref sw, .int (nI n)]), (sm, AJ G 10 md), (sw, AI G 10 wt), (h0, OB 4 [.ref sy, .ref mu, .ref mz, .ref ex, .int st]), (ex, AJ G 16 xf)] H := hP
            have hD : va_D A [(sy, OB 0 [.ref sm, .ref sw, .int (nI n)]), (sm, AJ G 10 md), (sw, AI G 10 wt), (h0, OB 4 [.ref sy, .ref mu, .ref mz, .ref ex, .int st]), (ex, AJ G 16 xf)] := hD
            refine lv_istore (lv' := [(5, .int (bcI (nI j))), (0, .ref h0), (1, .int (nI (softN wt n))), (2, .int best), (3, .int bs), (4, .int (nI j))]) hx hb dX4_nextSeed_45 hl (by decide) rfl (fun ls hl => ?_)
            refine lv_aload_n hx hb dX4_nextSeed_47 rfl (lv_at hl 1 rfl) ?_
            refine va_get (D := G.1) (ci := 4) (v := .int st) (C := RX4) (T := TX4) (N := 5) hx hb hts hi4 hown hK hP 3 rfl rfl 4 (by decide) (hts (.fieldLink RX4 32 "ConflictEnumerator$State" "strategy" "I") (List.mem_of_getElem? (i := 2) rfl)) (fun _ h9 => h9) rfl dX4_nextSeed_48 ?_
            refine lv_if_ne (tgt := 68) hx hb dX4_nextSeed_51 (by decide) (fun c_51 => ?_) (fun c_51 => ?_)
            ·
              refine lv_iload hx hb dX4_nextSeed_68 (lv_at hl 0 rfl) ?_
              refine lv_iload_n hx hb dX4_nextSeed_70 rfl (lv_at hl 4 rfl) ?_
              refine lv_icmp_ge (tgt := 78) hx hb dX4_nextSeed_71 (by decide) (fun c_71 => ?_) (fun c_71 => ?_)
              ·
                have c_71 : ¬ (bcI (nI j)) < bs := Int32.not_lt.mpr c_71
                refine lv_iconst (v := 0) hx hb dX4_nextSeed_78 (by decide) ?_
                refine lv_istore (lv' := [(6, .int 0), (5, .int (bcI (nI j))), (0, .ref h0), (1, .int (nI (softN wt n))), (2, .int best), (3, .int bs), (4, .int (nI j))]) hx hb dX4_nextSeed_79 hl (by decide) rfl (fun ls hl => ?_)
                refine lv_iload_n hx hb dX4_nextSeed_81 rfl (lv_at hl 4 rfl) ?_
                refine lv_bipush (v := (-9)) hx hb dX4_nextSeed_82 (by decide) ?_
                refine lv_icmp_eq (tgt := 92) hx hb dX4_nextSeed_84 (by decide) (fun c_84 => ?_) (fun c_84 => ?_)
                ·
                  refine lv_iload hx hb dX4_nextSeed_92 (lv_at hl 6 rfl) ?_
                  refine lv_istore_n (lv' := [(2, .int (nI j)), (6, .int 0), (5, .int (bcI (nI j))), (0, .ref h0), (1, .int (nI (softN wt n))), (3, .int bs), (4, .int (nI j))]) hx hb dX4_nextSeed_94 rfl hl (by decide) rfl (fun ls hl => ?_)
                  refine lv_iload hx hb dX4_nextSeed_95 (lv_at hl 2 rfl) ?_
                  refine lv_istore_n (lv' := [(3, .int (bcI (nI j))), (2, .int (nI j)), (6, .int 0), (5, .int (bcI (nI j))), (0, .ref h0), (1, .int (nI (softN wt n))), (4, .int (nI j))]) hx hb dX4_nextSeed_97 rfl hl (by decide) rfl (fun ls hl => ?_)
                  refine lv_iinc (v := nI (j + 1)) (lv' := [(4, .int (nI (j + 1))), (3, .int (bcI (nI j))), (2, .int (nI j)), (6, .int 0), (5, .int (bcI (nI j))), (0, .ref h0), (1, .int (nI (softN wt n)))]) hx hb dX4_nextSeed_98 hl (k := 6) rfl (nI_inc (j) 1) (by decide) rfl (fun ls hl => ?_)
                  refine lv_goto (tgt := 16) hx hb dX4_nextSeed_101 (by decide) ?_
                  exact ih (j + 1) (nI j) (bcI (nI j)) _ _ _ (by omega) (by omega) (by simp only [seedF, ← ha, ← hb9]; simp [c_19, c_28, c_37, c_51, c_71, c_84]) (by simp only [seedF, ← ha, ← hb9]; simp [c_19, c_28, c_37, c_51, c_71, c_84]) (hP.sub (ws' := [(h0, OB 4 [.ref sy, .ref mu, .ref mz, .ref ex, .int st]), (ex, AJ G 16 xf), (sy, OB 0 [.ref sm, .ref sw, .int (nI n)]), (sm, AJ G 10 md), (sw, AI G 10 wt)]) [3, 4, 0, 1, 2] rfl) (hD.sub (ws' := [(h0, OB 4 [.ref sy, .ref mu, .ref mz, .ref ex, .int st]), (ex, AJ G 16 xf), (sy, OB 0 [.ref sm, .ref sw, .int (nI n)]), (sm, AJ G 10 md), (sw, AI G 10 wt)]) [3, 4, 0, 1, 2] (by decide) rfl) hS (lv_sub (l' := [(0, .ref h0), (1, .int (nI (softN wt n))), (2, .int (nI j)), (3, .int (bcI (nI j))), (4, .int (nI (j + 1)))]) hl [5, 6, 2, 1, 0] rfl)
                ·
                  refine lv_iload hx hb dX4_nextSeed_87 (lv_at hl 0 rfl) ?_
                  refine lv_if_eq (tgt := 98) hx hb dX4_nextSeed_89 (by decide) (fun c_89 => ?_) (fun c_89 => absurd c_89 (by decide))
                  refine lv_iinc (v := nI (j + 1)) (lv' := [(4, .int (nI (j + 1))), (6, .int 0), (5, .int (bcI (nI j))), (0, .ref h0), (1, .int (nI (softN wt n))), (2, .int best), (3, .int bs)]) hx hb dX4_nextSeed_98 hl (k := 6) rfl (nI_inc (j) 1) (by decide) rfl (fun ls hl => ?_)
                  refine lv_goto (tgt := 16) hx hb dX4_nextSeed_101 (by decide) ?_
                  exact ih (j + 1) best bs _ _ _ (by omega) (by omega) (by simp only [seedF, ← ha, ← hb9]; simp [c_19, c_28, c_37, c_51, c_71, c_84, c_89]) (by simp only [seedF, ← ha, ← hb9]; simp [c_19, c_28, c_37, c_51, c_71, c_84, c_89]) (hP.sub (ws' := [(h0, OB 4 [.ref sy, .ref mu, .ref mz, .ref ex, .int st]), (ex, AJ G 16 xf), (sy, OB 0 [.ref sm, .ref sw, .int (nI n)]), (sm, AJ G 10 md), (sw, AI G 10 wt)]) [3, 4, 0, 1, 2] rfl) (hD.sub (ws' := [(h0, OB 4 [.ref sy, .ref mu, .ref mz, .ref ex, .int st]), (ex, AJ G 16 xf), (sy, OB 0 [.ref sm, .ref sw, .int (nI n)]), (sm, AJ G 10 md), (sw, AI G 10 wt)]) [3, 4, 0, 1, 2] (by decide) rfl) hS (lv_sub (l' := [(0, .ref h0), (1, .int (nI (softN wt n))), (2, .int best), (3, .int bs), (4, .int (nI (j + 1)))]) hl [3, 4, 5, 6, 0] rfl)
              ·
                have c_71 : (bcI (nI j)) < bs := Int32.not_le.mp c_71
                refine lv_iconst (v := 1) hx hb dX4_nextSeed_74 (by decide) ?_
                refine lv_goto (tgt := 79) hx hb dX4_nextSeed_75 (by decide) ?_
                refine lv_istore (lv' := [(6, .int 1), (5, .int (bcI (nI j))), (0, .ref h0), (1, .int (nI (softN wt n))), (2, .int best), (3, .int bs), (4, .int (nI j))]) hx hb dX4_nextSeed_79 hl (by decide) rfl (fun ls hl => ?_)
                refine lv_iload_n hx hb dX4_nextSeed_81 rfl (lv_at hl 4 rfl) ?_
                refine lv_bipush (v := (-9)) hx hb dX4_nextSeed_82 (by decide) ?_
                refine lv_icmp_eq (tgt := 92) hx hb dX4_nextSeed_84 (by decide) (fun c_84 => ?_) (fun c_84 => ?_)
                ·
                  refine lv_iload hx hb dX4_nextSeed_92 (lv_at hl 6 rfl) ?_
                  refine lv_istore_n (lv' := [(2, .int (nI j)), (6, .int 1), (5, .int (bcI (nI j))), (0, .ref h0), (1, .int (nI (softN wt n))), (3, .int bs), (4, .int (nI j))]) hx hb dX4_nextSeed_94 rfl hl (by decide) rfl (fun ls hl => ?_)
                  refine lv_iload hx hb dX4_nextSeed_95 (lv_at hl 2 rfl) ?_
                  refine lv_istore_n (lv' := [(3, .int (bcI (nI j))), (2, .int (nI j)), (6, .int 1), (5, .int (bcI (nI j))), (0, .ref h0), (1, .int (nI (softN wt n))), (4, .int (nI j))]) hx hb dX4_nextSeed_97 rfl hl (by decide) rfl (fun ls hl => ?_)
                  refine lv_iinc (v := nI (j + 1)) (lv' := [(4, .int (nI (j + 1))), (3, .int (bcI (nI j))), (2, .int (nI j)), (6, .int 1), (5, .int (bcI (nI j))), (0, .ref h0), (1, .int (nI (softN wt n)))]) hx hb dX4_nextSeed_98 hl (k := 6) rfl (nI_inc (j) 1) (by decide) rfl (fun ls hl => ?_)
                  refine lv_goto (tgt := 16) hx hb dX4_nextSeed_101 (by decide) ?_
                  exact ih (j + 1) (nI j) (bcI (nI j)) _ _ _ (by omega) (by omega) (by simp only [seedF, ← ha, ← hb9]; simp [c_19, c_28, c_37, c_51, c_71, c_84]) (by simp only [seedF, ← ha, ← hb9]; simp [c_19, c_28, c_37, c_51, c_71, c_84]) (hP.sub (ws' := [(h0, OB 4 [.ref sy, .ref mu, .ref mz, .ref ex, .int st]), (ex, AJ G 16 xf), (sy, OB 0 [.ref sm, .ref sw, .int (nI n)]), (sm, AJ G 10 md), (sw, AI G 10 wt)]) [3, 4, 0, 1, 2] rfl) (hD.sub (ws' := [(h0, OB 4 [.ref sy, .ref mu, .ref mz, .ref ex, .int st]), (ex, AJ G 16 xf), (sy, OB 0 [.ref sm, .ref sw, .int (nI n)]), (sm, AJ G 10 md), (sw, AI G 10 wt)]) [3, 4, 0, 1, 2] (by decide) rfl) hS (lv_sub (l' := [(0, .ref h0), (1, .int (nI (softN wt n))), (2, .int (nI j)), (3, .int (bcI (nI j))), (4, .int (nI (j + 1)))]) hl [5, 6, 2, 1, 0] rfl)
                ·
                  refine lv_iload hx hb dX4_nextSeed_87 (lv_at hl 0 rfl) ?_
                  refine lv_if_eq (tgt := 98) hx hb dX4_nextSeed_89 (by decide) (fun c_89 => absurd c_89 (by decide)) (fun c_89 => ?_)
                  refine lv_iload hx hb dX4_nextSeed_92 (lv_at hl 6 rfl) ?_
                  refine lv_istore_n (lv' := [(2, .int (nI j)), (6, .int 1), (5, .int (bcI (nI j))), (0, .ref h0), (1, .int (nI (softN wt n))), (3, .int bs), (4, .int (nI j))]) hx hb dX4_nextSeed_94 rfl hl (by decide) rfl (fun ls hl => ?_)
                  refine lv_iload hx hb dX4_nextSeed_95 (lv_at hl 2 rfl) ?_
                  refine lv_istore_n (lv' := [(3, .int (bcI (nI j))), (2, .int (nI j)), (6, .int 1), (5, .int (bcI (nI j))), (0, .ref h0), (1, .int (nI (softN wt n))), (4, .int (nI j))]) hx hb dX4_nextSeed_97 rfl hl (by decide) rfl (fun ls hl => ?_)
                  refine lv_iinc (v := nI (j + 1)) (lv' := [(4, .int (nI (j + 1))), (3, .int (bcI (nI j))), (2, .int (nI j)), (6, .int 1), (5, .int (bcI (nI j))), (0, .ref h0), (1, .int (nI (softN wt n)))]) hx hb dX4_nextSeed_98 hl (k := 6) rfl (nI_inc (j) 1) (by decide) rfl (fun ls hl => ?_)
                  refine lv_goto (tgt := 16) hx hb dX4_nextSeed_101 (by decide) ?_
                  exact ih (j + 1) (nI j) (bcI (nI j)) _ _ _ (by omega) (by omega) (by simp only [seedF, ← ha, ← hb9]; simp [c_19, c_28, c_37, c_51, c_71, c_84, c_89]) (by simp only [seedF, ← ha, ← hb9]; simp [c_19, c_28, c_37, c_51, c_71, c_84, c_89]) (hP.sub (ws' := [(h0, OB 4 [.ref sy, .ref mu, .ref mz, .ref ex, .int st]), (ex, AJ G 16 xf), (sy, OB 0 [.ref sm, .ref sw, .int (nI n)]), (sm, AJ G 10 md), (sw, AI G 10 wt)]) [3, 4, 0, 1, 2] rfl) (hD.sub (ws' := [(h0, OB 4 [.ref sy, .ref mu, .ref mz, .ref ex, .int st]), (ex, AJ G 16 xf), (sy, OB 0 [.ref sm, .ref sw, .int (nI n)]), (sm, AJ G 10 md), (sw, AI G 10 wt)]) [3, 4, 0, 1, 2] (by decide) rfl) hS (lv_sub (l' := [(0, .ref h0), (1, .int (nI (softN wt n))), (2, .int (nI j)), (3, .int (bcI (nI j))), (4, .int (nI (j + 1)))]) hl [5, 6, 2, 1, 0] rfl)
            ·
              refine lv_iload hx hb dX4_nextSeed_54 (lv_at hl 0 rfl) ?_
              refine lv_iload_n hx hb dX4_nextSeed_56 rfl (lv_at hl 4 rfl) ?_
              refine lv_icmp_le (tgt := 64) hx hb dX4_nextSeed_57 (by decide) (fun c_57 => ?_) (fun c_57 => ?_)
              ·
                have c_57 : ¬ bs < (bcI (nI j)) := Int32.not_lt.mpr c_57
                refine lv_iconst (v := 0) hx hb dX4_nextSeed_64 (by decide) ?_
                refine lv_goto (tgt := 79) hx hb dX4_nextSeed_65 (by decide) ?_
                refine lv_istore (lv' := [(6, .int 0), (5, .int (bcI (nI j))), (0, .ref h0), (1, .int (nI (softN wt n))), (2, .int best), (3, .int bs), (4, .int (nI j))]) hx hb dX4_nextSeed_79 hl (by decide) rfl (fun ls hl => ?_)
                refine lv_iload_n hx hb dX4_nextSeed_81 rfl (lv_at hl 4 rfl) ?_
                refine lv_bipush (v := (-9)) hx hb dX4_nextSeed_82 (by decide) ?_
                refine lv_icmp_eq (tgt := 92) hx hb dX4_nextSeed_84 (by decide) (fun c_84 => ?_) (fun c_84 => ?_)
                ·
                  refine lv_iload hx hb dX4_nextSeed_92 (lv_at hl 6 rfl) ?_
                  refine lv_istore_n (lv' := [(2, .int (nI j)), (6, .int 0), (5, .int (bcI (nI j))), (0, .ref h0), (1, .int (nI (softN wt n))), (3, .int bs), (4, .int (nI j))]) hx hb dX4_nextSeed_94 rfl hl (by decide) rfl (fun ls hl => ?_)
                  refine lv_iload hx hb dX4_nextSeed_95 (lv_at hl 2 rfl) ?_
                  refine lv_istore_n (lv' := [(3, .int (bcI (nI j))), (2, .int (nI j)), (6, .int 0), (5, .int (bcI (nI j))), (0, .ref h0), (1, .int (nI (softN wt n))), (4, .int (nI j))]) hx hb dX4_nextSeed_97 rfl hl (by decide) rfl (fun ls hl => ?_)
                  refine lv_iinc (v := nI (j + 1)) (lv' := [(4, .int (nI (j + 1))), (3, .int (bcI (nI j))), (2, .int (nI j)), (6, .int 0), (5, .int (bcI (nI j))), (0, .ref h0), (1, .int (nI (softN wt n)))]) hx hb dX4_nextSeed_98 hl (k := 6) rfl (nI_inc (j) 1) (by decide) rfl (fun ls hl => ?_)
                  refine lv_goto (tgt := 16) hx hb dX4_nextSeed_101 (by decide) ?_
                  exact ih (j + 1) (nI j) (bcI (nI j)) _ _ _ (by omega) (by omega) (by simp only [seedF, ← ha, ← hb9]; simp [c_19, c_28, c_37, c_51, c_57, c_84]) (by simp only [seedF, ← ha, ← hb9]; simp [c_19, c_28, c_37, c_51, c_57, c_84]) (hP.sub (ws' := [(h0, OB 4 [.ref sy, .ref mu, .ref mz, .ref ex, .int st]), (ex, AJ G 16 xf), (sy, OB 0 [.ref sm, .ref sw, .int (nI n)]), (sm, AJ G 10 md), (sw, AI G 10 wt)]) [3, 4, 0, 1, 2] rfl) (hD.sub (ws' := [(h0, OB 4 [.ref sy, .ref mu, .ref mz, .ref ex, .int st]), (ex, AJ G 16 xf), (sy, OB 0 [.ref sm, .ref sw, .int (nI n)]), (sm, AJ G 10 md), (sw, AI G 10 wt)]) [3, 4, 0, 1, 2] (by decide) rfl) hS (lv_sub (l' := [(0, .ref h0), (1, .int (nI (softN wt n))), (2, .int (nI j)), (3, .int (bcI (nI j))), (4, .int (nI (j + 1)))]) hl [5, 6, 2, 1, 0] rfl)
                ·
                  refine lv_iload hx hb dX4_nextSeed_87 (lv_at hl 0 rfl) ?_
                  refine lv_if_eq (tgt := 98) hx hb dX4_nextSeed_89 (by decide) (fun c_89 => ?_) (fun c_89 => absurd c_89 (by decide))
                  refine lv_iinc (v := nI (j + 1)) (lv' := [(4, .int (nI (j + 1))), (6, .int 0), (5, .int (bcI (nI j))), (0, .ref h0), (1, .int (nI (softN wt n))), (2, .int best), (3, .int bs)]) hx hb dX4_nextSeed_98 hl (k := 6) rfl (nI_inc (j) 1) (by decide) rfl (fun ls hl => ?_)
                  refine lv_goto (tgt := 16) hx hb dX4_nextSeed_101 (by decide) ?_
                  exact ih (j + 1) best bs _ _ _ (by omega) (by omega) (by simp only [seedF, ← ha, ← hb9]; simp [c_19, c_28, c_37, c_51, c_57, c_84, c_89]) (by simp only [seedF, ← ha, ← hb9]; simp [c_19, c_28, c_37, c_51, c_57, c_84, c_89]) (hP.sub (ws' := [(h0, OB 4 [.ref sy, .ref mu, .ref mz, .ref ex, .int st]), (ex, AJ G 16 xf), (sy, OB 0 [.ref sm, .ref sw, .int (nI n)]), (sm, AJ G 10 md), (sw, AI G 10 wt)]) [3, 4, 0, 1, 2] rfl) (hD.sub (ws' := [(h0, OB 4 [.ref sy, .ref mu, .ref mz, .ref ex, .int st]), (ex, AJ G 16 xf), (sy, OB 0 [.ref sm, .ref sw, .int (nI n)]), (sm, AJ G 10 md), (sw, AI G 10 wt)]) [3, 4, 0, 1, 2] (by decide) rfl) hS (lv_sub (l' := [(0, .ref h0), (1, .int (nI (softN wt n))), (2, .int best), (3, .int bs), (4, .int (nI (j + 1)))]) hl [3, 4, 5, 6, 0] rfl)
              ·
                have c_57 : bs < (bcI (nI j)) := Int32.not_le.mp c_57
                refine lv_iconst (v := 1) hx hb dX4_nextSeed_60 (by decide) ?_
                refine lv_goto (tgt := 79) hx hb dX4_nextSeed_61 (by decide) ?_
                refine lv_istore (lv' := [(6, .int 1), (5, .int (bcI (nI j))), (0, .ref h0), (1, .int (nI (softN wt n))), (2, .int best), (3, .int bs), (4, .int (nI j))]) hx hb dX4_nextSeed_79 hl (by decide) rfl (fun ls hl => ?_)
                refine lv_iload_n hx hb dX4_nextSeed_81 rfl (lv_at hl 4 rfl) ?_
                refine lv_bipush (v := (-9)) hx hb dX4_nextSeed_82 (by decide) ?_
                refine lv_icmp_eq (tgt := 92) hx hb dX4_nextSeed_84 (by decide) (fun c_84 => ?_) (fun c_84 => ?_)
                ·
                  refine lv_iload hx hb dX4_nextSeed_92 (lv_at hl 6 rfl) ?_
                  refine lv_istore_n (lv' := [(2, .int (nI j)), (6, .int 1), (5, .int (bcI (nI j))), (0, .ref h0), (1, .int (nI (softN wt n))), (3, .int bs), (4, .int (nI j))]) hx hb dX4_nextSeed_94 rfl hl (by decide) rfl (fun ls hl => ?_)
                  refine lv_iload hx hb dX4_nextSeed_95 (lv_at hl 2 rfl) ?_
                  refine lv_istore_n (lv' := [(3, .int (bcI (nI j))), (2, .int (nI j)), (6, .int 1), (5, .int (bcI (nI j))), (0, .ref h0), (1, .int (nI (softN wt n))), (4, .int (nI j))]) hx hb dX4_nextSeed_97 rfl hl (by decide) rfl (fun ls hl => ?_)
                  refine lv_iinc (v := nI (j + 1)) (lv' := [(4, .int (nI (j + 1))), (3, .int (bcI (nI j))), (2, .int (nI j)), (6, .int 1), (5, .int (bcI (nI j))), (0, .ref h0), (1, .int (nI (softN wt n)))]) hx hb dX4_nextSeed_98 hl (k := 6) rfl (nI_inc (j) 1) (by decide) rfl (fun ls hl => ?_)
                  refine lv_goto (tgt := 16) hx hb dX4_nextSeed_101 (by decide) ?_
                  exact ih (j + 1) (nI j) (bcI (nI j)) _ _ _ (by omega) (by omega) (by simp only [seedF, ← ha, ← hb9]; simp [c_19, c_28, c_37, c_51, c_57, c_84]) (by simp only [seedF, ← ha, ← hb9]; simp [c_19, c_28, c_37, c_51, c_57, c_84]) (hP.sub (ws' := [(h0, OB 4 [.ref sy, .ref mu, .ref mz, .ref ex, .int st]), (ex, AJ G 16 xf), (sy, OB 0 [.ref sm, .ref sw, .int (nI n)]), (sm, AJ G 10 md), (sw, AI G 10 wt)]) [3, 4, 0, 1, 2] rfl) (hD.sub (ws' := [(h0, OB 4 [.ref sy, .ref mu, .ref mz, .ref ex, .int st]), (ex, AJ G 16 xf), (sy, OB 0 [.ref sm, .ref sw, .int (nI n)]), (sm, AJ G 10 md), (sw, AI G 10 wt)]) [3, 4, 0, 1, 2] (by decide) rfl) hS (lv_sub (l' := [(0, .ref h0), (1, .int (nI (softN wt n))), (2, .int (nI j)), (3, .int (bcI (nI j))), (4, .int (nI (j + 1)))]) hl [5, 6, 2, 1, 0] rfl)
                ·
                  refine lv_iload hx hb dX4_nextSeed_87 (lv_at hl 0 rfl) ?_
                  refine lv_if_eq (tgt := 98) hx hb dX4_nextSeed_89 (by decide) (fun c_89 => absurd c_89 (by decide)) (fun c_89 => ?_)
                  refine lv_iload hx hb dX4_nextSeed_92 (lv_at hl 6 rfl) ?_
                  refine lv_istore_n (lv' := [(2, .int (nI j)), (6, .int 1), (5, .int (bcI (nI j))), (0, .ref h0), (1, .int (nI (softN wt n))), (3, .int bs), (4, .int (nI j))]) hx hb dX4_nextSeed_94 rfl hl (by decide) rfl (fun ls hl => ?_)
                  refine lv_iload hx hb dX4_nextSeed_95 (lv_at hl 2 rfl) ?_
                  refine lv_istore_n (lv' := [(3, .int (bcI (nI j))), (2, .int (nI j)), (6, .int 1), (5, .int (bcI (nI j))), (0, .ref h0), (1, .int (nI (softN wt n))), (4, .int (nI j))]) hx hb dX4_nextSeed_97 rfl hl (by decide) rfl (fun ls hl => ?_)
                  refine lv_iinc (v := nI (j + 1)) (lv' := [(4, .int (nI (j + 1))), (3, .int (bcI (nI j))), (2, .int (nI j)), (6, .int 1), (5, .int (bcI (nI j))), (0, .ref h0), (1, .int (nI (softN wt n)))]) hx hb dX4_nextSeed_98 hl (k := 6) rfl (nI_inc (j) 1) (by decide) rfl (fun ls hl => ?_)
                  refine lv_goto (tgt := 16) hx hb dX4_nextSeed_101 (by decide) ?_
                  exact ih (j + 1) (nI j) (bcI (nI j)) _ _ _ (by omega) (by omega) (by simp only [seedF, ← ha, ← hb9]; simp [c_19, c_28, c_37, c_51, c_57, c_84, c_89]) (by simp only [seedF, ← ha, ← hb9]; simp [c_19, c_28, c_37, c_51, c_57, c_84, c_89]) (hP.sub (ws' := [(h0, OB 4 [.ref sy, .ref mu, .ref mz, .ref ex, .int st]), (ex, AJ G 16 xf), (sy, OB 0 [.ref sm, .ref sw, .int (nI n)]), (sm, AJ G 10 md), (sw, AI G 10 wt)]) [3, 4, 0, 1, 2] rfl) (hD.sub (ws' := [(h0, OB 4 [.ref sy, .ref mu, .ref mz, .ref ex, .int st]), (ex, AJ G 16 xf), (sy, OB 0 [.ref sm, .ref sw, .int (nI n)]), (sm, AJ G 10 md), (sw, AI G 10 wt)]) [3, 4, 0, 1, 2] (by decide) rfl) hS (lv_sub (l' := [(0, .ref h0), (1, .int (nI (softN wt n))), (2, .int (nI j)), (3, .int (bcI (nI j))), (4, .int (nI (j + 1)))]) hl [5, 6, 2, 1, 0] rfl)
  exact L16 ((softN wt n + 1 - 0) + 1) 0 (-9) 0 _ _ _ (Nat.lt_succ_self _) (Nat.zero_le _) (rfl) (rfl) (hP.sub (ws' := [(h0, OB 4 [.ref sy, .ref mu, .ref mz, .ref ex, .int st]), (ex, AJ G 16 xf), (sy, OB 0 [.ref sm, .ref sw, .int (nI n)]), (sm, AJ G 10 md), (sw, AI G 10 wt)]) [0, 1, 2, 3, 4] rfl) (hD.sub (ws' := [(h0, OB 4 [.ref sy, .ref mu, .ref mz, .ref ex, .int st]), (ex, AJ G 16 xf), (sy, OB 0 [.ref sm, .ref sw, .int (nI n)]), (sm, AJ G 10 md), (sw, AI G 10 wt)]) [0, 1, 2, 3, 4] (by decide) rfl) hS (lv_sub (l' := [(0, .ref h0), (1, .int (nI (softN wt n))), (2, .int (-9)), (3, .int 0), (4, .int (nI 0))]) hl [4, 3, 2, 1, 0] rfl)
abbrev rmX4_recordMss : Room := { frames := 1, cells := 0, slots := 0, locals := 22 }
set_option maxHeartbeats 4000000 in
set_option maxRecDepth 100000 in
theorem c_X4_recordMss (l : Launch) (G : GT) (h0 sy mu mz mb ex : Nat) (zf : Nat → Int32) (zn : Nat) (xf : Nat → Int64) (st : Int32) (fd : Nat) (hz : zn < 252) (hfd : fd < 1024) : Cv l yX4_recordMss wsX4_recordMss rmX4_recordMss G [.ref h0, .int (nI fd)] [(h0, OB 4 [.ref sy, .ref mu, .ref mz, .ref ex, .int st]), (mz, OB 3 [.ref mb, .int (nI zn)]), (mb, AI G 252 zf), (ex, AJ G 16 xf)] (fun u => u = [(h0, OB 4 [.ref sy, .ref mu, .ref mz, .ref ex, .int st]), (mz, OB 3 [.ref mb, .int (nI (zn + 1))]), (mb, AI G 252 (va_up zf zn (nI fd))), (ex, AJ G 16 (markF (fun z => subB (nI z) (nI fd)) xf 0 (fd + 1)))]) := by
  refine Cv.of (cc := cX4_recordMss) (maxL := 3) (by decide) rfl (Nat.le_of_ble_eq_true rfl) ?_
  intro p e s m below meth c A ls Q hx hb hml hts hown hin hA hS hP hK hN hSS hD hl ret
  have hown : s.vm.findClass RX4 = some m.cls := hown
  have hl : lv_has ls 3 [(0, .ref h0), (1, .int (nI fd))] := hl
  have hi4 : ∀ w ∈ wsX40, w ∈ wsX4_recordMss := mem_places [15, 16, 17, 18, 19] (by decide +kernel)
  refine lv_aload_n hx hb dX4_recordMss_0 rfl (lv_at hl 0 rfl) ?_
  refine va_get (D := G.1) (ci := 4) (v := .ref mz) (C := RX4) (T := TX4) (N := 5) hx hb hts hi4 hown hK hP 0 rfl rfl 2 (by decide) (hts (.fieldLink RX4 25 "ConflictEnumerator$State" "msses" "LConflictEnumerator$SelectionList;") (List.mem_of_getElem? (i := 1) rfl)) (fun _ h9 => h9) rfl dX4_recordMss_1 ?_
  refine lv_iload_n hx hb dX4_recordMss_4 rfl (lv_at hl 1 rfl) ?_
  refine call_Vv (rest := []) (As := [.int (nI fd)]) (wr := [(h0, OB 4 [.ref sy, .ref mu, .ref mz, .ref ex, .int st]), (ex, AJ G 16 xf)]) (c1 := 0) (s1 := 0) ⟨hx, hb, hml, hown, hts⟩ (c_X3_add l G mz mb zf zn (nI fd) (by first | assumption | omega)) (cwV 1 hts gX4_recordMss_X3_add rfl rfl rfl (by decide +kernel) ⟨Nat.le_of_ble_eq_true rfl, Nat.le_of_ble_eq_true rfl⟩) hK hN hSS hP hD hS hA 0 3 rfl rfl rfl [1, 2] [0, 3] rfl rfl (by decide) (by decide) (by decide) rfl hl.1 rfl (Nat.le_of_ble_eq_true rfl) dX4_recordMss_5 ⟨Nat.le_of_ble_eq_true rfl, Nat.le_of_ble_eq_true rfl⟩ rfl rfl (fun u_5 H locs hpo hP hD hS => ?_)
  subst hpo
  have hP : va_P G.1 vwCl [(h0, OB 4 [.ref sy, .ref mu, .ref mz, .ref ex, .int st]), (ex, AJ G 16 xf), (mz, OB 3 [.ref mb, .int (nI (zn + 1))]), (mb, AI G 252 (va_up zf zn (nI fd)))] H := hP
  have hD : va_D A [(h0, OB 4 [.ref sy, .ref mu, .ref mz, .ref ex, .int st]), (ex, AJ G 16 xf), (mz, OB 3 [.ref mb, .int (nI (zn + 1))]), (mb, AI G 252 (va_up zf zn (nI fd)))] := hD
  refine lv_iconst (v := 0) hx hb dX4_recordMss_8 (by decide) ?_
  refine lv_istore_n (lv' := [(2, .int 0), (0, .ref h0), (1, .int (nI fd))]) hx hb dX4_recordMss_9 rfl hl (by decide) rfl (fun ls hl => ?_)
  have L10 : ∀ (kf : Nat) (j : Nat) (f : Nat → Int64) (H : Heap) (locs : List Loc) (ls : Array Slot), fd + 1 - j < kf → (j ≤ fd + 1) → (f = markF (fun z => subB (nI z) (nI fd)) xf 0 j) → va_P G.1 vwCl [(h0, OB 4 [.ref sy, .ref mu, .ref mz, .ref ex, .int st]), (ex, AJ G 16 f), (mz, OB 3 [.ref mb, .int (nI (zn + 1))]), (mb, AI G 252 (va_up zf zn (nI fd)))] H → va_D A [(h0, OB 4 [.ref sy, .ref mu, .ref mz, .ref ex, .int st]), (ex, AJ G 16 f), (mz, OB 3 [.ref mb, .int (nI (zn + 1))]), (mb, AI G 252 (va_up zf zn (nI fd)))] → va_S A s.heap H locs → lv_has ls 3 [(0, .ref h0), (1, .int (nI fd)), (2, .int (nI j))] → W p l e rmX4_recordMss s m ([.ref h0, .int (nI fd)] : List Value).toArray below meth c H locs 0 0 Q (F0 m 10 ls []) := by
    intro kf
    induction kf with
    | zero => intro j f H locs ls h; exact absurd h (Nat.not_lt_zero _)
    | succ kf ih =>
      intro j f H locs ls hk hi hf hP hD hS hl
      refine lv_iload_n hx hb dX4_recordMss_10 rfl (lv_at hl 2 rfl) ?_
      refine lv_iload_n hx hb dX4_recordMss_11 rfl (lv_at hl 1 rfl) ?_
      refine lv_icmp_gt (tgt := 34) hx hb dX4_recordMss_12 (by decide) (fun c_12 => ?_) (fun c_12 => ?_)
      ·
        have c_12 : fd < j := (nI_ltI (a := fd) (b := j) (by omega) (by omega)).mp c_12
        exact ret _ _ _ _ _ _ _ (Nat.le_of_ble_eq_true rfl) (Nat.le_of_ble_eq_true rfl) (by obtain rfl : j = fd + 1 := (by omega); subst hf; rfl) (hP.sub (ws' := [(h0, OB 4 [.ref sy, .ref mu, .ref mz, .ref ex, .int st]), (mz, OB 3 [.ref mb, .int (nI (zn + 1))]), (mb, AI G 252 (va_up zf zn (nI fd))), (ex, AJ G 16 f)]) [0, 2, 3, 1] rfl) (hD.sub (ws' := [(h0, OB 4 [.ref sy, .ref mu, .ref mz, .ref ex, .int st]), (mz, OB 3 [.ref mb, .int (nI (zn + 1))]), (mb, AI G 252 (va_up zf zn (nI fd))), (ex, AJ G 16 f)]) [0, 2, 3, 1] (by decide) rfl) hS dX4_recordMss_34
      ·
        have c_12 : j ≤ fd := by have h9 := mt (nI_ltI (a := fd) (b := j) (by omega) (by omega)).mpr c_12; omega
        refine lv_iload_n hx hb dX4_recordMss_15 rfl (lv_at hl 2 rfl) ?_
        refine lv_iload_n hx hb dX4_recordMss_16 rfl (lv_at hl 1 rfl) ?_
        refine lv_iconst (v := (-1)) hx hb dX4_recordMss_17 (by decide) ?_
        refine wn_inot hx hb rfl dX4_recordMss_18 ?_
        refine lv_iand hx hb dX4_recordMss_19 ?_
        refine lv_if_ne (tgt := 28) hx hb dX4_recordMss_20 (by decide) (fun c_20 => ?_) (fun c_20 => ?_)
        ·
          refine lv_iinc (v := nI (j + 1)) (lv' := [(2, .int (nI (j + 1))), (0, .ref h0), (1, .int (nI fd))]) hx hb dX4_recordMss_28 hl (k := 2) rfl (nI_inc (j) 1) (by decide) rfl (fun ls hl => ?_)
          refine lv_goto (tgt := 10) hx hb dX4_recordMss_31 (by decide) ?_
          exact ih (j + 1) f _ _ _ (by omega) (by omega) (by simp [markF, subB, hf, c_12, c_20]) (hP.sub (ws' := [(h0, OB 4 [.ref sy, .ref mu, .ref mz, .ref ex, .int st]), (ex, AJ G 16 f), (mz, OB 3 [.ref mb, .int (nI (zn + 1))]), (mb, AI G 252 (va_up zf zn (nI fd)))]) [0, 1, 2, 3] rfl) (hD.sub (ws' := [(h0, OB 4 [.ref sy, .ref mu, .ref mz, .ref ex, .int st]), (ex, AJ G 16 f), (mz, OB 3 [.ref mb, .int (nI (zn + 1))]), (mb, AI G 252 (va_up zf zn (nI fd)))]) [0, 1, 2, 3] (by decide) rfl) hS (lv_sub (l' := [(0, .ref h0), (1, .int (nI fd)), (2, .int (nI (j + 1)))]) hl [1, 2, 0] rfl)
        ·
          refine lv_aload_n hx hb dX4_recordMss_23 rfl (lv_at hl 0 rfl) ?_
          refine lv_iload_n hx hb dX4_recordMss_24 rfl (lv_at hl 2 rfl) ?_
          refine call_Vv (rest := []) (As := [.int (nI j)]) (wr := [(mz, OB 3 [.ref mb, .int (nI (zn + 1))]), (mb, AI G 252 (va_up zf zn (nI fd)))]) (c1 := 0) (s1 := 0) ⟨hx, hb, hml, hown, hts⟩ (c_X4_markExplored l G h0 sy mu mz ex st f j (by first | assumption | omega)) (cwV 1 hts gX4_recordMss_X4_markExplored rfl rfl rfl (by decide +kernel) ⟨Nat.le_of_ble_eq_true rfl, Nat.le_of_ble_eq_true rfl⟩) hK hN hSS hP hD hS hA 0 4 rfl rfl rfl [0, 1] [2, 3] rfl rfl (by decide) (by decide) (by decide) rfl hl.1 rfl (Nat.le_of_ble_eq_true rfl) dX4_recordMss_25 ⟨Nat.le_of_ble_eq_true rfl, Nat.le_of_ble_eq_true rfl⟩ rfl rfl (fun u_25 H locs hpo hP hD hS => ?_)
          subst hpo
          have hP : va_P G.1 vwCl [(mz, OB 3 [.ref mb, .int (nI (zn + 1))]), (mb, AI G 252 (va_up zf zn (nI fd))), (h0, OB 4 [.ref sy, .ref mu, .ref mz, .ref ex, .int st]), (ex, AJ G 16 (mkF f j))] H := hP
          have hD : va_D A [(mz, OB 3 [.ref mb, .int (nI (zn + 1))]), (mb, AI G 252 (va_up zf zn (nI fd))), (h0, OB 4 [.ref sy, .ref mu, .ref mz, .ref ex, .int st]), (ex, AJ G 16 (mkF f j))] := hD
          refine lv_iinc (v := nI (j + 1)) (lv' := [(2, .int (nI (j + 1))), (0, .ref h0), (1, .int (nI fd))]) hx hb dX4_recordMss_28 hl (k := 2) rfl (nI_inc (j) 1) (by decide) rfl (fun ls hl => ?_)
          refine lv_goto (tgt := 10) hx hb dX4_recordMss_31 (by decide) ?_
          exact ih (j + 1) (mkF f j) _ _ _ (by omega) (by omega) (by simp [markF, subB, hf, c_12, c_20]) (hP.sub (ws' := [(h0, OB 4 [.ref sy, .ref mu, .ref mz, .ref ex, .int st]), (ex, AJ G 16 (mkF f j)), (mz, OB 3 [.ref mb, .int (nI (zn + 1))]), (mb, AI G 252 (va_up zf zn (nI fd)))]) [2, 3, 0, 1] rfl) (hD.sub (ws' := [(h0, OB 4 [.ref sy, .ref mu, .ref mz, .ref ex, .int st]), (ex, AJ G 16 (mkF f j)), (mz, OB 3 [.ref mb, .int (nI (zn + 1))]), (mb, AI G 252 (va_up zf zn (nI fd)))]) [2, 3, 0, 1] (by decide) rfl) hS (lv_sub (l' := [(0, .ref h0), (1, .int (nI fd)), (2, .int (nI (j + 1)))]) hl [1, 2, 0] rfl)
  exact L10 ((fd + 1 - 0) + 1) 0 xf _ _ _ (Nat.lt_succ_self _) (Nat.zero_le _) (rfl) (hP.sub (ws' := [(h0, OB 4 [.ref sy, .ref mu, .ref mz, .ref ex, .int st]), (ex, AJ G 16 xf), (mz, OB 3 [.ref mb, .int (nI (zn + 1))]), (mb, AI G 252 (va_up zf zn (nI fd)))]) [0, 1, 2, 3] rfl) (hD.sub (ws' := [(h0, OB 4 [.ref sy, .ref mu, .ref mz, .ref ex, .int st]), (ex, AJ G 16 xf), (mz, OB 3 [.ref mb, .int (nI (zn + 1))]), (mb, AI G 252 (va_up zf zn (nI fd)))]) [0, 1, 2, 3] (by decide) rfl) hS (lv_sub (l' := [(0, .ref h0), (1, .int (nI fd)), (2, .int (nI 0))]) hl [1, 2, 0] rfl)
abbrev rmX4_recordMus : Room := { frames := 1, cells := 0, slots := 0, locals := 22 }
set_option maxHeartbeats 4000000 in
set_option maxRecDepth 100000 in
theorem c_X4_recordMus (l : Launch) (G : GT) (h0 sy sm sw mu ma mz ex : Nat) (md : Nat → Int64) (wt : Nat → Int32) (n : Nat) (uf : Nat → Int32) (un : Nat) (xf : Nat → Int64) (st : Int32) (fd : Nat) (hn : n ≤ 10) (hz : un < 252) (hfd : fd ≤ softN wt n) : Cv l yX4_recordMus wsX4_recordMus rmX4_recordMus G [.ref h0, .int (nI fd)] [(h0, OB 4 [.ref sy, .ref mu, .ref mz, .ref ex, .int st]), (sy, OB 0 [.ref sm, .ref sw, .int (nI n)]), (sm, AJ G 10 md), (sw, AI G 10 wt), (mu, OB 3 [.ref ma, .int (nI un)]), (ma, AI G 252 uf), (ex, AJ G 16 xf)] (fun u => u = [(h0, OB 4 [.ref sy, .ref mu, .ref mz, .ref ex, .int st]), (sy, OB 0 [.ref sm, .ref sw, .int (nI n)]), (sm, AJ G 10 md), (sw, AI G 10 wt), (mu, OB 3 [.ref ma, .int (nI (un + 1))]), (ma, AI G 252 (va_up uf un (nI fd))), (ex, AJ G 16 (markF (fun z => subB (nI z) (nI (softN wt n)) && (nI z &&& nI fd == nI fd)) xf fd (softN wt n + 1 - fd)))]) := by
  refine Cv.of (cc := cX4_recordMus) (maxL := 4) (by decide) rfl (Nat.le_of_ble_eq_true rfl) ?_
  intro p e s m below meth c A ls Q hx hb hml hts hown hin hA hS hP hK hN hSS hD hl ret
  have hown : s.vm.findClass RX4 = some m.cls := hown
  have hl : lv_has ls 4 [(0, .ref h0), (1, .int (nI fd))] := hl
  have hi4 : ∀ w ∈ wsX40, w ∈ wsX4_recordMus := mem_places [23, 24, 25, 26, 27] (by decide +kernel)
  have hsn := softN_1024 wt hn
  refine lv_aload_n hx hb dX4_recordMus_0 rfl (lv_at hl 0 rfl) ?_
  refine va_get (D := G.1) (ci := 4) (v := .ref mu) (C := RX4) (T := TX4) (N := 5) hx hb hts hi4 hown hK hP 0 rfl rfl 1 (by decide) (hts (.fieldLink RX4 21 "ConflictEnumerator$State" "muses" "LConflictEnumerator$SelectionList;") (List.mem_of_getElem? (i := 1) rfl)) (fun _ h9 => h9) rfl dX4_recordMus_1 ?_
  refine lv_iload_n hx hb dX4_recordMus_4 rfl (lv_at hl 1 rfl) ?_
  refine call_Vv (rest := []) (As := [.int (nI fd)]) (wr := [(h0, OB 4 [.ref sy, .ref mu, .ref mz, .ref ex, .int st]), (sy, OB 0 [.ref sm, .ref sw, .int (nI n)]), (sm, AJ G 10 md), (sw, AI G 10 wt), (ex, AJ G 16 xf)]) (c1 := 0) (s1 := 0) ⟨hx, hb, hml, hown, hts⟩ (c_X3_add l G mu ma uf un (nI fd) (by first | assumption | omega)) (cwV 1 hts gX4_recordMus_X3_add rfl rfl rfl (by decide +kernel) ⟨Nat.le_of_ble_eq_true rfl, Nat.le_of_ble_eq_true rfl⟩) hK hN hSS hP hD hS hA 0 3 rfl rfl rfl [4, 5] [0, 1, 2, 3, 6] rfl rfl (by decide) (by decide) (by decide) rfl hl.1 rfl (Nat.le_of_ble_eq_true rfl) dX4_recordMus_5 ⟨Nat.le_of_ble_eq_true rfl, Nat.le_of_ble_eq_true rfl⟩ rfl rfl (fun u_5 H locs hpo hP hD hS => ?_)
  subst hpo
  have hP : va_P G.1 vwCl [(h0, OB 4 [.ref sy, .ref mu, .ref mz, .ref ex, .int st]), (sy, OB 0 [.ref sm, .ref sw, .int (nI n)]), (sm, AJ G 10 md), (sw, AI G 10 wt), (ex, AJ G 16 xf), (mu, OB 3 [.ref ma, .int (nI (un + 1))]), (ma, AI G 252 (va_up uf un (nI fd)))] H := hP
  have hD : va_D A [(h0, OB 4 [.ref sy, .ref mu, .ref mz, .ref ex, .int st]), (sy, OB 0 [.ref sm, .ref sw, .int (nI n)]), (sm, AJ G 10 md), (sw, AI G 10 wt), (ex, AJ G 16 xf), (mu, OB 3 [.ref ma, .int (nI (un + 1))]), (ma, AI G 252 (va_up uf un (nI fd)))] := hD
  refine lv_aload_n hx hb dX4_recordMus_8 rfl (lv_at hl 0 rfl) ?_
  refine va_get (D := G.1) (ci := 4) (v := .ref sy) (C := RX4) (T := TX4) (N := 5) hx hb hts hi4 hown hK hP 0 rfl rfl 0 (by decide) (hts (.fieldLink RX4 12 "ConflictEnumerator$State" "system" "LConflictEnumerator$Constraints;") (List.mem_of_getElem? (i := 2) rfl)) (fun _ h9 => h9) rfl dX4_recordMus_9 ?_
  refine call_Vi (rest := []) (As := []) (wr := [(h0, OB 4 [.ref sy, .ref mu, .ref mz, .ref ex, .int st]), (ex, AJ G 16 xf), (mu, OB 3 [.ref ma, .int (nI (un + 1))]), (ma, AI G 252 (va_up uf un (nI fd)))]) (c1 := 0) (s1 := 0) ⟨hx, hb, hml, hown, hts⟩ (c_X0_softMask l G sy sm sw md wt n (by first | assumption | omega)) (cwV 0 hts gX4_recordMus_X0_softMask rfl rfl rfl (by decide +kernel) ⟨Nat.le_of_ble_eq_true rfl, Nat.le_of_ble_eq_true rfl⟩) hK hN hSS hP hD hS hA 0 0 rfl rfl rfl [1, 2, 3] [0, 4, 5, 6] rfl rfl (by decide) (by decide) (by decide) rfl hl.1 rfl (Nat.le_of_ble_eq_true rfl) dX4_recordMus_12 ⟨Nat.le_of_ble_eq_true rfl, Nat.le_of_ble_eq_true rfl⟩ rfl rfl (fun r_12 u_12 H locs hpo hP hD hS => ?_)
  obtain ⟨hr9, rfl⟩ := hpo
  subst r_12
  have hP : va_P G.1 vwCl [(h0, OB 4 [.ref sy, .ref mu, .ref mz, .ref ex, .int st]), (ex, AJ G 16 xf), (mu, OB 3 [.ref ma, .int (nI (un + 1))]), (ma, AI G 252 (va_up uf un (nI fd))), (sy, OB 0 [.ref sm, .ref sw, .int (nI n)]), (sm, AJ G 10 md), (sw, AI G 10 wt)] H := hP
  have hD : va_D A [(h0, OB 4 [.ref sy, .ref mu, .ref mz, .ref ex, .int st]), (ex, AJ G 16 xf), (mu, OB 3 [.ref ma, .int (nI (un + 1))]), (ma, AI G 252 (va_up uf un (nI fd))), (sy, OB 0 [.ref sm, .ref sw, .int (nI n)]), (sm, AJ G 10 md), (sw, AI G 10 wt)] := hD
  rw [show softM wt n = nI (softN wt n) from softM_nI wt n (by omega)]
  refine lv_istore_n (lv' := [(2, .int (nI (softN wt n))), (0, .ref h0), (1, .int (nI fd))]) hx hb dX4_recordMus_15 rfl hl (by decide) rfl (fun ls hl => ?_)
  refine lv_iload_n hx hb dX4_recordMus_16 rfl (lv_at hl 2 rfl) ?_
  refine lv_istore_n (lv' := [(3, .int (nI fd)), (2, .int (nI (softN wt n))), (0, .ref h0), (1, .int (nI fd))]) hx hb dX4_recordMus_17 rfl hl (by decide) rfl (fun ls hl => ?_)
  have L18 : ∀ (kf : Nat) (k : Nat) (f : Nat → Int64) (H : Heap) (locs : List Loc) (ls : Array Slot), softN wt n + 1 - (fd + k) < kf → (fd + k ≤ softN wt n + 1) → (f = markF (fun z => subB (nI z) (nI (softN wt n)) && (nI z &&& nI fd == nI fd)) xf fd k) → va_P G.1 vwCl [(h0, OB 4 [.ref sy, .ref mu, .ref mz, .ref ex, .int st]), (ex, AJ G 16 f), (mu, OB 3 [.ref ma, .int (nI (un + 1))]), (ma, AI G 252 (va_up uf un (nI fd))), (sy, OB 0 [.ref sm, .ref sw, .int (nI n)]), (sm, AJ G 10 md), (sw, AI G 10 wt)] H → va_D A [(h0, OB 4 [.ref sy, .ref mu, .ref mz, .ref ex, .int st]), (ex, AJ G 16 f), (mu, OB 3 [.ref ma, .int (nI (un + 1))]), (ma, AI G 252 (va_up uf un (nI fd))), (sy, OB 0 [.ref sm, .ref sw, .int (nI n)]), (sm, AJ G 10 md), (sw, AI G 10 wt)] → va_S A s.heap H locs → lv_has ls 4 [(0, .ref h0), (1, .int (nI fd)), (2, .int (nI (softN wt n))), (3, .int (nI (fd + k)))] → W p l e rmX4_recordMus s m ([.ref h0, .int (nI fd)] : List Value).toArray below meth c H locs 0 0 Q (F0 m 18 ls []) := by
    intro kf
    induction kf with
    | zero => intro k f H locs ls h; exact absurd h (Nat.not_lt_zero _)
    | succ kf ih =>
      intro k f H locs ls hk hi hf hP hD hS hl
      refine lv_iload_n hx hb dX4_recordMus_18 rfl (lv_at hl 3 rfl) ?_
      refine lv_iload_n hx hb dX4_recordMus_19 rfl (lv_at hl 2 rfl) ?_
      refine lv_icmp_gt (tgt := 49) hx hb dX4_recordMus_20 (by decide) (fun c_20 => ?_) (fun c_20 => ?_)
      ·
        have c_20 : (softN wt n) < (fd + k) := (nI_ltI (a := softN wt n) (b := fd + k) (by omega) (by omega)).mp c_20
        exact ret _ _ _ _ _ _ _ (Nat.le_of_ble_eq_true rfl) (Nat.le_of_ble_eq_true rfl) (by obtain rfl : k = softN wt n + 1 - fd := (by omega); subst hf; rfl) (hP.sub (ws' := [(h0, OB 4 [.ref sy, .ref mu, .ref mz, .ref ex, .int st]), (sy, OB 0 [.ref sm, .ref sw, .int (nI n)]), (sm, AJ G 10 md), (sw, AI G 10 wt), (mu, OB 3 [.ref ma, .int (nI (un + 1))]), (ma, AI G 252 (va_up uf un (nI fd))), (ex, AJ G 16 f)]) [0, 4, 5, 6, 2, 3, 1] rfl) (hD.sub (ws' := [(h0, OB 4 [.ref sy, .ref mu, .ref mz, .ref ex, .int st]), (sy, OB 0 [.ref sm, .ref sw, .int (nI n)]), (sm, AJ G 10 md), (sw, AI G 10 wt), (mu, OB 3 [.ref ma, .int (nI (un + 1))]), (ma, AI G 252 (va_up uf un (nI fd))), (ex, AJ G 16 f)]) [0, 4, 5, 6, 2, 3, 1] (by decide) rfl) hS dX4_recordMus_49
      ·
        have c_20 : (fd + k) ≤ (softN wt n) := by have h9 := mt (nI_ltI (a := softN wt n) (b := fd + k) (by omega) (by omega)).mpr c_20; omega
        refine lv_iload_n hx hb dX4_recordMus_23 rfl (lv_at hl 3 rfl) ?_
        refine lv_iload_n hx hb dX4_recordMus_24 rfl (lv_at hl 2 rfl) ?_
        refine lv_iconst (v := (-1)) hx hb dX4_recordMus_25 (by decide) ?_
        refine wn_inot hx hb rfl dX4_recordMus_26 ?_
        refine lv_iand hx hb dX4_recordMus_27 ?_
        refine lv_if_ne (tgt := 43) hx hb dX4_recordMus_28 (by decide) (fun c_28 => ?_) (fun c_28 => ?_)
        ·
          refine lv_iinc (v := nI (fd + k + 1)) (lv' := [(3, .int (nI (fd + k + 1))), (0, .ref h0), (1, .int (nI fd)), (2, .int (nI (softN wt n)))]) hx hb dX4_recordMus_43 hl (k := 3) rfl (nI_inc (fd + k) 1) (by decide) rfl (fun ls hl => ?_)
          refine lv_goto (tgt := 18) hx hb dX4_recordMus_46 (by decide) ?_
          exact ih (k + 1) f _ _ _ (by omega) (by omega) (by simp [markF, subB, hf, c_20, c_28]) (hP.sub (ws' := [(h0, OB 4 [.ref sy, .ref mu, .ref mz, .ref ex, .int st]), (ex, AJ G 16 f), (mu, OB 3 [.ref ma, .int (nI (un + 1))]), (ma, AI G 252 (va_up uf un (nI fd))), (sy, OB 0 [.ref sm, .ref sw, .int (nI n)]), (sm, AJ G 10 md), (sw, AI G 10 wt)]) [0, 1, 2, 3, 4, 5, 6] rfl) (hD.sub (ws' := [(h0, OB 4 [.ref sy, .ref mu, .ref mz, .ref ex, .int st]), (ex, AJ G 16 f), (mu, OB 3 [.ref ma, .int (nI (un + 1))]), (ma, AI G 252 (va_up uf un (nI fd))), (sy, OB 0 [.ref sm, .ref sw, .int (nI n)]), (sm, AJ G 10 md), (sw, AI G 10 wt)]) [0, 1, 2, 3, 4, 5, 6] (by decide) rfl) hS (lv_sub (l' := [(0, .ref h0), (1, .int (nI fd)), (2, .int (nI (softN wt n))), (3, .int (nI (fd + (k + 1))))]) hl [1, 2, 3, 0] rfl)
        ·
          refine lv_iload_n hx hb dX4_recordMus_31 rfl (lv_at hl 3 rfl) ?_
          refine lv_iload_n hx hb dX4_recordMus_32 rfl (lv_at hl 1 rfl) ?_
          refine lv_iand hx hb dX4_recordMus_33 ?_
          refine lv_iload_n hx hb dX4_recordMus_34 rfl (lv_at hl 1 rfl) ?_
          refine lv_icmp_ne (tgt := 43) hx hb dX4_recordMus_35 (by decide) (fun c_35 => ?_) (fun c_35 => ?_)
          ·
            refine lv_iinc (v := nI (fd + k + 1)) (lv' := [(3, .int (nI (fd + k + 1))), (0, .ref h0), (1, .int (nI fd)), (2, .int (nI (softN wt n)))]) hx hb dX4_recordMus_43 hl (k := 3) rfl (nI_inc (fd + k) 1) (by decide) rfl (fun ls hl => ?_)
            refine lv_goto (tgt := 18) hx hb dX4_recordMus_46 (by decide) ?_
            exact ih (k + 1) f _ _ _ (by omega) (by omega) (by simp [markF, subB, hf, c_20, c_28, c_35]) (hP.sub (ws' := [(h0, OB 4 [.ref sy, .ref mu, .ref mz, .ref ex, .int st]), (ex, AJ G 16 f), (mu, OB 3 [.ref ma, .int (nI (un + 1))]), (ma, AI G 252 (va_up uf un (nI fd))), (sy, OB 0 [.ref sm, .ref sw, .int (nI n)]), (sm, AJ G 10 md), (sw, AI G 10 wt)]) [0, 1, 2, 3, 4, 5, 6] rfl) (hD.sub (ws' := [(h0, OB 4 [.ref sy, .ref mu, .ref mz, .ref ex, .int st]), (ex, AJ G 16 f), (mu, OB 3 [.ref ma, .int (nI (un + 1))]), (ma, AI G 252 (va_up uf un (nI fd))), (sy, OB 0 [.ref sm, .ref sw, .int (nI n)]), (sm, AJ G 10 md), (sw, AI G 10 wt)]) [0, 1, 2, 3, 4, 5, 6] (by decide) rfl) hS (lv_sub (l' := [(0, .ref h0), (1, .int (nI fd)), (2, .int (nI (softN wt n))), (3, .int (nI (fd + (k + 1))))]) hl [1, 2, 3, 0] rfl)
          ·
            refine lv_aload_n hx hb dX4_recordMus_38 rfl (lv_at hl 0 rfl) ?_
            refine lv_iload_n hx hb dX4_recordMus_39 rfl (lv_at hl 3 rfl) ?_
            refine call_Vv (rest := []) (As := [.int (nI (fd + k))]) (wr := [(mu, OB 3 [.ref ma, .int (nI (un + 1))]), (ma, AI G 252 (va_up uf un (nI fd))), (sy, OB 0 [.ref sm, .ref sw, .int (nI n)]), (sm, AJ G 10 md), (sw, AI G 10 wt)]) (c1 := 0) (s1 := 0) ⟨hx, hb, hml, hown, hts⟩ (c_X4_markExplored l G h0 sy mu mz ex st f (fd + k) (by first | assumption | omega)) (cwV 1 hts gX4_recordMus_X4_markExplored rfl rfl rfl (by decide +kernel) ⟨Nat.le_of_ble_eq_true rfl, Nat.le_of_ble_eq_true rfl⟩) hK hN hSS hP hD hS hA 0 4 rfl rfl rfl [0, 1] [2, 3, 4, 5, 6] rfl rfl (by decide) (by decide) (by decide) rfl hl.1 rfl (Nat.le_of_ble_eq_true rfl) dX4_recordMus_40 ⟨Nat.le_of_ble_eq_true rfl, Nat.le_of_ble_eq_true rfl⟩ rfl rfl (fun u_40 H locs hpo hP hD hS => ?_)
            subst hpo
            have hP : va_P G.1 vwCl [(mu, OB 3 [.ref ma, .int (nI (un + 1))]), (ma, AI G 252 (va_up uf un (nI fd))), (sy, OB 0 [.ref sm, .ref sw, .int (nI n)]), (sm, AJ G 10 md), (sw, AI G 10 wt), (h0, OB 4 [.ref sy, .ref mu, .ref mz, .ref ex, .int st]), (ex, AJ G 16 (mkF f (fd + k)))] H := hP
            have hD : va_D A [(mu, OB 3 [.ref ma, .int (nI (un + 1))]), (ma, AI G 252 (va_up uf un (nI fd))), (sy, OB 0 [.ref sm, .ref sw, .int (nI n)]), (sm, AJ G 10 md), (sw, AI G 10 wt), (h0, OB 4 [.ref sy, .ref mu, .ref mz, .ref ex, .int st]), (ex, AJ G 16 (mkF f (fd + k)))] := hD
            refine lv_iinc (v := nI (fd + k + 1)) (lv' := [(3, .int (nI (fd + k + 1))), (0, .ref h0), (1, .int (nI fd)), (2, .int (nI (softN wt n)))]) hx hb dX4_recordMus_43 hl (k := 3) rfl (nI_inc (fd + k) 1) (by decide) rfl (fun ls hl => ?_)
            refine lv_goto (tgt := 18) hx hb dX4_recordMus_46 (by decide) ?_
            exact ih (k + 1) (mkF f (fd + k)) _ _ _ (by omega) (by omega) (by simp [markF, subB, hf, c_20, c_28, c_35]) (hP.sub (ws' := [(h0, OB 4 [.ref sy, .ref mu, .ref mz, .ref ex, .int st]), (ex, AJ G 16 (mkF f (fd + k))), (mu, OB 3 [.ref ma, .int (nI (un + 1))]), (ma, AI G 252 (va_up uf un (nI fd))), (sy, OB 0 [.ref sm, .ref sw, .int (nI n)]), (sm, AJ G 10 md), (sw, AI G 10 wt)]) [5, 6, 0, 1, 2, 3, 4] rfl) (hD.sub (ws' := [(h0, OB 4 [.ref sy, .ref mu, .ref mz, .ref ex, .int st]), (ex, AJ G 16 (mkF f (fd + k))), (mu, OB 3 [.ref ma, .int (nI (un + 1))]), (ma, AI G 252 (va_up uf un (nI fd))), (sy, OB 0 [.ref sm, .ref sw, .int (nI n)]), (sm, AJ G 10 md), (sw, AI G 10 wt)]) [5, 6, 0, 1, 2, 3, 4] (by decide) rfl) hS (lv_sub (l' := [(0, .ref h0), (1, .int (nI fd)), (2, .int (nI (softN wt n))), (3, .int (nI (fd + (k + 1))))]) hl [1, 2, 3, 0] rfl)
  exact L18 ((softN wt n + 1 - (fd + 0)) + 1) 0 xf _ _ _ (Nat.lt_succ_self _) (by omega) (rfl) (hP.sub (ws' := [(h0, OB 4 [.ref sy, .ref mu, .ref mz, .ref ex, .int st]), (ex, AJ G 16 xf), (mu, OB 3 [.ref ma, .int (nI (un + 1))]), (ma, AI G 252 (va_up uf un (nI fd))), (sy, OB 0 [.ref sm, .ref sw, .int (nI n)]), (sm, AJ G 10 md), (sw, AI G 10 wt)]) [0, 1, 2, 3, 4, 5, 6] rfl) (hD.sub (ws' := [(h0, OB 4 [.ref sy, .ref mu, .ref mz, .ref ex, .int st]), (ex, AJ G 16 xf), (mu, OB 3 [.ref ma, .int (nI (un + 1))]), (ma, AI G 252 (va_up uf un (nI fd))), (sy, OB 0 [.ref sm, .ref sw, .int (nI n)]), (sm, AJ G 10 md), (sw, AI G 10 wt)]) [0, 1, 2, 3, 4, 5, 6] (by decide) rfl) hS (lv_sub (l' := [(0, .ref h0), (1, .int (nI fd)), (2, .int (nI (softN wt n))), (3, .int (nI (fd + 0)))]) hl [2, 3, 1, 0] rfl)
abbrev rmX4_hitsEveryMus : Room := { frames := 1, cells := 0, slots := 0, locals := 21 }
set_option maxHeartbeats 4000000 in
set_option maxRecDepth 100000 in
theorem c_X4_hitsEveryMus (l : Launch) (G : GT) (h0 sy mu ma mz ex : Nat) (uf : Nat → Int32) (un : Nat) (st : Int32) (sel : Int32) (hu : un ≤ 252) : Ci l yX4_hitsEveryMus wsX4_hitsEveryMus rmX4_hitsEveryMus G [.ref h0, .int sel] [(h0, OB 4 [.ref sy, .ref mu, .ref mz, .ref ex, .int st]), (mu, OB 3 [.ref ma, .int (nI un)]), (ma, AI G 252 uf)] (fun r u => r = bI (allU (fun z => !(uf z &&& sel == 0)) 0 un) ∧ u = [(h0, OB 4 [.ref sy, .ref mu, .ref mz, .ref ex, .int st]), (mu, OB 3 [.ref ma, .int (nI un)]), (ma, AI G 252 uf)]) := by
  refine Ci.of (cc := cX4_hitsEveryMus) (maxL := 3) (ty := .boolean) (by decide) rfl (Nat.le_of_ble_eq_true rfl) ?_
  intro p e s m below meth c A ls Q hx hb hml hts hown hA hS hP hK hN hSS hD hl ret
  have hown : s.vm.findClass RX4 = some m.cls := hown
  have hl : lv_has ls 3 [(0, .ref h0), (1, .int sel)] := hl
  have hi4 : ∀ w ∈ wsX40, w ∈ wsX4_hitsEveryMus := mem_places [13, 14, 15, 16, 17] (by decide +kernel)
  refine lv_iconst (v := 0) hx hb dX4_hitsEveryMus_0 (by decide) ?_
  refine lv_istore_n (lv' := [(2, .int 0), (0, .ref h0), (1, .int sel)]) hx hb dX4_hitsEveryMus_1 rfl hl (by decide) rfl (fun ls hl => ?_)
  have L2 : ∀ (kf : Nat) (i : Nat) (H : Heap) (locs : List Loc) (ls : Array Slot), un - i < kf → (i ≤ un) → (allU (fun z => !(uf z &&& sel == 0)) i (un - i) = allU (fun z => !(uf z &&& sel == 0)) 0 un) → va_P G.1 vwCl [(h0, OB 4 [.ref sy, .ref mu, .ref mz, .ref ex, .int st]), (mu, OB 3 [.ref ma, .int (nI un)]), (ma, AI G 252 uf)] H → va_D A [(h0, OB 4 [.ref sy, .ref mu, .ref mz, .ref ex, .int st]), (mu, OB 3 [.ref ma, .int (nI un)]), (ma, AI G 252 uf)] → va_S A s.heap H locs → lv_has ls 3 [(0, .ref h0), (1, .int sel), (2, .int (nI i))] → W p l e rmX4_hitsEveryMus s m ([.ref h0, .int sel] : List Value).toArray below meth c H locs 0 0 Q (F0 m 2 ls []) := by
    intro kf
    induction kf with
    | zero => intro i H locs ls h; exact absurd h (Nat.not_lt_zero _)
    | succ kf ih =>
      intro i H locs ls hk hi ha hP hD hS hl
      refine lv_iload_n hx hb dX4_hitsEveryMus_2 rfl (lv_at hl 2 rfl) ?_
      refine lv_aload_n hx hb dX4_hitsEveryMus_3 rfl (lv_at hl 0 rfl) ?_
      refine va_get (D := G.1) (ci := 4) (v := .ref mu) (C := RX4) (T := TX4) (N := 5) hx hb hts hi4 hown hK hP 0 rfl rfl 1 (by decide) (hts (.fieldLink RX4 21 "ConflictEnumerator$State" "muses" "LConflictEnumerator$SelectionList;") (List.mem_of_getElem? (i := 1) rfl)) (fun _ h9 => h9) rfl dX4_hitsEveryMus_4 ?_
      refine call_Vi (rest := [.int (nI i)]) (As := []) (wr := [(h0, OB 4 [.ref sy, .ref mu, .ref mz, .ref ex, .int st])]) (c1 := 0) (s1 := 0) ⟨hx, hb, hml, hown, hts⟩ (c_X3_size l G mu ma uf un ) (cwV 0 hts gX4_hitsEveryMus_X3_size rfl rfl rfl (by decide +kernel) ⟨Nat.le_of_ble_eq_true rfl, Nat.le_of_ble_eq_true rfl⟩) hK hN hSS hP hD hS hA 0 3 rfl rfl rfl [1, 2] [0] rfl rfl (by decide) (by decide) (by decide) rfl hl.1 rfl (Nat.le_of_ble_eq_true rfl) dX4_hitsEveryMus_7 ⟨Nat.le_of_ble_eq_true rfl, Nat.le_of_ble_eq_true rfl⟩ rfl rfl (fun r_7 u_7 H locs hpo hP hD hS => ?_)
      obtain ⟨hr9, rfl⟩ := hpo
      subst r_7
      have hP : va_P G.1 vwCl [(h0, OB 4 [.ref sy, .ref mu, .ref mz, .ref ex, .int st]), (mu, OB 3 [.ref ma, .int (nI un)]), (ma, AI G 252 uf)] H := hP
      have hD : va_D A [(h0, OB 4 [.ref sy, .ref mu, .ref mz, .ref ex, .int st]), (mu, OB 3 [.ref ma, .int (nI un)]), (ma, AI G 252 uf)] := hD
      refine lv_icmp_ge (tgt := 34) hx hb dX4_hitsEveryMus_10 (by decide) (fun c_10 => ?_) (fun c_10 => ?_)
      ·
        have c_10 : un ≤ i := (nI_leI (a := un) (b := i) (by omega) (by omega)).mp c_10
        refine lv_iconst (v := 1) hx hb dX4_hitsEveryMus_34 (by decide) ?_
        exact ret 1 _ _ _ _ _ _ _ (Nat.le_of_ble_eq_true rfl) (Nat.le_of_ble_eq_true rfl) (rfl) (⟨by rw [← ha, show un - i = 0 by omega]; rfl, rfl⟩) (hP.sub (ws' := [(h0, OB 4 [.ref sy, .ref mu, .ref mz, .ref ex, .int st]), (mu, OB 3 [.ref ma, .int (nI un)]), (ma, AI G 252 uf)]) [0, 1, 2] rfl) (hD.sub (ws' := [(h0, OB 4 [.ref sy, .ref mu, .ref mz, .ref ex, .int st]), (mu, OB 3 [.ref ma, .int (nI un)]), (ma, AI G 252 uf)]) [0, 1, 2] (by decide) rfl) hS dX4_hitsEveryMus_35
      ·
        have c_10 : i < un := by have h9 := mt (nI_leI (a := un) (b := i) (by omega) (by omega)).mpr c_10; omega
        refine lv_aload_n hx hb dX4_hitsEveryMus_13 rfl (lv_at hl 0 rfl) ?_
        refine va_get (D := G.1) (ci := 4) (v := .ref mu) (C := RX4) (T := TX4) (N := 5) hx hb hts hi4 hown hK hP 0 rfl rfl 1 (by decide) (hts (.fieldLink RX4 21 "ConflictEnumerator$State" "muses" "LConflictEnumerator$SelectionList;") (List.mem_of_getElem? (i := 1) rfl)) (fun _ h9 => h9) rfl dX4_hitsEveryMus_14 ?_
        refine lv_iload_n hx hb dX4_hitsEveryMus_17 rfl (lv_at hl 2 rfl) ?_
        refine call_Vi (rest := []) (As := [.int (nI i)]) (wr := [(h0, OB 4 [.ref sy, .ref mu, .ref mz, .ref ex, .int st])]) (c1 := 0) (s1 := 0) ⟨hx, hb, hml, hown, hts⟩ (c_X3_get l G mu ma uf un (nI i) (by first | assumption | omega)) (cwV 1 hts gX4_hitsEveryMus_X3_get rfl rfl rfl (by decide +kernel) ⟨Nat.le_of_ble_eq_true rfl, Nat.le_of_ble_eq_true rfl⟩) hK hN hSS hP hD hS hA 0 3 rfl rfl rfl [1, 2] [0] rfl rfl (by decide) (by decide) (by decide) rfl hl.1 rfl (Nat.le_of_ble_eq_true rfl) dX4_hitsEveryMus_18 ⟨Nat.le_of_ble_eq_true rfl, Nat.le_of_ble_eq_true rfl⟩ rfl rfl (fun r_18 u_18 H locs hpo hP hD hS => ?_)
        obtain ⟨hr9, rfl⟩ := hpo
        subst r_18
        have hP : va_P G.1 vwCl [(h0, OB 4 [.ref sy, .ref mu, .ref mz, .ref ex, .int st]), (mu, OB 3 [.ref ma, .int (nI un)]), (ma, AI G 252 uf)] H := hP
        have hD : va_D A [(h0, OB 4 [.ref sy, .ref mu, .ref mz, .ref ex, .int st]), (mu, OB 3 [.ref ma, .int (nI un)]), (ma, AI G 252 uf)] := hD
        rw [show getF uf un (nI i) = uf i from getF_nI (by omega) (by omega)]
        refine lv_iload_n hx hb dX4_hitsEveryMus_21 rfl (lv_at hl 1 rfl) ?_
        refine lv_iand hx hb dX4_hitsEveryMus_22 ?_
        refine lv_if_ne (tgt := 28) hx hb dX4_hitsEveryMus_23 (by decide) (fun c_23 => ?_) (fun c_23 => ?_)
        ·
          refine lv_iinc (v := nI (i + 1)) (lv' := [(2, .int (nI (i + 1))), (0, .ref h0), (1, .int sel)]) hx hb dX4_hitsEveryMus_28 hl (k := 2) rfl (nI_inc (i) 1) (by decide) rfl (fun ls hl => ?_)
          refine lv_goto (tgt := 2) hx hb dX4_hitsEveryMus_31 (by decide) ?_
          exact ih (i + 1) _ _ _ (by omega) (by omega) (by rw [← ha, show un - i = (un - (i + 1)) + 1 by omega]; simp [allU, c_23]) (hP.sub (ws' := [(h0, OB 4 [.ref sy, .ref mu, .ref mz, .ref ex, .int st]), (mu, OB 3 [.ref ma, .int (nI un)]), (ma, AI G 252 uf)]) [0, 1, 2] rfl) (hD.sub (ws' := [(h0, OB 4 [.ref sy, .ref mu, .ref mz, .ref ex, .int st]), (mu, OB 3 [.ref ma, .int (nI un)]), (ma, AI G 252 uf)]) [0, 1, 2] (by decide) rfl) hS (lv_sub (l' := [(0, .ref h0), (1, .int sel), (2, .int (nI (i + 1)))]) hl [1, 2, 0] rfl)
        ·
          refine lv_iconst (v := 0) hx hb dX4_hitsEveryMus_26 (by decide) ?_
          exact ret 0 _ _ _ _ _ _ _ (Nat.le_of_ble_eq_true rfl) (Nat.le_of_ble_eq_true rfl) (rfl) (⟨by rw [← ha, show un - i = (un - (i + 1)) + 1 by omega]; simp [allU, c_23, bI], rfl⟩) (hP.sub (ws' := [(h0, OB 4 [.ref sy, .ref mu, .ref mz, .ref ex, .int st]), (mu, OB 3 [.ref ma, .int (nI un)]), (ma, AI G 252 uf)]) [0, 1, 2] rfl) (hD.sub (ws' := [(h0, OB 4 [.ref sy, .ref mu, .ref mz, .ref ex, .int st]), (mu, OB 3 [.ref ma, .int (nI un)]), (ma, AI G 252 uf)]) [0, 1, 2] (by decide) rfl) hS dX4_hitsEveryMus_27
  exact L2 ((un - 0) + 1) 0 _ _ _ (Nat.lt_succ_self _) (Nat.zero_le _) (rfl) (hP.sub (ws' := [(h0, OB 4 [.ref sy, .ref mu, .ref mz, .ref ex, .int st]), (mu, OB 3 [.ref ma, .int (nI un)]), (ma, AI G 252 uf)]) [0, 1, 2] rfl) (hD.sub (ws' := [(h0, OB 4 [.ref sy, .ref mu, .ref mz, .ref ex, .int st]), (mu, OB 3 [.ref ma, .int (nI un)]), (ma, AI G 252 uf)]) [0, 1, 2] (by decide) rfl) hS (lv_sub (l' := [(0, .ref h0), (1, .int sel), (2, .int (nI 0))]) hl [1, 2, 0] rfl)
abbrev rmX4_blameOf : Room := { frames := 1, cells := 0, slots := 0, locals := 21 }
set_option maxHeartbeats 4000000 in
set_option maxRecDepth 100000 in
theorem c_X4_blameOf (l : Launch) (G : GT) (h0 sy mu ma mz ex : Nat) (uf : Nat → Int32) (un : Nat) (st : Int32) (k : Nat) (hu : un ≤ 252) : Ci l yX4_blameOf wsX4_blameOf rmX4_blameOf G [.ref h0, .int (nI k)] [(h0, OB 4 [.ref sy, .ref mu, .ref mz, .ref ex, .int st]), (mu, OB 3 [.ref ma, .int (nI un)]), (ma, AI G 252 uf)] (fun r u => r = blamF uf k un ∧ u = [(h0, OB 4 [.ref sy, .ref mu, .ref mz, .ref ex, .int st]), (mu, OB 3 [.ref ma, .int (nI un)]), (ma, AI G 252 uf)]) := by
  refine Ci.of (cc := cX4_blameOf) (maxL := 6) (ty := .int) (by decide) rfl (Nat.le_of_ble_eq_true rfl) ?_
  intro p e s m below meth c A ls Q hx hb hml hts hown hA hS hP hK hN hSS hD hl ret
  have hown : s.vm.findClass RX4 = some m.cls := hown
  have hl : lv_has ls 6 [(0, .ref h0), (1, .int (nI k))] := hl
  have hi4 : ∀ w ∈ wsX40, w ∈ wsX4_blameOf := mem_places [20, 21, 22, 23, 24] (by decide +kernel)
  refine lv_iconst (v := 0) hx hb dX4_blameOf_0 (by decide) ?_
  refine lv_istore_n (lv' := [(2, .int 0), (0, .ref h0), (1, .int (nI k))]) hx hb dX4_blameOf_1 rfl hl (by decide) rfl (fun ls hl => ?_)
  refine lv_iconst (v := 0) hx hb dX4_blameOf_2 (by decide) ?_
  refine lv_istore_n (lv' := [(3, .int 0), (2, .int 0), (0, .ref h0), (1, .int (nI k))]) hx hb dX4_blameOf_3 rfl hl (by decide) rfl (fun ls hl => ?_)
  have L4 : ∀ (kf : Nat) (i : Nat) (acc : Int32) (H : Heap) (locs : List Loc) (ls : Array Slot), un - i < kf → (i ≤ un) → (acc = blamF uf k i) → va_P G.1 vwCl [(h0, OB 4 [.ref sy, .ref mu, .ref mz, .ref ex, .int st]), (mu, OB 3 [.ref ma, .int (nI un)]), (ma, AI G 252 uf)] H → va_D A [(h0, OB 4 [.ref sy, .ref mu, .ref mz, .ref ex, .int st]), (mu, OB 3 [.ref ma, .int (nI un)]), (ma, AI G 252 uf)] → va_S A s.heap H locs → lv_has ls 6 [(0, .ref h0), (1, .int (nI k)), (2, .int acc), (3, .int (nI i))] → W p l e rmX4_blameOf s m ([.ref h0, .int (nI k)] : List Value).toArray below meth c H locs 0 0 Q (F0 m 4 ls []) := by
    intro kf
    induction kf with
    | zero => intro i acc H locs ls h; exact absurd h (Nat.not_lt_zero _)
    | succ kf ih =>
      intro i acc H locs ls hk hi ha hP hD hS hl
      refine lv_iload_n hx hb dX4_blameOf_4 rfl (lv_at hl 3 rfl) ?_
      refine lv_aload_n hx hb dX4_blameOf_5 rfl (lv_at hl 0 rfl) ?_
      refine va_get (D := G.1) (ci := 4) (v := .ref mu) (C := RX4) (T := TX4) (N := 5) hx hb hts hi4 hown hK hP 0 rfl rfl 1 (by decide) (hts (.fieldLink RX4 21 "ConflictEnumerator$State" "muses" "LConflictEnumerator$SelectionList;") (List.mem_of_getElem? (i := 1) rfl)) (fun _ h9 => h9) rfl dX4_blameOf_6 ?_
      refine call_Vi (rest := [.int (nI i)]) (As := []) (wr := [(h0, OB 4 [.ref sy, .ref mu, .ref mz, .ref ex, .int st])]) (c1 := 0) (s1 := 0) ⟨hx, hb, hml, hown, hts⟩ (c_X3_size l G mu ma uf un ) (cwV 0 hts gX4_blameOf_X3_size rfl rfl rfl (by decide +kernel) ⟨Nat.le_of_ble_eq_true rfl, Nat.le_of_ble_eq_true rfl⟩) hK hN hSS hP hD hS hA 0 3 rfl rfl rfl [1, 2] [0] rfl rfl (by decide) (by decide) (by decide) rfl hl.1 rfl (Nat.le_of_ble_eq_true rfl) dX4_blameOf_9 ⟨Nat.le_of_ble_eq_true rfl, Nat.le_of_ble_eq_true rfl⟩ rfl rfl (fun r_9 u_9 H locs hpo hP hD hS => ?_)
      obtain ⟨hr9, rfl⟩ := hpo
      subst r_9
      have hP : va_P G.1 vwCl [(h0, OB 4 [.ref sy, .ref mu, .ref mz, .ref ex, .int st]), (mu, OB 3 [.ref ma, .int (nI un)]), (ma, AI G 252 uf)] H := hP
      have hD : va_D A [(h0, OB 4 [.ref sy, .ref mu, .ref mz, .ref ex, .int st]), (mu, OB 3 [.ref ma, .int (nI un)]), (ma, AI G 252 uf)] := hD
      refine lv_icmp_ge (tgt := 62) hx hb dX4_blameOf_12 (by decide) (fun c_12 => ?_) (fun c_12 => ?_)
      ·
        have c_12 : un ≤ i := (nI_leI (a := un) (b := i) (by omega) (by omega)).mp c_12
        refine lv_iload_n hx hb dX4_blameOf_62 rfl (lv_at hl 2 rfl) ?_
        exact ret acc _ _ _ _ _ _ _ (Nat.le_of_ble_eq_true rfl) (Nat.le_of_ble_eq_true rfl) (rfl) (⟨by rw [ha, show i = un by omega], rfl⟩) (hP.sub (ws' := [(h0, OB 4 [.ref sy, .ref mu, .ref mz, .ref ex, .int st]), (mu, OB 3 [.ref ma, .int (nI un)]), (ma, AI G 252 uf)]) [0, 1, 2] rfl) (hD.sub (ws' := [(h0, OB 4 [.ref sy, .ref mu, .ref mz, .ref ex, .int st]), (mu, OB 3 [.ref ma, .int (nI un)]), (ma, AI G 252 uf)]) [0, 1, 2] (by decide) rfl) hS dX4_blameOf_63
      ·
        have c_12 : i < un := by have h9 := mt (nI_leI (a := un) (b := i) (by omega) (by omega)).mpr c_12; omega
        refine lv_aload_n hx hb dX4_blameOf_15 rfl (lv_at hl 0 rfl) ?_
        refine va_get (D := G.1) (ci := 4) (v := .ref mu) (C := RX4) (T := TX4) (N := 5) hx hb hts hi4 hown hK hP 0 rfl rfl 1 (by decide) (hts (.fieldLink RX4 21 "ConflictEnumerator$State" "muses" "LConflictEnumerator$SelectionList;") (List.mem_of_getElem? (i := 1) rfl)) (fun _ h9 => h9) rfl dX4_blameOf_16 ?_
        refine lv_iload_n hx hb dX4_blameOf_19 rfl (lv_at hl 3 rfl) ?_
        refine call_Vi (rest := []) (As := [.int (nI i)]) (wr := [(h0, OB 4 [.ref sy, .ref mu, .ref mz, .ref ex, .int st])]) (c1 := 0) (s1 := 0) ⟨hx, hb, hml, hown, hts⟩ (c_X3_get l G mu ma uf un (nI i) (by first | assumption | omega)) (cwV 1 hts gX4_blameOf_X3_get rfl rfl rfl (by decide +kernel) ⟨Nat.le_of_ble_eq_true rfl, Nat.le_of_ble_eq_true rfl⟩) hK hN hSS hP hD hS hA 0 3 rfl rfl rfl [1, 2] [0] rfl rfl (by decide) (by decide) (by decide) rfl hl.1 rfl (Nat.le_of_ble_eq_true rfl) dX4_blameOf_20 ⟨Nat.le_of_ble_eq_true rfl, Nat.le_of_ble_eq_true rfl⟩ rfl rfl (fun r_20 u_20 H locs hpo hP hD hS => ?_)
        obtain ⟨hr9, rfl⟩ := hpo
        subst r_20
        have hP : va_P G.1 vwCl [(h0, OB 4 [.ref sy, .ref mu, .ref mz, .ref ex, .int st]), (mu, OB 3 [.ref ma, .int (nI un)]), (ma, AI G 252 uf)] H := hP
        have hD : va_D A [(h0, OB 4 [.ref sy, .ref mu, .ref mz, .ref ex, .int st]), (mu, OB 3 [.ref ma, .int (nI un)]), (ma, AI G 252 uf)] := hD
        rw [show getF uf un (nI i) = uf i from getF_nI (by omega) (by omega)]
        refine lv_istore (lv' := [(4, .int (uf i)), (0, .ref h0), (1, .int (nI k)), (2, .int acc), (3, .int (nI i))]) hx hb dX4_blameOf_23 hl (by decide) rfl (fun ls hl => ?_)
        refine lv_iload hx hb dX4_blameOf_25 (lv_at hl 0 rfl) ?_
        refine call_Si (rest := []) (As := [.int (uf i)]) (wr := [(h0, OB 4 [.ref sy, .ref mu, .ref mz, .ref ex, .int st]), (mu, OB 3 [.ref ma, .int (nI un)]), (ma, AI G 252 uf)]) (c1 := 0) (s1 := 0) ⟨hx, hb, hml, hown, hts⟩ (c_J6_bitCount_0f7a4 l G (uf i) ) (va_cwS 1 hts gX4_blameOf_J6_bitCount_0f7a4 rfl rfl rfl (by decide +kernel) ⟨Nat.le_of_ble_eq_true rfl, Nat.le_of_ble_eq_true rfl⟩) hK hN hSS hP hD hS hA [] [0, 1, 2] rfl rfl (by decide) (by decide) (by decide) rfl hl.1 rfl (Nat.le_of_ble_eq_true rfl) dX4_blameOf_27 ⟨Nat.le_of_ble_eq_true rfl, Nat.le_of_ble_eq_true rfl⟩ rfl rfl (fun r_27 u_27 H locs hpo hP hD hS => ?_)
        obtain ⟨hr9, rfl⟩ := hpo
        subst r_27
        have hP : va_P G.1 vwCl [(h0, OB 4 [.ref sy, .ref mu, .ref mz, .ref ex, .int st]), (mu, OB 3 [.ref ma, .int (nI un)]), (ma, AI G 252 uf)] H := hP
        have hD : va_D A [(h0, OB 4 [.ref sy, .ref mu, .ref mz, .ref ex, .int st]), (mu, OB 3 [.ref ma, .int (nI un)]), (ma, AI G 252 uf)] := hD
        refine lv_istore (lv' := [(5, .int (bcI (uf i))), (4, .int (uf i)), (0, .ref h0), (1, .int (nI k)), (2, .int acc), (3, .int (nI i))]) hx hb dX4_blameOf_30 hl (by decide) rfl (fun ls hl => ?_)
        refine lv_iload hx hb dX4_blameOf_32 (lv_at hl 0 rfl) ?_
        refine lv_if_le (tgt := 56) hx hb dX4_blameOf_34 (by decide) (fun c_34 => ?_) (fun c_34 => ?_)
        ·
          have c_34 : ¬ 0 < (bcI (uf i)) := Int32.not_lt.mpr c_34
          refine lv_iinc (v := nI (i + 1)) (lv' := [(3, .int (nI (i + 1))), (5, .int (bcI (uf i))), (4, .int (uf i)), (0, .ref h0), (1, .int (nI k)), (2, .int acc)]) hx hb dX4_blameOf_56 hl (k := 5) rfl (nI_inc (i) 1) (by decide) rfl (fun ls hl => ?_)
          refine lv_goto (tgt := 4) hx hb dX4_blameOf_59 (by decide) ?_
          exact ih (i + 1) acc _ _ _ (by omega) (by omega) (by simp [blamF, hasB, ha, c_12, c_34]) (hP.sub (ws' := [(h0, OB 4 [.ref sy, .ref mu, .ref mz, .ref ex, .int st]), (mu, OB 3 [.ref ma, .int (nI un)]), (ma, AI G 252 uf)]) [0, 1, 2] rfl) (hD.sub (ws' := [(h0, OB 4 [.ref sy, .ref mu, .ref mz, .ref ex, .int st]), (mu, OB 3 [.ref ma, .int (nI un)]), (ma, AI G 252 uf)]) [0, 1, 2] (by decide) rfl) hS (lv_sub (l' := [(0, .ref h0), (1, .int (nI k)), (2, .int acc), (3, .int (nI (i + 1)))]) hl [3, 4, 5, 0] rfl)
        ·
          have c_34 : 0 < (bcI (uf i)) := Int32.not_le.mp c_34
          refine lv_iload hx hb dX4_blameOf_37 (lv_at hl 1 rfl) ?_
          refine lv_iload_n hx hb dX4_blameOf_39 rfl (lv_at hl 3 rfl) ?_
          refine lv_ishr hx hb dX4_blameOf_40 ?_
          refine lv_iconst (v := 1) hx hb dX4_blameOf_41 (by decide) ?_
          refine lv_iand hx hb dX4_blameOf_42 ?_
          refine lv_iconst (v := 1) hx hb dX4_blameOf_43 (by decide) ?_
          refine lv_icmp_ne (tgt := 56) hx hb dX4_blameOf_44 (by decide) (fun c_44 => ?_) (fun c_44 => ?_)
          ·
            refine lv_iinc (v := nI (i + 1)) (lv' := [(3, .int (nI (i + 1))), (5, .int (bcI (uf i))), (4, .int (uf i)), (0, .ref h0), (1, .int (nI k)), (2, .int acc)]) hx hb dX4_blameOf_56 hl (k := 5) rfl (nI_inc (i) 1) (by decide) rfl (fun ls hl => ?_)
            refine lv_goto (tgt := 4) hx hb dX4_blameOf_59 (by decide) ?_
            exact ih (i + 1) acc _ _ _ (by omega) (by omega) (by simp [blamF, hasB, ha, c_12, c_34, c_44]) (hP.sub (ws' := [(h0, OB 4 [.ref sy, .ref mu, .ref mz, .ref ex, .int st]), (mu, OB 3 [.ref ma, .int (nI un)]), (ma, AI G 252 uf)]) [0, 1, 2] rfl) (hD.sub (ws' := [(h0, OB 4 [.ref sy, .ref mu, .ref mz, .ref ex, .int st]), (mu, OB 3 [.ref ma, .int (nI un)]), (ma, AI G 252 uf)]) [0, 1, 2] (by decide) rfl) hS (lv_sub (l' := [(0, .ref h0), (1, .int (nI k)), (2, .int acc), (3, .int (nI (i + 1)))]) hl [3, 4, 5, 0] rfl)
          ·
            refine lv_iload_n hx hb dX4_blameOf_47 rfl (lv_at hl 4 rfl) ?_
            refine lv_sipush (v := 1000) hx hb dX4_blameOf_48 (by decide) ?_
            refine lv_iload hx hb dX4_blameOf_51 (lv_at hl 0 rfl) ?_
            refine lv_idiv hx hb dX4_blameOf_53 (by intro h9; rw [h9] at c_34; exact absurd c_34 (by decide)) ?_
            refine lv_iadd hx hb dX4_blameOf_54 ?_
            refine lv_istore_n (lv' := [(2, .int (acc + (1000 / (bcI (uf i))))), (5, .int (bcI (uf i))), (4, .int (uf i)), (0, .ref h0), (1, .int (nI k)), (3, .int (nI i))]) hx hb dX4_blameOf_55 rfl hl (by decide) rfl (fun ls hl => ?_)
            refine lv_iinc (v := nI (i + 1)) (lv' := [(3, .int (nI (i + 1))), (2, .int (acc + (1000 / (bcI (uf i))))), (5, .int (bcI (uf i))), (4, .int (uf i)), (0, .ref h0), (1, .int (nI k))]) hx hb dX4_blameOf_56 hl (k := 5) rfl (nI_inc (i) 1) (by decide) rfl (fun ls hl => ?_)
            refine lv_goto (tgt := 4) hx hb dX4_blameOf_59 (by decide) ?_
            exact ih (i + 1) (acc + (1000 / (bcI (uf i)))) _ _ _ (by omega) (by omega) (by simp [blamF, hasB, ha, c_12, c_34, c_44]) (hP.sub (ws' := [(h0, OB 4 [.ref sy, .ref mu, .ref mz, .ref ex, .int st]), (mu, OB 3 [.ref ma, .int (nI un)]), (ma, AI G 252 uf)]) [0, 1, 2] rfl) (hD.sub (ws' := [(h0, OB 4 [.ref sy, .ref mu, .ref mz, .ref ex, .int st]), (mu, OB 3 [.ref ma, .int (nI un)]), (ma, AI G 252 uf)]) [0, 1, 2] (by decide) rfl) hS (lv_sub (l' := [(0, .ref h0), (1, .int (nI k)), (2, .int (acc + (1000 / (bcI (uf i))))), (3, .int (nI (i + 1)))]) hl [4, 5, 1, 0] rfl)
  exact L4 ((un - 0) + 1) 0 0 _ _ _ (Nat.lt_succ_self _) (Nat.zero_le _) (rfl) (hP.sub (ws' := [(h0, OB 4 [.ref sy, .ref mu, .ref mz, .ref ex, .int st]), (mu, OB 3 [.ref ma, .int (nI un)]), (ma, AI G 252 uf)]) [0, 1, 2] rfl) (hD.sub (ws' := [(h0, OB 4 [.ref sy, .ref mu, .ref mz, .ref ex, .int st]), (mu, OB 3 [.ref ma, .int (nI un)]), (ma, AI G 252 uf)]) [0, 1, 2] (by decide) rfl) hS (lv_sub (l' := [(0, .ref h0), (1, .int (nI k)), (2, .int 0), (3, .int (nI 0))]) hl [2, 3, 1, 0] rfl)
abbrev rmX4_leastHittingSet : Room := { frames := 2, cells := 0, slots := 0, locals := 43 }
set_option maxHeartbeats 4000000 in
set_option maxRecDepth 100000 in
theorem c_X4_leastHittingSet (l : Launch) (G : GT) (h0 sy sm sw mu ma mz ex : Nat) (md : Nat → Int64) (wt : Nat → Int32) (n : Nat) (uf : Nat → Int32) (un : Nat) (st : Int32) (bw : Bool) (hn : n ≤ 10) (hu : un ≤ 252) : Ci l yX4_leastHittingSet wsX4_leastHittingSet rmX4_leastHittingSet G [.ref h0, .int (bI bw)] [(h0, OB 4 [.ref sy, .ref mu, .ref mz, .ref ex, .int st]), (sy, OB 0 [.ref sm, .ref sw, .int (nI n)]), (sm, AJ G 10 md), (sw, AI G 10 wt), (mu, OB 3 [.ref ma, .int (nI un)]), (ma, AI G 252 uf)] (fun r u => r = (lhsF (fun z => if bw = true then totW wt (nI z) n else bcI (nI z)) (fun z => subB (nI z) (nI (softN wt n))) (fun z => allU (fun y => !(uf y &&& nI z == 0)) 0 un) (softN wt n + 1)).1 ∧ u = [(h0, OB 4 [.ref sy, .ref mu, .ref mz, .ref ex, .int st]), (sy, OB 0 [.ref sm, .ref sw, .int (nI n)]), (sm, AJ G 10 md), (sw, AI G 10 wt), (mu, OB 3 [.ref ma, .int (nI un)]), (ma, AI G 252 uf)]) := by
  refine Ci.of (cc := cX4_leastHittingSet) (maxL := 7) (ty := .int) (by decide) rfl (Nat.le_of_ble_eq_true rfl) ?_
  intro p e s m below meth c A ls Q hx hb hml hts hown hA hS hP hK hN hSS hD hl ret
  have hown : s.vm.findClass RX4 = some m.cls := hown
  have hl : lv_has ls 7 [(0, .ref h0), (1, .int (bI bw))] := hl
  have hi4 : ∀ w ∈ wsX40, w ∈ wsX4_leastHittingSet := mem_places [37, 38, 39, 40, 41] (by decide +kernel)
  have hsn := softN_1024 wt hn
  refine lv_aload_n hx hb dX4_leastHittingSet_0 rfl (lv_at hl 0 rfl) ?_
  refine va_get (D := G.1) (ci := 4) (v := .ref sy) (C := RX4) (T := TX4) (N := 5) hx hb hts hi4 hown hK hP 0 rfl rfl 0 (by decide) (hts (.fieldLink RX4 12 "ConflictEnumerator$State" "system" "LConflictEnumerator$Constraints;") (List.mem_of_getElem? (i := 1) rfl)) (fun _ h9 => h9) rfl dX4_leastHittingSet_1 ?_
  refine call_Vi (rest := []) (As := []) (wr := [(h0, OB 4 [.ref sy, .ref mu, .ref mz, .ref ex, .int st]), (mu, OB 3 [.ref ma, .int (nI un)]), (ma, AI G 252 uf)]) (c1 := 0) (s1 := 0) ⟨hx, hb, hml, hown, hts⟩ (c_X0_softMask l G sy sm sw md wt n (by first | assumption | omega)) (cwV 0 hts gX4_leastHittingSet_X0_softMask rfl rfl rfl (by decide +kernel) ⟨Nat.le_of_ble_eq_true rfl, Nat.le_of_ble_eq_true rfl⟩) hK hN hSS hP hD hS hA 0 0 rfl rfl rfl [1, 2, 3] [0, 4, 5] rfl rfl (by decide) (by decide) (by decide) rfl hl.1 rfl (Nat.le_of_ble_eq_true rfl) dX4_leastHittingSet_4 ⟨Nat.le_of_ble_eq_true rfl, Nat.le_of_ble_eq_true rfl⟩ rfl rfl (fun r_4 u_4 H locs hpo hP hD hS => ?_)
  obtain ⟨hr9, rfl⟩ := hpo
  subst r_4
  have hP : va_P G.1 vwCl [(h0, OB 4 [.ref sy, .ref mu, .ref mz, .ref ex, .int st]), (mu, OB 3 [.ref ma, .int (nI un)]), (ma, AI G 252 uf), (sy, OB 0 [.ref sm, .ref sw, .int (nI n)]), (sm, AJ G 10 md), (sw, AI G 10 wt)] H := hP
  have hD : va_D A [(h0, OB 4 [.ref sy, .ref mu, .ref mz, .ref ex, .int st]), (mu, OB 3 [.ref ma, .int (nI un)]), (ma, AI G 252 uf), (sy, OB 0 [.ref sm, .ref sw, .int (nI n)]), (sm, AJ G 10 md), (sw, AI G 10 wt)] := hD
  rw [show softM wt n = nI (softN wt n) from softM_nI wt n (by omega)]
  refine lv_istore_n (lv' := [(2, .int (nI (softN wt n))), (0, .ref h0), (1, .int (bI bw))]) hx hb dX4_leastHittingSet_7 rfl hl (by decide) rfl (fun ls hl => ?_)
  refine lv_bipush (v := (-9)) hx hb dX4_leastHittingSet_8 (by decide) ?_
  refine lv_istore_n (lv' := [(3, .int (-9)), (2, .int (nI (softN wt n))), (0, .ref h0), (1, .int (bI bw))]) hx hb dX4_leastHittingSet_10 rfl hl (by decide) rfl (fun ls hl => ?_)
  refine lv_iconst (v := 0) hx hb dX4_leastHittingSet_11 (by decide) ?_
  refine lv_istore (lv' := [(4, .int 0), (3, .int (-9)), (2, .int (nI (softN wt n))), (0, .ref h0), (1, .int (bI bw))]) hx hb dX4_leastHittingSet_12 hl (by decide) rfl (fun ls hl => ?_)
  refine lv_iconst (v := 0) hx hb dX4_leastHittingSet_14 (by decide) ?_
  refine lv_istore (lv' := [(5, .int 0), (4, .int 0), (3, .int (-9)), (2, .int (nI (softN wt n))), (0, .ref h0), (1, .int (bI bw))]) hx hb dX4_leastHittingSet_15 hl (by decide) rfl (fun ls hl => ?_)
  have L17 : ∀ (kf : Nat) (j : Nat) (best bc : Int32) (H : Heap) (locs : List Loc) (ls : Array Slot), softN wt n + 1 - j < kf → (j ≤ softN wt n + 1) → (best = (lhsF (fun z => if bw = true then totW wt (nI z) n else bcI (nI z)) (fun z => subB (nI z) (nI (softN wt n))) (fun z => allU (fun y => !(uf y &&& nI z == 0)) 0 un) j).1) → (bc = (lhsF (fun z => if bw = true then totW wt (nI z) n else bcI (nI z)) (fun z => subB (nI z) (nI (softN wt n))) (fun z => allU (fun y => !(uf y &&& nI z == 0)) 0 un) j).2) → va_P G.1 vwCl [(h0, OB 4 [.ref sy, .ref mu, .ref mz, .ref ex, .int st]), (mu, OB 3 [.ref ma, .int (nI un)]), (ma, AI G 252 uf), (sy, OB 0 [.ref sm, .ref sw, .int (nI n)]), (sm, AJ G 10 md), (sw, AI G 10 wt)] H → va_D A [(h0, OB 4 [.ref sy, .ref mu, .ref mz, .ref ex, .int st]), (mu, OB 3 [.ref ma, .int (nI un)]), (ma, AI G 252 uf), (sy, OB 0 [.ref sm, .ref sw, .int (nI n)]), (sm, AJ G 10 md), (sw, AI G 10 wt)] → va_S A s.heap H locs → lv_has ls 7 [(0, .ref h0), (1, .int (bI bw)), (2, .int (nI (softN wt n))), (3, .int best), (4, .int bc), (5, .int (nI j))] → W p l e rmX4_leastHittingSet s m ([.ref h0, .int (bI bw)] : List Value).toArray below meth c H locs 0 0 Q (F0 m 17 ls []) := by
    intro kf
    induction kf with
    | zero => intro j best bc H locs ls h; exact absurd h (Nat.not_lt_zero _)
    | succ kf ih =>
      intro j best bc H locs ls hk hi ha hb9 hP hD hS hl
      refine lv_iload hx hb dX4_leastHittingSet_17 (lv_at hl 5 rfl) ?_
      refine lv_iload_n hx hb dX4_leastHittingSet_19 rfl (lv_at hl 2 rfl) ?_
      refine lv_icmp_gt (tgt := 90) hx hb dX4_leastHittingSet_20 (by decide) (fun c_20 => ?_) (fun c_20 => ?_)
      ·
        have c_20 : (softN wt n) < j := (nI_ltI (a := softN wt n) (b := j) (by omega) (by omega)).mp c_20
        refine lv_iload_n hx hb dX4_leastHittingSet_90 rfl (lv_at hl 3 rfl) ?_
        exact ret best _ _ _ _ _ _ _ (Nat.le_of_ble_eq_true rfl) (Nat.le_of_ble_eq_true rfl) (rfl) (⟨by rw [ha, show j = softN wt n + 1 by omega], rfl⟩) (hP.sub (ws' := [(h0, OB 4 [.ref sy, .ref mu, .ref mz, .ref ex, .int st]), (sy, OB 0 [.ref sm, .ref sw, .int (nI n)]), (sm, AJ G 10 md), (sw, AI G 10 wt), (mu, OB 3 [.ref ma, .int (nI un)]), (ma, AI G 252 uf)]) [0, 3, 4, 5, 1, 2] rfl) (hD.sub (ws' := [(h0, OB 4 [.ref sy, .ref mu, .ref mz, .ref ex, .int st]), (sy, OB 0 [.ref sm, .ref sw, .int (nI n)]), (sm, AJ G 10 md), (sw, AI G 10 wt), (mu, OB 3 [.ref ma, .int (nI un)]), (ma, AI G 252 uf)]) [0, 3, 4, 5, 1, 2] (by decide) rfl) hS dX4_leastHittingSet_91
      ·
        have c_20 : j ≤ (softN wt n) := by have h9 := mt (nI_ltI (a := softN wt n) (b := j) (by omega) (by omega)).mpr c_20; omega
        refine lv_iload hx hb dX4_leastHittingSet_23 (lv_at hl 5 rfl) ?_
        refine lv_iload_n hx hb dX4_leastHittingSet_25 rfl (lv_at hl 2 rfl) ?_
        refine lv_iconst (v := (-1)) hx hb dX4_leastHittingSet_26 (by decide) ?_
        refine wn_inot hx hb rfl dX4_leastHittingSet_27 ?_
        refine lv_iand hx hb dX4_leastHittingSet_28 ?_
        refine lv_if_ne (tgt := 84) hx hb dX4_leastHittingSet_29 (by decide) (fun c_29 => ?_) (fun c_29 => ?_)
        ·
          have c_29 : subB (nI (j)) (nI (softN wt n)) = false := by simpa [subB] using c_29
          refine lv_iinc (v := nI (j + 1)) (lv' := [(5, .int (nI (j + 1))), (0, .ref h0), (1, .int (bI bw)), (2, .int (nI (softN wt n))), (3, .int best), (4, .int bc)]) hx hb dX4_leastHittingSet_84 hl (k := 5) rfl (nI_inc (j) 1) (by decide) rfl (fun ls hl => ?_)
          refine lv_goto (tgt := 17) hx hb dX4_leastHittingSet_87 (by decide) ?_
          exact ih (j + 1) best bc _ _ _ (by omega) (by omega) (by simp only [lhsF, ← ha, ← hb9]; simp [c_20, c_29]) (by simp only [lhsF, ← ha, ← hb9]; simp [c_20, c_29]) (hP.sub (ws' := [(h0, OB 4 [.ref sy, .ref mu, .ref mz, .ref ex, .int st]), (mu, OB 3 [.ref ma, .int (nI un)]), (ma, AI G 252 uf), (sy, OB 0 [.ref sm, .ref sw, .int (nI n)]), (sm, AJ G 10 md), (sw, AI G 10 wt)]) [0, 1, 2, 3, 4, 5] rfl) (hD.sub (ws' := [(h0, OB 4 [.ref sy, .ref mu, .ref mz, .ref ex, .int st]), (mu, OB 3 [.ref ma, .int (nI un)]), (ma, AI G 252 uf), (sy, OB 0 [.ref sm, .ref sw, .int (nI n)]), (sm, AJ G 10 md), (sw, AI G 10 wt)]) [0, 1, 2, 3, 4, 5] (by decide) rfl) hS (lv_sub (l' := [(0, .ref h0), (1, .int (bI bw)), (2, .int (nI (softN wt n))), (3, .int best), (4, .int bc), (5, .int (nI (j + 1)))]) hl [1, 2, 3, 4, 5, 0] rfl)
        ·
          have c_29 : subB (nI (j)) (nI (softN wt n)) = true := by simpa [subB] using c_29
          refine lv_iload_n hx hb dX4_leastHittingSet_32 rfl (lv_at hl 1 rfl) ?_
          refine wb_eq (tgt := 48) hx hb dX4_leastHittingSet_33 (by decide) (fun c_33 => ?_) (fun c_33 => ?_)
          ·
            refine lv_iload hx hb dX4_leastHittingSet_48 (lv_at hl 5 rfl) ?_
            refine call_Si (rest := []) (As := [.int (nI j)]) (wr := [(h0, OB 4 [.ref sy, .ref mu, .ref mz, .ref ex, .int st]), (mu, OB 3 [.ref ma, .int (nI un)]), (ma, AI G 252 uf), (sy, OB 0 [.ref sm, .ref sw, .int (nI n)]), (sm, AJ G 10 md), (sw, AI G 10 wt)]) (c1 := 0) (s1 := 0) ⟨hx, hb, hml, hown, hts⟩ (c_J6_bitCount_0f7a4 l G (nI j) ) (va_cwS 1 hts gX4_leastHittingSet_J6_bitCount_0f7a4 rfl rfl rfl (by decide +kernel) ⟨Nat.le_of_ble_eq_true rfl, Nat.le_of_ble_eq_true rfl⟩) hK hN hSS hP hD hS hA [] [0, 1, 2, 3, 4, 5] rfl rfl (by decide) (by decide) (by decide) rfl hl.1 rfl (Nat.le_of_ble_eq_true rfl) dX4_leastHittingSet_50 ⟨Nat.le_of_ble_eq_true rfl, Nat.le_of_ble_eq_true rfl⟩ rfl rfl (fun r_50 u_50 H locs hpo hP hD hS => ?_)
            obtain ⟨hr9, rfl⟩ := hpo
            subst r_50
            have hP : va_P G.1 vwCl [(h0, OB 4 [.ref sy, .ref mu, .ref mz, .ref ex, .int st]), (mu, OB 3 [.ref ma, .int (nI un)]), (ma, AI G 252 uf), (sy, OB 0 [.ref sm, .ref sw, .int (nI n)]), (sm, AJ G 10 md), (sw, AI G 10 wt)] H := hP
            have hD : va_D A [(h0, OB 4 [.ref sy, .ref mu, .ref mz, .ref ex, .int st]), (mu, OB 3 [.ref ma, .int (nI un)]), (ma, AI G 252 uf), (sy, OB 0 [.ref sm, .ref sw, .int (nI n)]), (sm, AJ G 10 md), (sw, AI G 10 wt)] := hD
            refine lv_istore (lv' := [(6, .int (bcI (nI j))), (0, .ref h0), (1, .int (bI bw)), (2, .int (nI (softN wt n))), (3, .int best), (4, .int bc), (5, .int (nI j))]) hx hb dX4_leastHittingSet_53 hl (by decide) rfl (fun ls hl => ?_)
            refine lv_iload_n hx hb dX4_leastHittingSet_55 rfl (lv_at hl 4 rfl) ?_
            refine lv_bipush (v := (-9)) hx hb dX4_leastHittingSet_56 (by decide) ?_
            refine lv_icmp_eq (tgt := 68) hx hb dX4_leastHittingSet_58 (by decide) (fun c_58 => ?_) (fun c_58 => ?_)
            ·
              refine lv_aload_n hx hb dX4_leastHittingSet_68 rfl (lv_at hl 1 rfl) ?_
              refine lv_iload hx hb dX4_leastHittingSet_69 (lv_at hl 6 rfl) ?_
              refine call_Vi (rest := []) (As := [.int (nI j)]) (wr := [(sy, OB 0 [.ref sm, .ref sw, .int (nI n)]), (sm, AJ G 10 md), (sw, AI G 10 wt)]) (c1 := 0) (s1 := 0) ⟨hx, hb, hml, hown, hts⟩ (c_X4_hitsEveryMus l G h0 sy mu ma mz ex uf un st (nI j) (by first | assumption | omega)) (cwV 1 hts gX4_leastHittingSet_X4_hitsEveryMus rfl rfl rfl (by decide +kernel) ⟨Nat.le_of_ble_eq_true rfl, Nat.le_of_ble_eq_true rfl⟩) hK hN hSS hP hD hS hA 0 4 rfl rfl rfl [0, 1, 2] [3, 4, 5] rfl rfl (by decide) (by decide) (by decide) rfl hl.1 rfl (Nat.le_of_ble_eq_true rfl) dX4_leastHittingSet_71 ⟨Nat.le_of_ble_eq_true rfl, Nat.le_of_ble_eq_true rfl⟩ rfl rfl (fun r_71 u_71 H locs hpo hP hD hS => ?_)
              obtain ⟨hr9, rfl⟩ := hpo
              subst r_71
              have hP : va_P G.1 vwCl [(sy, OB 0 [.ref sm, .ref sw, .int (nI n)]), (sm, AJ G 10 md), (sw, AI G 10 wt), (h0, OB 4 [.ref sy, .ref mu, .ref mz, .ref ex, .int st]), (mu, OB 3 [.ref ma, .int (nI un)]), (ma, AI G 252 uf)] H := hP
              have hD : va_D A [(sy, OB 0 [.ref sm, .ref sw, .int (nI n)]), (sm, AJ G 10 md), (sw, AI G 10 wt), (h0, OB 4 [.ref sy, .ref mu, .ref mz, .ref ex, .int st]), (mu, OB 3 [.ref ma, .int (nI un)]), (ma, AI G 252 uf)] := hD
              refine wb_eq (tgt := 84) hx hb dX4_leastHittingSet_74 (by decide) (fun c_74 => ?_) (fun c_74 => ?_)
              ·
                refine lv_iinc (v := nI (j + 1)) (lv' := [(5, .int (nI (j + 1))), (6, .int (bcI (nI j))), (0, .ref h0), (1, .int (bI bw)), (2, .int (nI (softN wt n))), (3, .int best), (4, .int bc)]) hx hb dX4_leastHittingSet_84 hl (k := 6) rfl (nI_inc (j) 1) (by decide) rfl (fun ls hl => ?_)
                refine lv_goto (tgt := 17) hx hb dX4_leastHittingSet_87 (by decide) ?_
                exact ih (j + 1) best bc _ _ _ (by omega) (by omega) (by simp only [lhsF, ← ha, ← hb9]; simp [c_20, c_29, c_33, c_58, c_74]) (by simp only [lhsF, ← ha, ← hb9]; simp [c_20, c_29, c_33, c_58, c_74]) (hP.sub (ws' := [(h0, OB 4 [.ref sy, .ref mu, .ref mz, .ref ex, .int st]), (mu, OB 3 [.ref ma, .int (nI un)]), (ma, AI G 252 uf), (sy, OB 0 [.ref sm, .ref sw, .int (nI n)]), (sm, AJ G 10 md), (sw, AI G 10 wt)]) [3, 4, 5, 0, 1, 2] rfl) (hD.sub (ws' := [(h0, OB 4 [.ref sy, .ref mu, .ref mz, .ref ex, .int st]), (mu, OB 3 [.ref ma, .int (nI un)]), (ma, AI G 252 uf), (sy, OB 0 [.ref sm, .ref sw, .int (nI n)]), (sm, AJ G 10 md), (sw, AI G 10 wt)]) [3, 4, 5, 0, 1, 2] (by decide) rfl) hS (lv_sub (l' := [(0, .ref h0), (1, .int (bI bw)), (2, .int (nI (softN wt n))), (3, .int best), (4, .int bc), (5, .int (nI (j + 1)))]) hl [2, 3, 4, 5, 6, 0] rfl)
              ·
                refine lv_iload hx hb dX4_leastHittingSet_77 (lv_at hl 6 rfl) ?_
                refine lv_istore_n (lv' := [(3, .int (nI j)), (6, .int (bcI (nI j))), (0, .ref h0), (1, .int (bI bw)), (2, .int (nI (softN wt n))), (4, .int bc), (5, .int (nI j))]) hx hb dX4_leastHittingSet_79 rfl hl (by decide) rfl (fun ls hl => ?_)
                refine lv_iload hx hb dX4_leastHittingSet_80 (lv_at hl 1 rfl) ?_
                refine lv_istore (lv' := [(4, .int (bcI (nI j))), (3, .int (nI j)), (6, .int (bcI (nI j))), (0, .ref h0), (1, .int (bI bw)), (2, .int (nI (softN wt n))), (5, .int (nI j))]) hx hb dX4_leastHittingSet_82 hl (by decide) rfl (fun ls hl => ?_)
                refine lv_iinc (v := nI (j + 1)) (lv' := [(5, .int (nI (j + 1))), (4, .int (bcI (nI j))), (3, .int (nI j)), (6, .int (bcI (nI j))), (0, .ref h0), (1, .int (bI bw)), (2, .int (nI (softN wt n)))]) hx hb dX4_leastHittingSet_84 hl (k := 6) rfl (nI_inc (j) 1) (by decide) rfl (fun ls hl => ?_)
                refine lv_goto (tgt := 17) hx hb dX4_leastHittingSet_87 (by decide) ?_
                exact ih (j + 1) (nI j) (bcI (nI j)) _ _ _ (by omega) (by omega) (by simp only [lhsF, ← ha, ← hb9]; simp [c_20, c_29, c_33, c_58, c_74]) (by simp only [lhsF, ← ha, ← hb9]; simp [c_20, c_29, c_33, c_58, c_74]) (hP.sub (ws' := [(h0, OB 4 [.ref sy, .ref mu, .ref mz, .ref ex, .int st]), (mu, OB 3 [.ref ma, .int (nI un)]), (ma, AI G 252 uf), (sy, OB 0 [.ref sm, .ref sw, .int (nI n)]), (sm, AJ G 10 md), (sw, AI G 10 wt)]) [3, 4, 5, 0, 1, 2] rfl) (hD.sub (ws' := [(h0, OB 4 [.ref sy, .ref mu, .ref mz, .ref ex, .int st]), (mu, OB 3 [.ref ma, .int (nI un)]), (ma, AI G 252 uf), (sy, OB 0 [.ref sm, .ref sw, .int (nI n)]), (sm, AJ G 10 md), (sw, AI G 10 wt)]) [3, 4, 5, 0, 1, 2] (by decide) rfl) hS (lv_sub (l' := [(0, .ref h0), (1, .int (bI bw)), (2, .int (nI (softN wt n))), (3, .int (nI j)), (4, .int (bcI (nI j))), (5, .int (nI (j + 1)))]) hl [4, 5, 6, 2, 1, 0] rfl)
            ·
              refine lv_iload hx hb dX4_leastHittingSet_61 (lv_at hl 0 rfl) ?_
              refine lv_iload hx hb dX4_leastHittingSet_63 (lv_at hl 5 rfl) ?_
              refine lv_icmp_ge (tgt := 84) hx hb dX4_leastHittingSet_65 (by decide) (fun c_65 => ?_) (fun c_65 => ?_)
              ·
                have c_65 : ¬ (bcI (nI j)) < bc := Int32.not_lt.mpr c_65
                refine lv_iinc (v := nI (j + 1)) (lv' := [(5, .int (nI (j + 1))), (6, .int (bcI (nI j))), (0, .ref h0), (1, .int (bI bw)), (2, .int (nI (softN wt n))), (3, .int best), (4, .int bc)]) hx hb dX4_leastHittingSet_84 hl (k := 6) rfl (nI_inc (j) 1) (by decide) rfl (fun ls hl => ?_)
                refine lv_goto (tgt := 17) hx hb dX4_leastHittingSet_87 (by decide) ?_
                exact ih (j + 1) best bc _ _ _ (by omega) (by omega) (by simp only [lhsF, ← ha, ← hb9]; simp [c_20, c_29, c_33, c_58, c_65]) (by simp only [lhsF, ← ha, ← hb9]; simp [c_20, c_29, c_33, c_58, c_65]) (hP.sub (ws' := [(h0, OB 4 [.ref sy, .ref mu, .ref mz, .ref ex, .int st]), (mu, OB 3 [.ref ma, .int (nI un)]), (ma, AI G 252 uf), (sy, OB 0 [.ref sm, .ref sw, .int (nI n)]), (sm, AJ G 10 md), (sw, AI G 10 wt)]) [0, 1, 2, 3, 4, 5] rfl) (hD.sub (ws' := [(h0, OB 4 [.ref sy, .ref mu, .ref mz, .ref ex, .int st]), (mu, OB 3 [.ref ma, .int (nI un)]), (ma, AI G 252 uf), (sy, OB 0 [.ref sm, .ref sw, .int (nI n)]), (sm, AJ G 10 md), (sw, AI G 10 wt)]) [0, 1, 2, 3, 4, 5] (by decide) rfl) hS (lv_sub (l' := [(0, .ref h0), (1, .int (bI bw)), (2, .int (nI (softN wt n))), (3, .int best), (4, .int bc), (5, .int (nI (j + 1)))]) hl [2, 3, 4, 5, 6, 0] rfl)
              ·
                have c_65 : (bcI (nI j)) < bc := Int32.not_le.mp c_65
                refine lv_aload_n hx hb dX4_leastHittingSet_68 rfl (lv_at hl 1 rfl) ?_
                refine lv_iload hx hb dX4_leastHittingSet_69 (lv_at hl 6 rfl) ?_
                refine call_Vi (rest := []) (As := [.int (nI j)]) (wr := [(sy, OB 0 [.ref sm, .ref sw, .int (nI n)]), (sm, AJ G 10 md), (sw, AI G 10 wt)]) (c1 := 0) (s1 := 0) ⟨hx, hb, hml, hown, hts⟩ (c_X4_hitsEveryMus l G h0 sy mu ma mz ex uf un st (nI j) (by first | assumption | omega)) (cwV 1 hts gX4_leastHittingSet_X4_hitsEveryMus rfl rfl rfl (by decide +kernel) ⟨Nat.le_of_ble_eq_true rfl, Nat.le_of_ble_eq_true rfl⟩) hK hN hSS hP hD hS hA 0 4 rfl rfl rfl [0, 1, 2] [3, 4, 5] rfl rfl (by decide) (by decide) (by decide) rfl hl.1 rfl (Nat.le_of_ble_eq_true rfl) dX4_leastHittingSet_71 ⟨Nat.le_of_ble_eq_true rfl, Nat.le_of_ble_eq_true rfl⟩ rfl rfl (fun r_71 u_71 H locs hpo hP hD hS => ?_)
                obtain ⟨hr9, rfl⟩ := hpo
                subst r_71
                have hP : va_P G.1 vwCl [(sy, OB 0 [.ref sm, .ref sw, .int (nI n)]), (sm, AJ G 10 md), (sw, AI G 10 wt), (h0, OB 4 [.ref sy, .ref mu, .ref mz, .ref ex, .int st]), (mu, OB 3 [.ref ma, .int (nI un)]), (ma, AI G 252 uf)] H := hP
                have hD : va_D A [(sy, OB 0 [.ref sm, .ref sw, .int (nI n)]), (sm, AJ G 10 md), (sw, AI G 10 wt), (h0, OB 4 [.ref sy, .ref mu, .ref mz, .ref ex, .int st]), (mu, OB 3 [.ref ma, .int (nI un)]), (ma, AI G 252 uf)] := hD
                refine wb_eq (tgt := 84) hx hb dX4_leastHittingSet_74 (by decide) (fun c_74 => ?_) (fun c_74 => ?_)
                ·
                  refine lv_iinc (v := nI (j + 1)) (lv' := [(5, .int (nI (j + 1))), (6, .int (bcI (nI j))), (0, .ref h0), (1, .int (bI bw)), (2, .int (nI (softN wt n))), (3, .int best), (4, .int bc)]) hx hb dX4_leastHittingSet_84 hl (k := 6) rfl (nI_inc (j) 1) (by decide) rfl (fun ls hl => ?_)
                  refine lv_goto (tgt := 17) hx hb dX4_leastHittingSet_87 (by decide) ?_
                  exact ih (j + 1) best bc _ _ _ (by omega) (by omega) (by simp only [lhsF, ← ha, ← hb9]; simp [c_20, c_29, c_33, c_58, c_65, c_74]) (by simp only [lhsF, ← ha, ← hb9]; simp [c_20, c_29, c_33, c_58, c_65, c_74]) (hP.sub (ws' := [(h0, OB 4 [.ref sy, .ref mu, .ref mz, .ref ex, .int st]), (mu, OB 3 [.ref ma, .int (nI un)]), (ma, AI G 252 uf), (sy, OB 0 [.ref sm, .ref sw, .int (nI n)]), (sm, AJ G 10 md), (sw, AI G 10 wt)]) [3, 4, 5, 0, 1, 2] rfl) (hD.sub (ws' := [(h0, OB 4 [.ref sy, .ref mu, .ref mz, .ref ex, .int st]), (mu, OB 3 [.ref ma, .int (nI un)]), (ma, AI G 252 uf), (sy, OB 0 [.ref sm, .ref sw, .int (nI n)]), (sm, AJ G 10 md), (sw, AI G 10 wt)]) [3, 4, 5, 0, 1, 2] (by decide) rfl) hS (lv_sub (l' := [(0, .ref h0), (1, .int (bI bw)), (2, .int (nI (softN wt n))), (3, .int best), (4, .int bc), (5, .int (nI (j + 1)))]) hl [2, 3, 4, 5, 6, 0] rfl)
                ·
                  refine lv_iload hx hb dX4_leastHittingSet_77 (lv_at hl 6 rfl) ?_
                  refine lv_istore_n (lv' := [(3, .int (nI j)), (6, .int (bcI (nI j))), (0, .ref h0), (1, .int (bI bw)), (2, .int (nI (softN wt n))), (4, .int bc), (5, .int (nI j))]) hx hb dX4_leastHittingSet_79 rfl hl (by decide) rfl (fun ls hl => ?_)
                  refine lv_iload hx hb dX4_leastHittingSet_80 (lv_at hl 1 rfl) ?_
                  refine lv_istore (lv' := [(4, .int (bcI (nI j))), (3, .int (nI j)), (6, .int (bcI (nI j))), (0, .ref h0), (1, .int (bI bw)), (2, .int (nI (softN wt n))), (5, .int (nI j))]) hx hb dX4_leastHittingSet_82 hl (by decide) rfl (fun ls hl => ?_)
                  refine lv_iinc (v := nI (j + 1)) (lv' := [(5, .int (nI (j + 1))), (4, .int (bcI (nI j))), (3, .int (nI j)), (6, .int (bcI (nI j))), (0, .ref h0), (1, .int (bI bw)), (2, .int (nI (softN wt n)))]) hx hb dX4_leastHittingSet_84 hl (k := 6) rfl (nI_inc (j) 1) (by decide) rfl (fun ls hl => ?_)
                  refine lv_goto (tgt := 17) hx hb dX4_leastHittingSet_87 (by decide) ?_
                  exact ih (j + 1) (nI j) (bcI (nI j)) _ _ _ (by omega) (by omega) (by simp only [lhsF, ← ha, ← hb9]; simp [c_20, c_29, c_33, c_58, c_65, c_74]) (by simp only [lhsF, ← ha, ← hb9]; simp [c_20, c_29, c_33, c_58, c_65, c_74]) (hP.sub (ws' := [(h0, OB 4 [.ref sy, .ref mu, .ref mz, .ref ex, .int st]), (mu, OB 3 [.ref ma, .int (nI un)]), (ma, AI G 252 uf), (sy, OB 0 [.ref sm, .ref sw, .int (nI n)]), (sm, AJ G 10 md), (sw, AI G 10 wt)]) [3, 4, 5, 0, 1, 2] rfl) (hD.sub (ws' := [(h0, OB 4 [.ref sy, .ref mu, .ref mz, .ref ex, .int st]), (mu, OB 3 [.ref ma, .int (nI un)]), (ma, AI G 252 uf), (sy, OB 0 [.ref sm, .ref sw, .int (nI n)]), (sm, AJ G 10 md), (sw, AI G 10 wt)]) [3, 4, 5, 0, 1, 2] (by decide) rfl) hS (lv_sub (l' := [(0, .ref h0), (1, .int (bI bw)), (2, .int (nI (softN wt n))), (3, .int (nI j)), (4, .int (bcI (nI j))), (5, .int (nI (j + 1)))]) hl [4, 5, 6, 2, 1, 0] rfl)
          ·
            refine lv_aload_n hx hb dX4_leastHittingSet_36 rfl (lv_at hl 0 rfl) ?_
            refine va_get (D := G.1) (ci := 4) (v := .ref sy) (C := RX4) (T := TX4) (N := 5) hx hb hts hi4 hown hK hP 0 rfl rfl 0 (by decide) (hts (.fieldLink RX4 12 "ConflictEnumerator$State" "system" "LConflictEnumerator$Constraints;") (List.mem_of_getElem? (i := 1) rfl)) (fun _ h9 => h9) rfl dX4_leastHittingSet_37 ?_
            refine lv_iload hx hb dX4_leastHittingSet_40 (lv_at hl 5 rfl) ?_
            refine call_Vi (rest := []) (As := [.int (nI j)]) (wr := [(h0, OB 4 [.ref sy, .ref mu, .ref mz, .ref ex, .int st]), (mu, OB 3 [.ref ma, .int (nI un)]), (ma, AI G 252 uf)]) (c1 := 0) (s1 := 0) ⟨hx, hb, hml, hown, hts⟩ (c_X0_totalWeight l G sy sm sw md wt n (nI j) (by first | assumption | omega)) (cwV 1 hts gX4_leastHittingSet_X0_totalWeight rfl rfl rfl (by decide +kernel) ⟨Nat.le_of_ble_eq_true rfl, Nat.le_of_ble_eq_true rfl⟩) hK hN hSS hP hD hS hA 0 0 rfl rfl rfl [3, 4, 5] [0, 1, 2] rfl rfl (by decide) (by decide) (by decide) rfl hl.1 rfl (Nat.le_of_ble_eq_true rfl) dX4_leastHittingSet_42 ⟨Nat.le_of_ble_eq_true rfl, Nat.le_of_ble_eq_true rfl⟩ rfl rfl (fun r_42 u_42 H locs hpo hP hD hS => ?_)
            obtain ⟨hr9, rfl⟩ := hpo
            subst r_42
            have hP : va_P G.1 vwCl [(h0, OB 4 [.ref sy, .ref mu, .ref mz, .ref ex, .int st]), (mu, OB 3 [.ref ma, .int (nI un)]), (ma, AI G 252 uf), (sy, OB 0 [.ref sm, .ref sw, .int (nI n)]), (sm, AJ G 10 md), (sw, AI G 10 wt)] H := hP
            have hD : va_D A [(h0, OB 4 [.ref sy, .ref mu, .ref mz, .ref ex, .int st]), (mu, OB 3 [.ref ma, .int (nI un)]), (ma, AI G 252 uf), (sy, OB 0 [.ref sm, .ref sw, .int (nI n)]), (sm, AJ G 10 md), (sw, AI G 10 wt)] := hD
            refine lv_goto (tgt := 53) hx hb dX4_leastHittingSet_45 (by decide) ?_
            refine lv_istore (lv' := [(6, .int (totW wt (nI j) n)), (0, .ref h0), (1, .int (bI bw)), (2, .int (nI (softN wt n))), (3, .int best), (4, .int bc), (5, .int (nI j))]) hx hb dX4_leastHittingSet_53 hl (by decide) rfl (fun ls hl => ?_)
            refine lv_iload_n hx hb dX4_leastHittingSet_55 rfl (lv_at hl 4 rfl) ?_
            refine lv_bipush (v := (-9)) hx hb dX4_leastHittingSet_56 (by decide) ?_
            refine lv_icmp_eq (tgt := 68) hx hb dX4_leastHittingSet_58 (by decide) (fun c_58 => ?_) (fun c_58 => ?_)
            ·
              refine lv_aload_n hx hb dX4_leastHittingSet_68 rfl (lv_at hl 1 rfl) ?_
              refine lv_iload hx hb dX4_leastHittingSet_69 (lv_at hl 6 rfl) ?_
              refine call_Vi (rest := []) (As := [.int (nI j)]) (wr := [(sy, OB 0 [.ref sm, .ref sw, .int (nI n)]), (sm, AJ G 10 md), (sw, AI G 10 wt)]) (c1 := 0) (s1 := 0) ⟨hx, hb, hml, hown, hts⟩ (c_X4_hitsEveryMus l G h0 sy mu ma mz ex uf un st (nI j) (by first | assumption | omega)) (cwV 1 hts gX4_leastHittingSet_X4_hitsEveryMus rfl rfl rfl (by decide +kernel) ⟨Nat.le_of_ble_eq_true rfl, Nat.le_of_ble_eq_true rfl⟩) hK hN hSS hP hD hS hA 0 4 rfl rfl rfl [0, 1, 2] [3, 4, 5] rfl rfl (by decide) (by decide) (by decide) rfl hl.1 rfl (Nat.le_of_ble_eq_true rfl) dX4_leastHittingSet_71 ⟨Nat.le_of_ble_eq_true rfl, Nat.le_of_ble_eq_true rfl⟩ rfl rfl (fun r_71 u_71 H locs hpo hP hD hS => ?_)
              obtain ⟨hr9, rfl⟩ := hpo
              subst r_71
              have hP : va_P G.1 vwCl [(sy, OB 0 [.ref sm, .ref sw, .int (nI n)]), (sm, AJ G 10 md), (sw, AI G 10 wt), (h0, OB 4 [.ref sy, .ref mu, .ref mz, .ref ex, .int st]), (mu, OB 3 [.ref ma, .int (nI un)]), (ma, AI G 252 uf)] H := hP
              have hD : va_D A [(sy, OB 0 [.ref sm, .ref sw, .int (nI n)]), (sm, AJ G 10 md), (sw, AI G 10 wt), (h0, OB 4 [.ref sy, .ref mu, .ref mz, .ref ex, .int st]), (mu, OB 3 [.ref ma, .int (nI un)]), (ma, AI G 252 uf)] := hD
              refine wb_eq (tgt := 84) hx hb dX4_leastHittingSet_74 (by decide) (fun c_74 => ?_) (fun c_74 => ?_)
              ·
                refine lv_iinc (v := nI (j + 1)) (lv' := [(5, .int (nI (j + 1))), (6, .int (totW wt (nI j) n)), (0, .ref h0), (1, .int (bI bw)), (2, .int (nI (softN wt n))), (3, .int best), (4, .int bc)]) hx hb dX4_leastHittingSet_84 hl (k := 6) rfl (nI_inc (j) 1) (by decide) rfl (fun ls hl => ?_)
                refine lv_goto (tgt := 17) hx hb dX4_leastHittingSet_87 (by decide) ?_
                exact ih (j + 1) best bc _ _ _ (by omega) (by omega) (by simp only [lhsF, ← ha, ← hb9]; simp [c_20, c_29, c_33, c_58, c_74]) (by simp only [lhsF, ← ha, ← hb9]; simp [c_20, c_29, c_33, c_58, c_74]) (hP.sub (ws' := [(h0, OB 4 [.ref sy, .ref mu, .ref mz, .ref ex, .int st]), (mu, OB 3 [.ref ma, .int (nI un)]), (ma, AI G 252 uf), (sy, OB 0 [.ref sm, .ref sw, .int (nI n)]), (sm, AJ G 10 md), (sw, AI G 10 wt)]) [3, 4, 5, 0, 1, 2] rfl) (hD.sub (ws' := [(h0, OB 4 [.ref sy, .ref mu, .ref mz, .ref ex, .int st]), (mu, OB 3 [.ref ma, .int (nI un)]), (ma, AI G 252 uf), (sy, OB 0 [.ref sm, .ref sw, .int (nI n)]), (sm, AJ G 10 md), (sw, AI G 10 wt)]) [3, 4, 5, 0, 1, 2] (by decide) rfl) hS (lv_sub (l' := [(0, .ref h0), (1, .int (bI bw)), (2, .int (nI (softN wt n))), (3, .int best), (4, .int bc), (5, .int (nI (j + 1)))]) hl [2, 3, 4, 5, 6, 0] rfl)
              ·
                refine lv_iload hx hb dX4_leastHittingSet_77 (lv_at hl 6 rfl) ?_
                refine lv_istore_n (lv' := [(3, .int (nI j)), (6, .int (totW wt (nI j) n)), (0, .ref h0), (1, .int (bI bw)), (2, .int (nI (softN wt n))), (4, .int bc), (5, .int (nI j))]) hx hb dX4_leastHittingSet_79 rfl hl (by decide) rfl (fun ls hl => ?_)
                refine lv_iload hx hb dX4_leastHittingSet_80 (lv_at hl 1 rfl) ?_
                refine lv_istore (lv' := [(4, .int (totW wt (nI j) n)), (3, .int (nI j)), (6, .int (totW wt (nI j) n)), (0, .ref h0), (1, .int (bI bw)), (2, .int (nI (softN wt n))), (5, .int (nI j))]) hx hb dX4_leastHittingSet_82 hl (by decide) rfl (fun ls hl => ?_)
                refine lv_iinc (v := nI (j + 1)) (lv' := [(5, .int (nI (j + 1))), (4, .int (totW wt (nI j) n)), (3, .int (nI j)), (6, .int (totW wt (nI j) n)), (0, .ref h0), (1, .int (bI bw)), (2, .int (nI (softN wt n)))]) hx hb dX4_leastHittingSet_84 hl (k := 6) rfl (nI_inc (j) 1) (by decide) rfl (fun ls hl => ?_)
                refine lv_goto (tgt := 17) hx hb dX4_leastHittingSet_87 (by decide) ?_
                exact ih (j + 1) (nI j) (totW wt (nI j) n) _ _ _ (by omega) (by omega) (by simp only [lhsF, ← ha, ← hb9]; simp [c_20, c_29, c_33, c_58, c_74]) (by simp only [lhsF, ← ha, ← hb9]; simp [c_20, c_29, c_33, c_58, c_74]) (hP.sub (ws' := [(h0, OB 4 [.ref sy, .ref mu, .ref mz, .ref ex, .int st]), (mu, OB 3 [.ref ma, .int (nI un)]), (ma, AI G 252 uf), (sy, OB 0 [.ref sm, .ref sw, .int (nI n)]), (sm, AJ G 10 md), (sw, AI G 10 wt)]) [3, 4, 5, 0, 1, 2] rfl) (hD.sub (ws' := [(h0, OB 4 [.ref sy, .ref mu, .ref mz, .ref ex, .int st]), (mu, OB 3 [.ref ma, .int (nI un)]), (ma, AI G 252 uf), (sy, OB 0 [.ref sm, .ref sw, .int (nI n)]), (sm, AJ G 10 md), (sw, AI G 10 wt)]) [3, 4, 5, 0, 1, 2] (by decide) rfl) hS (lv_sub (l' := [(0, .ref h0), (1, .int (bI bw)), (2, .int (nI (softN wt n))), (3, .int (nI j)), (4, .int (totW wt (nI j) n)), (5, .int (nI (j + 1)))]) hl [4, 5, 6, 2, 1, 0] rfl)
            ·
              refine lv_iload hx hb dX4_leastHittingSet_61 (lv_at hl 0 rfl) ?_
              refine lv_iload hx hb dX4_leastHittingSet_63 (lv_at hl 5 rfl) ?_
              refine lv_icmp_ge (tgt := 84) hx hb dX4_leastHittingSet_65 (by decide) (fun c_65 => ?_) (fun c_65 => ?_)
              ·
                have c_65 : ¬ (totW wt (nI j) n) < bc := Int32.not_lt.mpr c_65
                refine lv_iinc (v := nI (j + 1)) (lv' := [(5, .int (nI (j + 1))), (6, .int (totW wt (nI j) n)), (0, .ref h0), (1, .int (bI bw)), (2, .int (nI (softN wt n))), (3, .int best), (4, .int bc)]) hx hb dX4_leastHittingSet_84 hl (k := 6) rfl (nI_inc (j) 1) (by decide) rfl (fun ls hl => ?_)
                refine lv_goto (tgt := 17) hx hb dX4_leastHittingSet_87 (by decide) ?_
                exact ih (j + 1) best bc _ _ _ (by omega) (by omega) (by simp only [lhsF, ← ha, ← hb9]; simp [c_20, c_29, c_33, c_58, c_65]) (by simp only [lhsF, ← ha, ← hb9]; simp [c_20, c_29, c_33, c_58, c_65]) (hP.sub (ws' := [(h0, OB 4 [.ref sy, .ref mu, .ref mz, .ref ex, .int st]), (mu, OB 3 [.ref ma, .int (nI un)]), (ma, AI G 252 uf), (sy, OB 0 [.ref sm, .ref sw, .int (nI n)]), (sm, AJ G 10 md), (sw, AI G 10 wt)]) [0, 1, 2, 3, 4, 5] rfl) (hD.sub (ws' := [(h0, OB 4 [.ref sy, .ref mu, .ref mz, .ref ex, .int st]), (mu, OB 3 [.ref ma, .int (nI un)]), (ma, AI G 252 uf), (sy, OB 0 [.ref sm, .ref sw, .int (nI n)]), (sm, AJ G 10 md), (sw, AI G 10 wt)]) [0, 1, 2, 3, 4, 5] (by decide) rfl) hS (lv_sub (l' := [(0, .ref h0), (1, .int (bI bw)), (2, .int (nI (softN wt n))), (3, .int best), (4, .int bc), (5, .int (nI (j + 1)))]) hl [2, 3, 4, 5, 6, 0] rfl)
              ·
                have c_65 : (totW wt (nI j) n) < bc := Int32.not_le.mp c_65
                refine lv_aload_n hx hb dX4_leastHittingSet_68 rfl (lv_at hl 1 rfl) ?_
                refine lv_iload hx hb dX4_leastHittingSet_69 (lv_at hl 6 rfl) ?_
                refine call_Vi (rest := []) (As := [.int (nI j)]) (wr := [(sy, OB 0 [.ref sm, .ref sw, .int (nI n)]), (sm, AJ G 10 md), (sw, AI G 10 wt)]) (c1 := 0) (s1 := 0) ⟨hx, hb, hml, hown, hts⟩ (c_X4_hitsEveryMus l G h0 sy mu ma mz ex uf un st (nI j) (by first | assumption | omega)) (cwV 1 hts gX4_leastHittingSet_X4_hitsEveryMus rfl rfl rfl (by decide +kernel) ⟨Nat.le_of_ble_eq_true rfl, Nat.le_of_ble_eq_true rfl⟩) hK hN hSS hP hD hS hA 0 4 rfl rfl rfl [0, 1, 2] [3, 4, 5] rfl rfl (by decide) (by decide) (by decide) rfl hl.1 rfl (Nat.le_of_ble_eq_true rfl) dX4_leastHittingSet_71 ⟨Nat.le_of_ble_eq_true rfl, Nat.le_of_ble_eq_true rfl⟩ rfl rfl (fun r_71 u_71 H locs hpo hP hD hS => ?_)
                obtain ⟨hr9, rfl⟩ := hpo
                subst r_71
                have hP : va_P G.1 vwCl [(sy, OB 0 [.ref sm, .ref sw, .int (nI n)]), (sm, AJ G 10 md), (sw, AI G 10 wt), (h0, OB 4 [.ref sy, .ref mu, .ref mz, .ref ex, .int st]), (mu, OB 3 [.ref ma, .int (nI un)]), (ma, AI G 252 uf)] H := hP
                have hD : va_D A [(sy, OB 0 [.ref sm, .ref sw, .int (nI n)]), (sm, AJ G 10 md), (sw, AI G 10 wt), (h0, OB 4 [.ref sy, .ref mu, .ref mz, .ref ex, .int st]), (mu, OB 3 [.ref ma, .int (nI un)]), (ma, AI G 252 uf)] := hD
                refine wb_eq (tgt := 84) hx hb dX4_leastHittingSet_74 (by decide) (fun c_74 => ?_) (fun c_74 => ?_)
                ·
                  refine lv_iinc (v := nI (j + 1)) (lv' := [(5, .int (nI (j + 1))), (6, .int (totW wt (nI j) n)), (0, .ref h0), (1, .int (bI bw)), (2, .int (nI (softN wt n))), (3, .int best), (4, .int bc)]) hx hb dX4_leastHittingSet_84 hl (k := 6) rfl (nI_inc (j) 1) (by decide) rfl (fun ls hl => ?_)
                  refine lv_goto (tgt := 17) hx hb dX4_leastHittingSet_87 (by decide) ?_
                  exact ih (j + 1) best bc _ _ _ (by omega) (by omega) (by simp only [lhsF, ← ha, ← hb9]; simp [c_20, c_29, c_33, c_58, c_65, c_74]) (by simp only [lhsF, ← ha, ← hb9]; simp [c_20, c_29, c_33, c_58, c_65, c_74]) (hP.sub (ws' := [(h0, OB 4 [.ref sy, .ref mu, .ref mz, .ref ex, .int st]), (mu, OB 3 [.ref ma, .int (nI un)]), (ma, AI G 252 uf), (sy, OB 0 [.ref sm, .ref sw, .int (nI n)]), (sm, AJ G 10 md), (sw, AI G 10 wt)]) [3, 4, 5, 0, 1, 2] rfl) (hD.sub (ws' := [(h0, OB 4 [.ref sy, .ref mu, .ref mz, .ref ex, .int st]), (mu, OB 3 [.ref ma, .int (nI un)]), (ma, AI G 252 uf), (sy, OB 0 [.ref sm, .ref sw, .int (nI n)]), (sm, AJ G 10 md), (sw, AI G 10 wt)]) [3, 4, 5, 0, 1, 2] (by decide) rfl) hS (lv_sub (l' := [(0, .ref h0), (1, .int (bI bw)), (2, .int (nI (softN wt n))), (3, .int best), (4, .int bc), (5, .int (nI (j + 1)))]) hl [2, 3, 4, 5, 6, 0] rfl)
                ·
                  refine lv_iload hx hb dX4_leastHittingSet_77 (lv_at hl 6 rfl) ?_
                  refine lv_istore_n (lv' := [(3, .int (nI j)), (6, .int (totW wt (nI j) n)), (0, .ref h0), (1, .int (bI bw)), (2, .int (nI (softN wt n))), (4, .int bc), (5, .int (nI j))]) hx hb dX4_leastHittingSet_79 rfl hl (by decide) rfl (fun ls hl => ?_)
                  refine lv_iload hx hb dX4_leastHittingSet_80 (lv_at hl 1 rfl) ?_
                  refine lv_istore (lv' := [(4, .int (totW wt (nI j) n)), (3, .int (nI j)), (6, .int (totW wt (nI j) n)), (0, .ref h0), (1, .int (bI bw)), (2, .int (nI (softN wt n))), (5, .int (nI j))]) hx hb dX4_leastHittingSet_82 hl (by decide) rfl (fun ls hl => ?_)
                  refine lv_iinc (v := nI (j + 1)) (lv' := [(5, .int (nI (j + 1))), (4, .int (totW wt (nI j) n)), (3, .int (nI j)), (6, .int (totW wt (nI j) n)), (0, .ref h0), (1, .int (bI bw)), (2, .int (nI (softN wt n)))]) hx hb dX4_leastHittingSet_84 hl (k := 6) rfl (nI_inc (j) 1) (by decide) rfl (fun ls hl => ?_)
                  refine lv_goto (tgt := 17) hx hb dX4_leastHittingSet_87 (by decide) ?_
                  exact ih (j + 1) (nI j) (totW wt (nI j) n) _ _ _ (by omega) (by omega) (by simp only [lhsF, ← ha, ← hb9]; simp [c_20, c_29, c_33, c_58, c_65, c_74]) (by simp only [lhsF, ← ha, ← hb9]; simp [c_20, c_29, c_33, c_58, c_65, c_74]) (hP.sub (ws' := [(h0, OB 4 [.ref sy, .ref mu, .ref mz, .ref ex, .int st]), (mu, OB 3 [.ref ma, .int (nI un)]), (ma, AI G 252 uf), (sy, OB 0 [.ref sm, .ref sw, .int (nI n)]), (sm, AJ G 10 md), (sw, AI G 10 wt)]) [3, 4, 5, 0, 1, 2] rfl) (hD.sub (ws' := [(h0, OB 4 [.ref sy, .ref mu, .ref mz, .ref ex, .int st]), (mu, OB 3 [.ref ma, .int (nI un)]), (ma, AI G 252 uf), (sy, OB 0 [.ref sm, .ref sw, .int (nI n)]), (sm, AJ G 10 md), (sw, AI G 10 wt)]) [3, 4, 5, 0, 1, 2] (by decide) rfl) hS (lv_sub (l' := [(0, .ref h0), (1, .int (bI bw)), (2, .int (nI (softN wt n))), (3, .int (nI j)), (4, .int (totW wt (nI j) n)), (5, .int (nI (j + 1)))]) hl [4, 5, 6, 2, 1, 0] rfl)
  exact L17 ((softN wt n + 1 - 0) + 1) 0 (-9) 0 _ _ _ (Nat.lt_succ_self _) (Nat.zero_le _) (rfl) (rfl) (hP.sub (ws' := [(h0, OB 4 [.ref sy, .ref mu, .ref mz, .ref ex, .int st]), (mu, OB 3 [.ref ma, .int (nI un)]), (ma, AI G 252 uf), (sy, OB 0 [.ref sm, .ref sw, .int (nI n)]), (sm, AJ G 10 md), (sw, AI G 10 wt)]) [0, 1, 2, 3, 4, 5] rfl) (hD.sub (ws' := [(h0, OB 4 [.ref sy, .ref mu, .ref mz, .ref ex, .int st]), (mu, OB 3 [.ref ma, .int (nI un)]), (ma, AI G 252 uf), (sy, OB 0 [.ref sm, .ref sw, .int (nI n)]), (sm, AJ G 10 md), (sw, AI G 10 wt)]) [0, 1, 2, 3, 4, 5] (by decide) rfl) hS (lv_sub (l' := [(0, .ref h0), (1, .int (bI bw)), (2, .int (nI (softN wt n))), (3, .int (-9)), (4, .int 0), (5, .int (nI 0))]) hl [4, 5, 3, 2, 1, 0] rfl)
