abbrev rmX7_init : Room := { frames := 1, cells := 8, slots := 5818, locals := 12 }
set_option maxHeartbeats 4000000 in
set_option maxRecDepth 100000 in
theorem c_X7_init (l : Launch) (G : GT) (m0 : Nat)  : Cv l yX7_init wsX7_init rmX7_init G [.ref m0] [(m0, OB 7 [.int 0, .null, .null, .null, .int 0, .null, .null, .null, .int 0, .int 0, .int 0, .int 0, .int 0, .int 0, .null, .int 0, .null])] (fun u => ∃ (a1 a2 a3 a5 a6 a7 a14 a16 : Nat), u = [(m0, OB 7 [.int 0, .ref a1, .ref a2, .ref a3, .int (nI 0), .ref a5, .ref a6, .ref a7, .int (nI 0), .int (nI 0), .int (nI 0), .int 0, .int 0, .int 0, .ref a14, .int 0, .ref a16]), (a1, AI G 568 (fun _ => 0)), (a2, AI G 64 (fun _ => 0)), (a3, AI G 2840 (fun _ => 0)), (a5, AI G 1136 (fun _ => 0)), (a6, AZ G 2 (fun _ => 0)), (a7, AI G 120 (fun _ => 0)), (a14, AI G 64 (fun _ => 0)), (a16, AZ G 1024 (fun _ => 0))]) := by
  refine Cv.of (cc := cX7_init) (maxL := 1) (by decide) rfl (Nat.le_of_ble_eq_true rfl) ?_
  intro p e s m below meth c A ls Q hx hb hml hts hown hin hA hS hP hK hN hSS hD hl ret
  have hown : s.vm.findClass RX7 = some m.cls := hown
  have hl : lv_has ls 1 [(0, .ref m0)] := hl
  have hi7 : ∀ w ∈ wsX70, w ∈ wsX7_init := mem_places [14, 15, 16, 17, 18, 19, 20, 21, 22, 23, 24, 25, 26, 27, 28, 29, 30] (by decide +kernel)
  refine lv_aload_n hx hb dX7_init_0 rfl (lv_at hl 0 rfl) ?_
  refine W.objInit hx hb hown (hts (.methodLink RX7 1 objectInit) (List.mem_of_getElem? (i := 1) rfl)) (hts (.instanceMethod objectInit) (List.mem_of_getElem? (i := 2) rfl)) (hts _ (List.mem_of_getElem? (i := 3) rfl)) rfl (by rw [hml]; exact hl.1) rfl dX7_init_1 (Nat.le_of_ble_eq_true rfl) (Nat.le_of_ble_eq_true rfl) ?_
  refine W.eq (g2 := F0 m 4 ls []) rfl ?_
  refine lv_aload_n hx hb dX7_init_4 rfl (lv_at hl 0 rfl) ?_
  refine lv_sipush (v := 568) hx hb dX7_init_5 (by decide) ?_
  refine wa_newI hx hb (hts (.arrayClass .int) (List.mem_of_getElem? (i := 4) rfl)) hK hP hD hS hA (n := 568) 568 (by decide) rfl (by decide) (Nat.le_of_ble_eq_true rfl) (Nat.le_of_ble_eq_true rfl) dX7_init_8 (fun q8 H hP hD hS => ?_)
  have hP : va_P G.1 vwCl [(m0, OB 7 [.int 0, .null, .null, .null, .int 0, .null, .null, .null, .int 0, .int 0, .int 0, .int 0, .int 0, .int 0, .null, .int 0, .null]), (q8, AI G 568 (fun _ => 0))] H := hP
  have hD : va_D A [(m0, OB 7 [.int 0, .null, .null, .null, .int 0, .null, .null, .null, .int 0, .int 0, .int 0, .int 0, .int 0, .int 0, .null, .int 0, .null]), (q8, AI G 568 (fun _ => 0))] := hD
  refine W.widen (k := 1) (n := 568) (Nat.le_of_ble_eq_true rfl) (Nat.le_of_ble_eq_true rfl) ?_
  refine va_putF (D := G.1) (ci := 7) (v := .ref q8) (ty := .array (.int)) (C := RX7) (T := TX7) (N := 17) hx hb hts hi7 tyX7 tyX7_ok nmX7 hown hK hP hD hS 0 rfl rfl 1 (by decide) (hts (.fieldLink RX7 7 "ConflictEnumeratorModel" "s" "[I") (List.mem_of_getElem? (i := 5) rfl)) (fun _ h9 => h9) rfl hin rfl (by decide +kernel) rfl rfl (Nat.le_of_ble_eq_true rfl) dX7_init_10 (fun H locs hP hD hS => ?_)
  have hP : va_P G.1 vwCl [(m0, OB 7 [.int 0, .ref q8, .null, .null, .int 0, .null, .null, .null, .int 0, .int 0, .int 0, .int 0, .int 0, .int 0, .null, .int 0, .null]), (q8, AI G 568 (fun _ => 0))] H := hP
  have hD : va_D A [(m0, OB 7 [.int 0, .ref q8, .null, .null, .int 0, .null, .null, .null, .int 0, .int 0, .int 0, .int 0, .int 0, .int 0, .null, .int 0, .null]), (q8, AI G 568 (fun _ => 0))] := hD
  refine lv_aload_n hx hb dX7_init_13 rfl (lv_at hl 0 rfl) ?_
  refine lv_bipush (v := 64) hx hb dX7_init_14 (by decide) ?_
  refine wa_newI hx hb (hts (.arrayClass .int) (List.mem_of_getElem? (i := 4) rfl)) hK hP hD hS hA (n := 64) 64 (by decide) rfl (by decide) (Nat.le_of_ble_eq_true rfl) (Nat.le_of_ble_eq_true rfl) dX7_init_16 (fun q16 H hP hD hS => ?_)
  have hP : va_P G.1 vwCl [(m0, OB 7 [.int 0, .ref q8, .null, .null, .int 0, .null, .null, .null, .int 0, .int 0, .int 0, .int 0, .int 0, .int 0, .null, .int 0, .null]), (q8, AI G 568 (fun _ => 0)), (q16, AI G 64 (fun _ => 0))] H := hP
  have hD : va_D A [(m0, OB 7 [.int 0, .ref q8, .null, .null, .int 0, .null, .null, .null, .int 0, .int 0, .int 0, .int 0, .int 0, .int 0, .null, .int 0, .null]), (q8, AI G 568 (fun _ => 0)), (q16, AI G 64 (fun _ => 0))] := hD
  refine W.widen (k := 2) (n := 632) (Nat.le_of_ble_eq_true rfl) (Nat.le_of_ble_eq_true rfl) ?_
  refine va_putF (D := G.1) (ci := 7) (v := .ref q16) (ty := .array (.int)) (C := RX7) (T := TX7) (N := 17) hx hb hts hi7 tyX7 tyX7_ok nmX7 hown hK hP hD hS 0 rfl rfl 2 (by decide) (hts (.fieldLink RX7 13 "ConflictEnumeratorModel" "draft" "[I") (List.mem_of_getElem? (i := 6) rfl)) (fun _ h9 => h9) rfl hin rfl (by decide +kernel) rfl rfl (Nat.le_of_ble_eq_true rfl) dX7_init_18 (fun H locs hP hD hS => ?_)
  have hP : va_P G.1 vwCl [(m0, OB 7 [.int 0, .ref q8, .ref q16, .null, .int 0, .null, .null, .null, .int 0, .int 0, .int 0, .int 0, .int 0, .int 0, .null, .int 0, .null]), (q8, AI G 568 (fun _ => 0)), (q16, AI G 64 (fun _ => 0))] H := hP
  have hD : va_D A [(m0, OB 7 [.int 0, .ref q8, .ref q16, .null, .int 0, .null, .null, .null, .int 0, .int 0, .int 0, .int 0, .int 0, .int 0, .null, .int 0, .null]), (q8, AI G 568 (fun _ => 0)), (q16, AI G 64 (fun _ => 0))] := hD
  refine lv_aload_n hx hb dX7_init_21 rfl (lv_at hl 0 rfl) ?_
  refine lv_sipush (v := 2840) hx hb dX7_init_22 (by decide) ?_
  refine wa_newI hx hb (hts (.arrayClass .int) (List.mem_of_getElem? (i := 4) rfl)) hK hP hD hS hA (n := 2840) 2840 (by decide) rfl (by decide) (Nat.le_of_ble_eq_true rfl) (Nat.le_of_ble_eq_true rfl) dX7_init_25 (fun q25 H hP hD hS => ?_)
  have hP : va_P G.1 vwCl [(m0, OB 7 [.int 0, .ref q8, .ref q16, .null, .int 0, .null, .null, .null, .int 0, .int 0, .int 0, .int 0, .int 0, .int 0, .null, .int 0, .null]), (q8, AI G 568 (fun _ => 0)), (q16, AI G 64 (fun _ => 0)), (q25, AI G 2840 (fun _ => 0))] H := hP
  have hD : va_D A [(m0, OB 7 [.int 0, .ref q8, .ref q16, .null, .int 0, .null, .null, .null, .int 0, .int 0, .int 0, .int 0, .int 0, .int 0, .null, .int 0, .null]), (q8, AI G 568 (fun _ => 0)), (q16, AI G 64 (fun _ => 0)), (q25, AI G 2840 (fun _ => 0))] := hD
  refine W.widen (k := 3) (n := 3472) (Nat.le_of_ble_eq_true rfl) (Nat.le_of_ble_eq_true rfl) ?_
  refine va_putF (D := G.1) (ci := 7) (v := .ref q25) (ty := .array (.int)) (C := RX7) (T := TX7) (N := 17) hx hb hts hi7 tyX7 tyX7_ok nmX7 hown hK hP hD hS 0 rfl rfl 3 (by decide) (hts (.fieldLink RX7 16 "ConflictEnumeratorModel" "history" "[I") (List.mem_of_getElem? (i := 7) rfl)) (fun _ h9 => h9) rfl hin rfl (by decide +kernel) rfl rfl (Nat.le_of_ble_eq_true rfl) dX7_init_27 (fun H locs hP hD hS => ?_)
  have hP : va_P G.1 vwCl [(m0, OB 7 [.int 0, .ref q8, .ref q16, .ref q25, .int 0, .null, .null, .null, .int 0, .int 0, .int 0, .int 0, .int 0, .int 0, .null, .int 0, .null]), (q8, AI G 568 (fun _ => 0)), (q16, AI G 64 (fun _ => 0)), (q25, AI G 2840 (fun _ => 0))] H := hP
  have hD : va_D A [(m0, OB 7 [.int 0, .ref q8, .ref q16, .ref q25, .int 0, .null, .null, .null, .int 0, .int 0, .int 0, .int 0, .int 0, .int 0, .null, .int 0, .null]), (q8, AI G 568 (fun _ => 0)), (q16, AI G 64 (fun _ => 0)), (q25, AI G 2840 (fun _ => 0))] := hD
  refine lv_aload_n hx hb dX7_init_30 rfl (lv_at hl 0 rfl) ?_
  refine lv_sipush (v := 1136) hx hb dX7_init_31 (by decide) ?_
  refine wa_newI hx hb (hts (.arrayClass .int) (List.mem_of_getElem? (i := 4) rfl)) hK hP hD hS hA (n := 1136) 1136 (by decide) rfl (by decide) (Nat.le_of_ble_eq_true rfl) (Nat.le_of_ble_eq_true rfl) dX7_init_34 (fun q34 H hP hD hS => ?_)
  have hP : va_P G.1 vwCl [(m0, OB 7 [.int 0, .ref q8, .ref q16, .ref q25, .int 0, .null, .null, .null, .int 0, .int 0, .int 0, .int 0, .int 0, .int 0, .null, .int 0, .null]), (q8, AI G 568 (fun _ => 0)), (q16, AI G 64 (fun _ => 0)), (q25, AI G 2840 (fun _ => 0)), (q34, AI G 1136 (fun _ => 0))] H := hP
  have hD : va_D A [(m0, OB 7 [.int 0, .ref q8, .ref q16, .ref q25, .int 0, .null, .null, .null, .int 0, .int 0, .int 0, .int 0, .int 0, .int 0, .null, .int 0, .null]), (q8, AI G 568 (fun _ => 0)), (q16, AI G 64 (fun _ => 0)), (q25, AI G 2840 (fun _ => 0)), (q34, AI G 1136 (fun _ => 0))] := hD
  refine W.widen (k := 4) (n := 4608) (Nat.le_of_ble_eq_true rfl) (Nat.le_of_ble_eq_true rfl) ?_
  refine va_putF (D := G.1) (ci := 7) (v := .ref q34) (ty := .array (.int)) (C := RX7) (T := TX7) (N := 17) hx hb hts hi7 tyX7 tyX7_ok nmX7 hown hK hP hD hS 0 rfl rfl 5 (by decide) (hts (.fieldLink RX7 19 "ConflictEnumeratorModel" "slots" "[I") (List.mem_of_getElem? (i := 8) rfl)) (fun _ h9 => h9) rfl hin rfl (by decide +kernel) rfl rfl (Nat.le_of_ble_eq_true rfl) dX7_init_36 (fun H locs hP hD hS => ?_)
  have hP : va_P G.1 vwCl [(m0, OB 7 [.int 0, .ref q8, .ref q16, .ref q25, .int 0, .ref q34, .null, .null, .int 0, .int 0, .int 0, .int 0, .int 0, .int 0, .null, .int 0, .null]), (q8, AI G 568 (fun _ => 0)), (q16, AI G 64 (fun _ => 0)), (q25, AI G 2840 (fun _ => 0)), (q34, AI G 1136 (fun _ => 0))] H := hP
  have hD : va_D A [(m0, OB 7 [.int 0, .ref q8, .ref q16, .ref q25, .int 0, .ref q34, .null, .null, .int 0, .int 0, .int 0, .int 0, .int 0, .int 0, .null, .int 0, .null]), (q8, AI G 568 (fun _ => 0)), (q16, AI G 64 (fun _ => 0)), (q25, AI G 2840 (fun _ => 0)), (q34, AI G 1136 (fun _ => 0))] := hD
  refine lv_aload_n hx hb dX7_init_39 rfl (lv_at hl 0 rfl) ?_
  refine lv_iconst (v := 2) hx hb dX7_init_40 (by decide) ?_
  refine wa_newZ hx hb (hts (.arrayClass .boolean) (List.mem_of_getElem? (i := 9) rfl)) hK hP hD hS hA (n := 2) 2 (by decide) rfl (by decide) (Nat.le_of_ble_eq_true rfl) (Nat.le_of_ble_eq_true rfl) dX7_init_41 (fun q41 H hP hD hS => ?_)
  have hP : va_P G.1 vwCl [(m0, OB 7 [.int 0, .ref q8, .ref q16, .ref q25, .int 0, .ref q34, .null, .null, .int 0, .int 0, .int 0, .int 0, .int 0, .int 0, .null, .int 0, .null]), (q8, AI G 568 (fun _ => 0)), (q16, AI G 64 (fun _ => 0)), (q25, AI G 2840 (fun _ => 0)), (q34, AI G 1136 (fun _ => 0)), (q41, AZ G 2 (fun _ => 0))] H := hP
  have hD : va_D A [(m0, OB 7 [.int 0, .ref q8, .ref q16, .ref q25, .int 0, .ref q34, .null, .null, .int 0, .int 0, .int 0, .int 0, .int 0, .int 0, .null, .int 0, .null]), (q8, AI G 568 (fun _ => 0)), (q16, AI G 64 (fun _ => 0)), (q25, AI G 2840 (fun _ => 0)), (q34, AI G 1136 (fun _ => 0)), (q41, AZ G 2 (fun _ => 0))] := hD
  refine W.widen (k := 5) (n := 4610) (Nat.le_of_ble_eq_true rfl) (Nat.le_of_ble_eq_true rfl) ?_
  refine va_putF (D := G.1) (ci := 7) (v := .ref q41) (ty := .array (.boolean)) (C := RX7) (T := TX7) (N := 17) hx hb hts hi7 tyX7 tyX7_ok nmX7 hown hK hP hD hS 0 rfl rfl 6 (by decide) (hts (.fieldLink RX7 22 "ConflictEnumeratorModel" "isFilled" "[Z") (List.mem_of_getElem? (i := 10) rfl)) (fun _ h9 => h9) rfl hin rfl (by decide +kernel) rfl rfl (Nat.le_of_ble_eq_true rfl) dX7_init_43 (fun H locs hP hD hS => ?_)
  have hP : va_P G.1 vwCl [(m0, OB 7 [.int 0, .ref q8, .ref q16, .ref q25, .int 0, .ref q34, .ref q41, .null, .int 0, .int 0, .int 0, .int 0, .int 0, .int 0, .null, .int 0, .null]), (q8, AI G 568 (fun _ => 0)), (q16, AI G 64 (fun _ => 0)), (q25, AI G 2840 (fun _ => 0)), (q34, AI G 1136 (fun _ => 0)), (q41, AZ G 2 (fun _ => 0))] H := hP
  have hD : va_D A [(m0, OB 7 [.int 0, .ref q8, .ref q16, .ref q25, .int 0, .ref q34, .ref q41, .null, .int 0, .int 0, .int 0, .int 0, .int 0, .int 0, .null, .int 0, .null]), (q8, AI G 568 (fun _ => 0)), (q16, AI G 64 (fun _ => 0)), (q25, AI G 2840 (fun _ => 0)), (q34, AI G 1136 (fun _ => 0)), (q41, AZ G 2 (fun _ => 0))] := hD
  refine lv_aload_n hx hb dX7_init_46 rfl (lv_at hl 0 rfl) ?_
  refine lv_bipush (v := 120) hx hb dX7_init_47 (by decide) ?_
  refine wa_newI hx hb (hts (.arrayClass .int) (List.mem_of_getElem? (i := 4) rfl)) hK hP hD hS hA (n := 120) 120 (by decide) rfl (by decide) (Nat.le_of_ble_eq_true rfl) (Nat.le_of_ble_eq_true rfl) dX7_init_49 (fun q49 H hP hD hS => ?_)
  have hP : va_P G.1 vwCl [(m0, OB 7 [.int 0, .ref q8, .ref q16, .ref q25, .int 0, .ref q34, .ref q41, .null, .int 0, .int 0, .int 0, .int 0, .int 0, .int 0, .null, .int 0, .null]), (q8, AI G 568 (fun _ => 0)), (q16, AI G 64 (fun _ => 0)), (q25, AI G 2840 (fun _ => 0)), (q34, AI G 1136 (fun _ => 0)), (q41, AZ G 2 (fun _ => 0)), (q49, AI G 120 (fun _ => 0))] H := hP
  have hD : va_D A [(m0, OB 7 [.int 0, .ref q8, .ref q16, .ref q25, .int 0, .ref q34, .ref q41, .null, .int 0, .int 0, .int 0, .int 0, .int 0, .int 0, .null, .int 0, .null]), (q8, AI G 568 (fun _ => 0)), (q16, AI G 64 (fun _ => 0)), (q25, AI G 2840 (fun _ => 0)), (q34, AI G 1136 (fun _ => 0)), (q41, AZ G 2 (fun _ => 0)), (q49, AI G 120 (fun _ => 0))] := hD
  refine W.widen (k := 6) (n := 4730) (Nat.le_of_ble_eq_true rfl) (Nat.le_of_ble_eq_true rfl) ?_
  refine va_putF (D := G.1) (ci := 7) (v := .ref q49) (ty := .array (.int)) (C := RX7) (T := TX7) (N := 17) hx hb hts hi7 tyX7 tyX7_ok nmX7 hown hK hP hD hS 0 rfl rfl 7 (by decide) (hts (.fieldLink RX7 26 "ConflictEnumeratorModel" "text" "[I") (List.mem_of_getElem? (i := 11) rfl)) (fun _ h9 => h9) rfl hin rfl (by decide +kernel) rfl rfl (Nat.le_of_ble_eq_true rfl) dX7_init_51 (fun H locs hP hD hS => ?_)
  have hP : va_P G.1 vwCl [(m0, OB 7 [.int 0, .ref q8, .ref q16, .ref q25, .int 0, .ref q34, .ref q41, .ref q49, .int 0, .int 0, .int 0, .int 0, .int 0, .int 0, .null, .int 0, .null]), (q8, AI G 568 (fun _ => 0)), (q16, AI G 64 (fun _ => 0)), (q25, AI G 2840 (fun _ => 0)), (q34, AI G 1136 (fun _ => 0)), (q41, AZ G 2 (fun _ => 0)), (q49, AI G 120 (fun _ => 0))] H := hP
  have hD : va_D A [(m0, OB 7 [.int 0, .ref q8, .ref q16, .ref q25, .int 0, .ref q34, .ref q41, .ref q49, .int 0, .int 0, .int 0, .int 0, .int 0, .int 0, .null, .int 0, .null]), (q8, AI G 568 (fun _ => 0)), (q16, AI G 64 (fun _ => 0)), (q25, AI G 2840 (fun _ => 0)), (q34, AI G 1136 (fun _ => 0)), (q41, AZ G 2 (fun _ => 0)), (q49, AI G 120 (fun _ => 0))] := hD
  refine lv_aload_n hx hb dX7_init_54 rfl (lv_at hl 0 rfl) ?_
  refine lv_bipush (v := 64) hx hb dX7_init_55 (by decide) ?_
  refine wa_newI hx hb (hts (.arrayClass .int) (List.mem_of_getElem? (i := 4) rfl)) hK hP hD hS hA (n := 64) 64 (by decide) rfl (by decide) (Nat.le_of_ble_eq_true rfl) (Nat.le_of_ble_eq_true rfl) dX7_init_57 (fun q57 H hP hD hS => ?_)
  have hP : va_P G.1 vwCl [(m0, OB 7 [.int 0, .ref q8, .ref q16, .ref q25, .int 0, .ref q34, .ref q41, .ref q49, .int 0, .int 0, .int 0, .int 0, .int 0, .int 0, .null, .int 0, .null]), (q8, AI G 568 (fun _ => 0)), (q16, AI G 64 (fun _ => 0)), (q25, AI G 2840 (fun _ => 0)), (q34, AI G 1136 (fun _ => 0)), (q41, AZ G 2 (fun _ => 0)), (q49, AI G 120 (fun _ => 0)), (q57, AI G 64 (fun _ => 0))] H := hP
  have hD : va_D A [(m0, OB 7 [.int 0, .ref q8, .ref q16, .ref q25, .int 0, .ref q34, .ref q41, .ref q49, .int 0, .int 0, .int 0, .int 0, .int 0, .int 0, .null, .int 0, .null]), (q8, AI G 568 (fun _ => 0)), (q16, AI G 64 (fun _ => 0)), (q25, AI G 2840 (fun _ => 0)), (q34, AI G 1136 (fun _ => 0)), (q41, AZ G 2 (fun _ => 0)), (q49, AI G 120 (fun _ => 0)), (q57, AI G 64 (fun _ => 0))] := hD
  refine W.widen (k := 7) (n := 4794) (Nat.le_of_ble_eq_true rfl) (Nat.le_of_ble_eq_true rfl) ?_
  refine va_putF (D := G.1) (ci := 7) (v := .ref q57) (ty := .array (.int)) (C := RX7) (T := TX7) (N := 17) hx hb hts hi7 tyX7 tyX7_ok nmX7 hown hK hP hD hS 0 rfl rfl 14 (by decide) (hts (.fieldLink RX7 29 "ConflictEnumeratorModel" "violations" "[I") (List.mem_of_getElem? (i := 12) rfl)) (fun _ h9 => h9) rfl hin rfl (by decide +kernel) rfl rfl (Nat.le_of_ble_eq_true rfl) dX7_init_59 (fun H locs hP hD hS => ?_)
  have hP : va_P G.1 vwCl [(m0, OB 7 [.int 0, .ref q8, .ref q16, .ref q25, .int 0, .ref q34, .ref q41, .ref q49, .int 0, .int 0, .int 0, .int 0, .int 0, .int 0, .ref q57, .int 0, .null]), (q8, AI G 568 (fun _ => 0)), (q16, AI G 64 (fun _ => 0)), (q25, AI G 2840 (fun _ => 0)), (q34, AI G 1136 (fun _ => 0)), (q41, AZ G 2 (fun _ => 0)), (q49, AI G 120 (fun _ => 0)), (q57, AI G 64 (fun _ => 0))] H := hP
  have hD : va_D A [(m0, OB 7 [.int 0, .ref q8, .ref q16, .ref q25, .int 0, .ref q34, .ref q41, .ref q49, .int 0, .int 0, .int 0, .int 0, .int 0, .int 0, .ref q57, .int 0, .null]), (q8, AI G 568 (fun _ => 0)), (q16, AI G 64 (fun _ => 0)), (q25, AI G 2840 (fun _ => 0)), (q34, AI G 1136 (fun _ => 0)), (q41, AZ G 2 (fun _ => 0)), (q49, AI G 120 (fun _ => 0)), (q57, AI G 64 (fun _ => 0))] := hD
  refine lv_aload_n hx hb dX7_init_62 rfl (lv_at hl 0 rfl) ?_
  refine lv_sipush (v := 1024) hx hb dX7_init_63 (by decide) ?_
  refine wa_newZ hx hb (hts (.arrayClass .boolean) (List.mem_of_getElem? (i := 9) rfl)) hK hP hD hS hA (n := 1024) 1024 (by decide) rfl (by decide) (Nat.le_of_ble_eq_true rfl) (Nat.le_of_ble_eq_true rfl) dX7_init_66 (fun q66 H hP hD hS => ?_)
  have hP : va_P G.1 vwCl [(m0, OB 7 [.int 0, .ref q8, .ref q16, .ref q25, .int 0, .ref q34, .ref q41, .ref q49, .int 0, .int 0, .int 0, .int 0, .int 0, .int 0, .ref q57, .int 0, .null]), (q8, AI G 568 (fun _ => 0)), (q16, AI G 64 (fun _ => 0)), (q25, AI G 2840 (fun _ => 0)), (q34, AI G 1136 (fun _ => 0)), (q41, AZ G 2 (fun _ => 0)), (q49, AI G 120 (fun _ => 0)), (q57, AI G 64 (fun _ => 0)), (q66, AZ G 1024 (fun _ => 0))] H := hP
  have hD : va_D A [(m0, OB 7 [.int 0, .ref q8, .ref q16, .ref q25, .int 0, .ref q34, .ref q41, .ref q49, .int 0, .int 0, .int 0, .int 0, .int 0, .int 0, .ref q57, .int 0, .null]), (q8, AI G 568 (fun _ => 0)), (q16, AI G 64 (fun _ => 0)), (q25, AI G 2840 (fun _ => 0)), (q34, AI G 1136 (fun _ => 0)), (q41, AZ G 2 (fun _ => 0)), (q49, AI G 120 (fun _ => 0)), (q57, AI G 64 (fun _ => 0)), (q66, AZ G 1024 (fun _ => 0))] := hD
  refine W.widen (k := 8) (n := 5818) (Nat.le_of_ble_eq_true rfl) (Nat.le_of_ble_eq_true rfl) ?_
  refine va_putF (D := G.1) (ci := 7) (v := .ref q66) (ty := .array (.boolean)) (C := RX7) (T := TX7) (N := 17) hx hb hts hi7 tyX7 tyX7_ok nmX7 hown hK hP hD hS 0 rfl rfl 16 (by decide) (hts (.fieldLink RX7 32 "ConflictEnumeratorModel" "isExplored" "[Z") (List.mem_of_getElem? (i := 13) rfl)) (fun _ h9 => h9) rfl hin rfl (by decide +kernel) rfl rfl (Nat.le_of_ble_eq_true rfl) dX7_init_68 (fun H locs hP hD hS => ?_)
  have hP : va_P G.1 vwCl [(m0, OB 7 [.int 0, .ref q8, .ref q16, .ref q25, .int 0, .ref q34, .ref q41, .ref q49, .int 0, .int 0, .int 0, .int 0, .int 0, .int 0, .ref q57, .int 0, .ref q66]), (q8, AI G 568 (fun _ => 0)), (q16, AI G 64 (fun _ => 0)), (q25, AI G 2840 (fun _ => 0)), (q34, AI G 1136 (fun _ => 0)), (q41, AZ G 2 (fun _ => 0)), (q49, AI G 120 (fun _ => 0)), (q57, AI G 64 (fun _ => 0)), (q66, AZ G 1024 (fun _ => 0))] H := hP
  have hD : va_D A [(m0, OB 7 [.int 0, .ref q8, .ref q16, .ref q25, .int 0, .ref q34, .ref q41, .ref q49, .int 0, .int 0, .int 0, .int 0, .int 0, .int 0, .ref q57, .int 0, .ref q66]), (q8, AI G 568 (fun _ => 0)), (q16, AI G 64 (fun _ => 0)), (q25, AI G 2840 (fun _ => 0)), (q34, AI G 1136 (fun _ => 0)), (q41, AZ G 2 (fun _ => 0)), (q49, AI G 120 (fun _ => 0)), (q57, AI G 64 (fun _ => 0)), (q66, AZ G 1024 (fun _ => 0))] := hD
  exact ret _ _ _ _ _ _ _ (Nat.le_of_ble_eq_true rfl) (Nat.le_of_ble_eq_true rfl) (⟨q8, q16, q25, q34, q41, q49, q57, q66, rfl⟩) (hP.sub (ws' := [(m0, OB 7 [.int 0, .ref q8, .ref q16, .ref q25, .int 0, .ref q34, .ref q41, .ref q49, .int 0, .int 0, .int 0, .int 0, .int 0, .int 0, .ref q57, .int 0, .ref q66]), (q8, AI G 568 (fun _ => 0)), (q16, AI G 64 (fun _ => 0)), (q25, AI G 2840 (fun _ => 0)), (q34, AI G 1136 (fun _ => 0)), (q41, AZ G 2 (fun _ => 0)), (q49, AI G 120 (fun _ => 0)), (q57, AI G 64 (fun _ => 0)), (q66, AZ G 1024 (fun _ => 0))]) [0, 1, 2, 3, 4, 5, 6, 7, 8] rfl) (hD.sub (ws' := [(m0, OB 7 [.int 0, .ref q8, .ref q16, .ref q25, .int 0, .ref q34, .ref q41, .ref q49, .int 0, .int 0, .int 0, .int 0, .int 0, .int 0, .ref q57, .int 0, .ref q66]), (q8, AI G 568 (fun _ => 0)), (q16, AI G 64 (fun _ => 0)), (q25, AI G 2840 (fun _ => 0)), (q34, AI G 1136 (fun _ => 0)), (q41, AZ G 2 (fun _ => 0)), (q49, AI G 120 (fun _ => 0)), (q57, AI G 64 (fun _ => 0)), (q66, AZ G 1024 (fun _ => 0))]) [0, 1, 2, 3, 4, 5, 6, 7, 8] (by decide) rfl) hS dX7_init_71
abbrev rmX7_in : Room := { frames := 0, cells := 0, slots := 0, locals := 0 }
set_option maxHeartbeats 4000000 in
set_option maxRecDepth 100000 in
theorem c_X7_in (l : Launch) (G : GT) (v lo hi : Int32)  : Ci l yX7_in wsX7_in rmX7_in G [.int v, .int lo, .int hi] [] (fun r u => r = bI (inR v lo hi) ∧ u = []) := by
  refine Ci.of (cc := cX7_in) (maxL := 3) (ty := .boolean) (by decide) rfl (Nat.le_of_ble_eq_true rfl) ?_
  intro p e s m below meth c A ls Q hx hb hml hts hown hA hS hP hK hN hSS hD hl ret
  have hown : s.vm.findClass RX7 = some m.cls := hown
  have hl : lv_has ls 3 [(0, .int v), (1, .int lo), (2, .int hi)] := hl
  refine lv_iload_n hx hb dX7_in_0 rfl (lv_at hl 0 rfl) ?_
  refine lv_iload_n hx hb dX7_in_1 rfl (lv_at hl 1 rfl) ?_
  refine lv_icmp_lt (tgt := 14) hx hb dX7_in_2 (by decide) (fun c_2 => ?_) (fun c_2 => ?_)
  ·
    refine lv_iconst (v := 0) hx hb dX7_in_14 (by decide) ?_
    exact ret 0 _ _ _ _ _ _ _ (Nat.le_of_ble_eq_true rfl) (Nat.le_of_ble_eq_true rfl) (rfl) (⟨by simp [bI, inR, c_2], rfl⟩) (hP.sub (ws' := []) [] rfl) (hD.sub (ws' := []) [] (by decide) rfl) hS dX7_in_15
  ·
    refine lv_iload_n hx hb dX7_in_5 rfl (lv_at hl 0 rfl) ?_
    refine lv_iload_n hx hb dX7_in_6 rfl (lv_at hl 2 rfl) ?_
    refine lv_icmp_gt (tgt := 14) hx hb dX7_in_7 (by decide) (fun c_7 => ?_) (fun c_7 => ?_)
    ·
      refine lv_iconst (v := 0) hx hb dX7_in_14 (by decide) ?_
      exact ret 0 _ _ _ _ _ _ _ (Nat.le_of_ble_eq_true rfl) (Nat.le_of_ble_eq_true rfl) (rfl) (⟨by simp [bI, inR, c_2, c_7], rfl⟩) (hP.sub (ws' := []) [] rfl) (hD.sub (ws' := []) [] (by decide) rfl) hS dX7_in_15
    ·
      refine lv_iconst (v := 1) hx hb dX7_in_10 (by decide) ?_
      refine lv_goto (tgt := 15) hx hb dX7_in_11 (by decide) ?_
      exact ret 1 _ _ _ _ _ _ _ (Nat.le_of_ble_eq_true rfl) (Nat.le_of_ble_eq_true rfl) (rfl) (⟨by simp [bI, inR, c_2, c_7], rfl⟩) (hP.sub (ws' := []) [] rfl) (hD.sub (ws' := []) [] (by decide) rfl) hS dX7_in_15
abbrev rmX7_bitCount : Room := { frames := 0, cells := 0, slots := 0, locals := 0 }
set_option maxHeartbeats 4000000 in
set_option maxRecDepth 100000 in
theorem c_X7_bitCount (l : Launch) (G : GT) (x : Int32)  : Ci l yX7_bitCount wsX7_bitCount rmX7_bitCount G [.int x] [] (fun r u => r = bcM x 10 ∧ u = []) := by
  refine Ci.of (cc := cX7_bitCount) (maxL := 3) (ty := .int) (by decide) rfl (Nat.le_of_ble_eq_true rfl) ?_
  intro p e s m below meth c A ls Q hx hb hml hts hown hA hS hP hK hN hSS hD hl ret
  have hown : s.vm.findClass RX7 = some m.cls := hown
  have hl : lv_has ls 3 [(0, .int x)] := hl
  refine lv_iconst (v := 0) hx hb dX7_bitCount_0 (by decide) ?_
  refine lv_istore_n (lv' := [(1, .int 0), (0, .int x)]) hx hb dX7_bitCount_1 rfl hl (by decide) rfl (fun ls hl => ?_)
  refine lv_iconst (v := 0) hx hb dX7_bitCount_2 (by decide) ?_
  refine lv_istore_n (lv' := [(2, .int 0), (1, .int 0), (0, .int x)]) hx hb dX7_bitCount_3 rfl hl (by decide) rfl (fun ls hl => ?_)
  have L4 : ∀ (kf : Nat) (k : Nat) (acc : Int32) (H : Heap) (locs : List Loc) (ls : Array Slot), 10 - k < kf → (k ≤ 10) → (acc = bcM x k) → va_P G.1 vwCl [] H → va_D A [] → va_S A s.heap H locs → lv_has ls 3 [(0, .int x), (1, .int acc), (2, .int (nI k))] → W p l e rmX7_bitCount s m ([.int x] : List Value).toArray below meth c H locs 0 0 Q (F0 m 4 ls []) := by
    intro kf
    induction kf with
    | zero => intro k acc H locs ls h; exact absurd h (Nat.not_lt_zero _)
    | succ kf ih =>
      intro k acc H locs ls hk hi ha hP hD hS hl
      refine lv_iload_n hx hb dX7_bitCount_4 rfl (lv_at hl 2 rfl) ?_
      refine lv_bipush (v := 10) hx hb dX7_bitCount_5 (by decide) ?_
      refine lv_icmp_ge (tgt := 24) hx hb dX7_bitCount_7 (by decide) (fun c_7 => ?_) (fun c_7 => ?_)
      ·
        have c_7 : 10 ≤ k := (nI_leI (a := 10) (b := k) (by omega) (by omega)).mp c_7
        refine lv_iload_n hx hb dX7_bitCount_24 rfl (lv_at hl 1 rfl) ?_
        exact ret acc _ _ _ _ _ _ _ (Nat.le_of_ble_eq_true rfl) (Nat.le_of_ble_eq_true rfl) (rfl) (⟨by rw [ha, show k = 10 by omega], rfl⟩) (hP.sub (ws' := []) [] rfl) (hD.sub (ws' := []) [] (by decide) rfl) hS dX7_bitCount_25
      ·
        have c_7 : k < 10 := by have h9 := mt (nI_leI (a := 10) (b := k) (by omega) (by omega)).mpr c_7; omega
        refine lv_iload_n hx hb dX7_bitCount_10 rfl (lv_at hl 1 rfl) ?_
        refine lv_iload_n hx hb dX7_bitCount_11 rfl (lv_at hl 0 rfl) ?_
        refine lv_iload_n hx hb dX7_bitCount_12 rfl (lv_at hl 2 rfl) ?_
        refine lv_ishr hx hb dX7_bitCount_13 ?_
        refine lv_iconst (v := 1) hx hb dX7_bitCount_14 (by decide) ?_
        refine lv_iand hx hb dX7_bitCount_15 ?_
        refine lv_iadd hx hb dX7_bitCount_16 ?_
        refine lv_istore_n (lv' := [(1, .int (acc + ((x >>> ((nI k) &&& 31)) &&& 1))), (0, .int x), (2, .int (nI k))]) hx hb dX7_bitCount_17 rfl hl (by decide) rfl (fun ls hl => ?_)
        refine lv_iinc (v := nI (k + 1)) (lv' := [(2, .int (nI (k + 1))), (1, .int (acc + ((x >>> ((nI k) &&& 31)) &&& 1))), (0, .int x)]) hx hb dX7_bitCount_18 hl (k := 2) rfl (nI_inc (k) 1) (by decide) rfl (fun ls hl => ?_)
        refine lv_goto (tgt := 4) hx hb dX7_bitCount_21 (by decide) ?_
        exact ih (k + 1) (acc + ((x >>> ((nI k) &&& 31)) &&& 1)) _ _ _ (by omega) (by omega) (by simp [bcM, ha]) (hP.sub (ws' := []) [] rfl) (hD.sub (ws' := []) [] (by decide) rfl) hS (lv_sub (l' := [(0, .int x), (1, .int (acc + ((x >>> ((nI k) &&& 31)) &&& 1))), (2, .int (nI (k + 1)))]) hl [2, 1, 0] rfl)
  exact L4 ((10 - 0) + 1) 0 0 _ _ _ (Nat.lt_succ_self _) (Nat.zero_le _) (rfl) (hP.sub (ws' := []) [] rfl) (hD.sub (ws' := []) [] (by decide) rfl) hS (lv_sub (l' := [(0, .int x), (1, .int 0), (2, .int (nI 0))]) hl [2, 1, 0] rfl)
abbrev rmX7_has : Room := { frames := 0, cells := 0, slots := 0, locals := 0 }
set_option maxHeartbeats 4000000 in
set_option maxRecDepth 100000 in
theorem c_X7_has (l : Launch) (G : GT) (x k : Int32)  : Ci l yX7_has wsX7_has rmX7_has G [.int x, .int k] [] (fun r u => r = bI (hasI x k) ∧ u = []) := by
  refine Ci.of (cc := cX7_has) (maxL := 2) (ty := .boolean) (by decide) rfl (Nat.le_of_ble_eq_true rfl) ?_
  intro p e s m below meth c A ls Q hx hb hml hts hown hA hS hP hK hN hSS hD hl ret
  have hown : s.vm.findClass RX7 = some m.cls := hown
  have hl : lv_has ls 2 [(0, .int x), (1, .int k)] := hl
  refine lv_iload_n hx hb dX7_has_0 rfl (lv_at hl 0 rfl) ?_
  refine lv_iload_n hx hb dX7_has_1 rfl (lv_at hl 1 rfl) ?_
  refine lv_ishr hx hb dX7_has_2 ?_
  refine lv_iconst (v := 1) hx hb dX7_has_3 (by decide) ?_
  refine lv_iand hx hb dX7_has_4 ?_
  refine lv_iconst (v := 1) hx hb dX7_has_5 (by decide) ?_
  refine lv_icmp_ne (tgt := 13) hx hb dX7_has_6 (by decide) (fun c_6 => ?_) (fun c_6 => ?_)
  ·
    refine lv_iconst (v := 0) hx hb dX7_has_13 (by decide) ?_
    exact ret 0 _ _ _ _ _ _ _ (Nat.le_of_ble_eq_true rfl) (Nat.le_of_ble_eq_true rfl) (rfl) (⟨by simp [bI, hasI, c_6], rfl⟩) (hP.sub (ws' := []) [] rfl) (hD.sub (ws' := []) [] (by decide) rfl) hS dX7_has_14
  ·
    refine lv_iconst (v := 1) hx hb dX7_has_9 (by decide) ?_
    refine lv_goto (tgt := 14) hx hb dX7_has_10 (by decide) ?_
    exact ret 1 _ _ _ _ _ _ _ (Nat.le_of_ble_eq_true rfl) (Nat.le_of_ble_eq_true rfl) (rfl) (⟨by simp [bI, hasI, c_6], rfl⟩) (hP.sub (ws' := []) [] rfl) (hD.sub (ws' := []) [] (by decide) rfl) hS dX7_has_14
abbrev rmX7_of : Room := { frames := 0, cells := 0, slots := 0, locals := 0 }
set_option maxHeartbeats 4000000 in
set_option maxRecDepth 100000 in
theorem c_X7_of (l : Launch) (G : GT) (m0 a1 a2 a3 a5 a6 a7 a14 a16 : Nat) (th : Int32) (ud ln nx ts : Nat) (tk vl er rq : Int32) (sf : Nat → Int32) (q w : Nat) (hb9 : 4 + 6 * q + w < 568) : Ci l yX7_of wsX7_of rmX7_of G [.ref m0, .int (nI q), .int (nI w)] [(m0, OB 7 [.int th, .ref a1, .ref a2, .ref a3, .int (nI ud), .ref a5, .ref a6, .ref a7, .int (nI ln), .int (nI nx), .int (nI ts), .int tk, .int vl, .int er, .ref a14, .int rq, .ref a16]), (a1, AI G 568 sf)] (fun r u => r = cA sf q w ∧ u = [(m0, OB 7 [.int th, .ref a1, .ref a2, .ref a3, .int (nI ud), .ref a5, .ref a6, .ref a7, .int (nI ln), .int (nI nx), .int (nI ts), .int tk, .int vl, .int er, .ref a14, .int rq, .ref a16]), (a1, AI G 568 sf)]) := by
  refine Ci.of (cc := cX7_of) (maxL := 3) (ty := .int) (by decide) rfl (Nat.le_of_ble_eq_true rfl) ?_
  intro p e s m below meth c A ls Q hx hb hml hts hown hA hS hP hK hN hSS hD hl ret
  have hown : s.vm.findClass RX7 = some m.cls := hown
  have hl : lv_has ls 3 [(0, .ref m0), (1, .int (nI q)), (2, .int (nI w))] := hl
  have hi7 : ∀ w ∈ wsX70, w ∈ wsX7_of := mem_places [2, 3, 4, 5, 6, 7, 8, 9, 10, 11, 12, 13, 14, 15, 16, 17, 18] (by decide +kernel)
  refine lv_aload_n hx hb dX7_of_0 rfl (lv_at hl 0 rfl) ?_
  refine va_get (D := G.1) (ci := 7) (v := .ref a1) (C := RX7) (T := TX7) (N := 17) hx hb hts hi7 hown hK hP 0 rfl rfl 1 (by decide) (hts (.fieldLink RX7 7 "ConflictEnumeratorModel" "s" "[I") (List.mem_of_getElem? (i := 1) rfl)) (fun _ h9 => h9) rfl dX7_of_1 ?_
  refine lv_iconst (v := 4) hx hb dX7_of_4 (by decide) ?_
  refine lv_bipush (v := 6) hx hb dX7_of_5 (by decide) ?_
  refine lv_iload_n hx hb dX7_of_7 rfl (lv_at hl 1 rfl) ?_
  refine wn_imul hx hb (6) (q) rfl rfl dX7_of_8 ?_
  refine wn_iadd hx hb (4) (6 * q) rfl rfl dX7_of_9 ?_
  refine lv_iload_n hx hb dX7_of_10 rfl (lv_at hl 2 rfl) ?_
  refine wn_iadd hx hb (4 + (6 * q)) (w) rfl rfl dX7_of_11 ?_
  refine wa_iald hx hb hK hP 1 rfl ((4 + (6 * q)) + w) (rfl) (by omega) (by decide) dX7_of_12 ?_
  exact ret (sf ((4 + (6 * q)) + w)) _ _ _ _ _ _ _ (Nat.le_of_ble_eq_true rfl) (Nat.le_of_ble_eq_true rfl) (rfl) (⟨rfl, rfl⟩) (hP.sub (ws' := [(m0, OB 7 [.int th, .ref a1, .ref a2, .ref a3, .int (nI ud), .ref a5, .ref a6, .ref a7, .int (nI ln), .int (nI nx), .int (nI ts), .int tk, .int vl, .int er, .ref a14, .int rq, .ref a16]), (a1, AI G 568 sf)]) [0, 1] rfl) (hD.sub (ws' := [(m0, OB 7 [.int th, .ref a1, .ref a2, .ref a3, .int (nI ud), .ref a5, .ref a6, .ref a7, .int (nI ln), .int (nI nx), .int (nI ts), .int tk, .int vl, .int er, .ref a14, .int rq, .ref a16]), (a1, AI G 568 sf)]) [0, 1] (by decide) rfl) hS dX7_of_13
abbrev rmX7_isConstraint : Room := { frames := 1, cells := 0, slots := 0, locals := 22 }
set_option maxHeartbeats 4000000 in
set_option maxRecDepth 100000 in
theorem c_X7_isConstraint (l : Launch) (G : GT) (m0 a1 a2 a3 a5 a6 a7 a14 a16 : Nat) (th : Int32) (ud ln nx ts : Nat) (tk vl er rq : Int32) (sf : Nat → Int32) (n : Nat) (k : Int32) (hc : sf 0 = nI n) (hn : n ≤ 10) : Ci l yX7_isConstraint wsX7_isConstraint rmX7_isConstraint G [.ref m0, .int k] [(m0, OB 7 [.int th, .ref a1, .ref a2, .ref a3, .int (nI ud), .ref a5, .ref a6, .ref a7, .int (nI ln), .int (nI nx), .int (nI ts), .int tk, .int vl, .int er, .ref a14, .int rq, .ref a16]), (a1, AI G 568 sf)] (fun r u => r = bI (inB k n) ∧ u = [(m0, OB 7 [.int th, .ref a1, .ref a2, .ref a3, .int (nI ud), .ref a5, .ref a6, .ref a7, .int (nI ln), .int (nI nx), .int (nI ts), .int tk, .int vl, .int er, .ref a14, .int rq, .ref a16]), (a1, AI G 568 sf)]) := by
  refine Ci.of (cc := cX7_isConstraint) (maxL := 2) (ty := .boolean) (by decide) rfl (Nat.le_of_ble_eq_true rfl) ?_
  intro p e s m below meth c A ls Q hx hb hml hts hown hA hS hP hK hN hSS hD hl ret
  have hown : s.vm.findClass RX7 = some m.cls := hown
  have hl : lv_has ls 2 [(0, .ref m0), (1, .int k)] := hl
  have hi7 : ∀ w ∈ wsX70, w ∈ wsX7_isConstraint := mem_places [6, 7, 8, 9, 10, 11, 12, 13, 14, 15, 16, 17, 18, 19, 20, 21, 22] (by decide +kernel)
  refine lv_iload_n hx hb dX7_isConstraint_0 rfl (lv_at hl 1 rfl) ?_
  refine lv_iconst (v := 0) hx hb dX7_isConstraint_1 (by decide) ?_
  refine lv_aload_n hx hb dX7_isConstraint_2 rfl (lv_at hl 0 rfl) ?_
  refine va_get (D := G.1) (ci := 7) (v := .ref a1) (C := RX7) (T := TX7) (N := 17) hx hb hts hi7 hown hK hP 0 rfl rfl 1 (by decide) (hts (.fieldLink RX7 7 "ConflictEnumeratorModel" "s" "[I") (List.mem_of_getElem? (i := 1) rfl)) (fun _ h9 => h9) rfl dX7_isConstraint_3 ?_
  refine lv_iconst (v := 0) hx hb dX7_isConstraint_6 (by decide) ?_
  refine wa_iald hx hb hK hP 1 rfl (0) (rfl) (by omega) (by decide) dX7_isConstraint_7 ?_
  rw [show sf 0 = nI n from hc]
  refine lv_iconst (v := 1) hx hb dX7_isConstraint_8 (by decide) ?_
  refine lv_isub hx hb dX7_isConstraint_9 ?_
  refine call_Si (rest := []) (As := [.int k, .int 0, .int ((nI n) - 1)]) (wr := [(m0, OB 7 [.int th, .ref a1, .ref a2, .ref a3, .int (nI ud), .ref a5, .ref a6, .ref a7, .int (nI ln), .int (nI nx), .int (nI ts), .int tk, .int vl, .int er, .ref a14, .int rq, .ref a16]), (a1, AI G 568 sf)]) (c1 := 0) (s1 := 0) ⟨hx, hb, hml, hown, hts⟩ (c_X7_in l G k 0 ((nI n) - 1) ) (va_cwS 3 hts gX7_isConstraint_X7_in rfl rfl rfl (by decide +kernel) ⟨Nat.le_of_ble_eq_true rfl, Nat.le_of_ble_eq_true rfl⟩) hK hN hSS hP hD hS hA [] [0, 1] rfl rfl (by decide) (by decide) (by decide) rfl hl.1 rfl (Nat.le_of_ble_eq_true rfl) dX7_isConstraint_10 ⟨Nat.le_of_ble_eq_true rfl, Nat.le_of_ble_eq_true rfl⟩ rfl rfl (fun r_10 u_10 H locs hpo hP hD hS => ?_)
  obtain ⟨hr9, rfl⟩ := hpo
  subst r_10
  have hP : va_P G.1 vwCl [(m0, OB 7 [.int th, .ref a1, .ref a2, .ref a3, .int (nI ud), .ref a5, .ref a6, .ref a7, .int (nI ln), .int (nI nx), .int (nI ts), .int tk, .int vl, .int er, .ref a14, .int rq, .ref a16]), (a1, AI G 568 sf)] H := hP
  have hD : va_D A [(m0, OB 7 [.int th, .ref a1, .ref a2, .ref a3, .int (nI ud), .ref a5, .ref a6, .ref a7, .int (nI ln), .int (nI nx), .int (nI ts), .int tk, .int vl, .int er, .ref a14, .int rq, .ref a16]), (a1, AI G 568 sf)] := hD
  exact ret (bI (inR k 0 ((nI n) - 1))) _ _ _ _ _ _ _ (Nat.le_of_ble_eq_true rfl) (Nat.le_of_ble_eq_true rfl) (bI_nar _) (⟨by rw [inR_inB (by omega)], rfl⟩) (hP.sub (ws' := [(m0, OB 7 [.int th, .ref a1, .ref a2, .ref a3, .int (nI ud), .ref a5, .ref a6, .ref a7, .int (nI ln), .int (nI nx), .int (nI ts), .int tk, .int vl, .int er, .ref a14, .int rq, .ref a16]), (a1, AI G 568 sf)]) [0, 1] rfl) (hD.sub (ws' := [(m0, OB 7 [.int th, .ref a1, .ref a2, .ref a3, .int (nI ud), .ref a5, .ref a6, .ref a7, .int (nI ln), .int (nI nx), .int (nI ts), .int tk, .int vl, .int er, .ref a14, .int rq, .ref a16]), (a1, AI G 568 sf)]) [0, 1] (by decide) rfl) hS dX7_isConstraint_13
abbrev rmX7_softSet : Room := { frames := 1, cells := 0, slots := 0, locals := 22 }
set_option maxHeartbeats 4000000 in
set_option maxRecDepth 100000 in
theorem c_X7_softSet (l : Launch) (G : GT) (m0 a1 a2 a3 a5 a6 a7 a14 a16 : Nat) (th : Int32) (ud ln nx ts : Nat) (tk vl er rq : Int32) (sf : Nat → Int32) (n : Nat) (hc : sf 0 = nI n) (hn : n ≤ 10) : Ci l yX7_softSet wsX7_softSet rmX7_softSet G [.ref m0] [(m0, OB 7 [.int th, .ref a1, .ref a2, .ref a3, .int (nI ud), .ref a5, .ref a6, .ref a7, .int (nI ln), .int (nI nx), .int (nI ts), .int tk, .int vl, .int er, .ref a14, .int rq, .ref a16]), (a1, AI G 568 sf)] (fun r u => r = softS sf n ∧ u = [(m0, OB 7 [.int th, .ref a1, .ref a2, .ref a3, .int (nI ud), .ref a5, .ref a6, .ref a7, .int (nI ln), .int (nI nx), .int (nI ts), .int tk, .int vl, .int er, .ref a14, .int rq, .ref a16]), (a1, AI G 568 sf)]) := by
  refine Ci.of (cc := cX7_softSet) (maxL := 3) (ty := .int) (by decide) rfl (Nat.le_of_ble_eq_true rfl) ?_
  intro p e s m below meth c A ls Q hx hb hml hts hown hA hS hP hK hN hSS hD hl ret
  have hown : s.vm.findClass RX7 = some m.cls := hown
  have hl : lv_has ls 3 [(0, .ref m0)] := hl
  have hi7 : ∀ w ∈ wsX70, w ∈ wsX7_softSet := mem_places [7, 8, 9, 10, 11, 12, 13, 14, 15, 16, 17, 18, 19, 20, 21, 22, 23] (by decide +kernel)
  refine lv_iconst (v := 0) hx hb dX7_softSet_0 (by decide) ?_
  refine lv_istore_n (lv' := [(1, .int 0), (0, .ref m0)]) hx hb dX7_softSet_1 rfl hl (by decide) rfl (fun ls hl => ?_)
  refine lv_iconst (v := 0) hx hb dX7_softSet_2 (by decide) ?_
  refine lv_istore_n (lv' := [(2, .int 0), (1, .int 0), (0, .ref m0)]) hx hb dX7_softSet_3 rfl hl (by decide) rfl (fun ls hl => ?_)
  have L4 : ∀ (kf : Nat) (q : Nat) (acc : Int32) (H : Heap) (locs : List Loc) (ls : Array Slot), n - q < kf → (q ≤ n) → (acc = softH (fun c => cA sf c 4) q) → va_P G.1 vwCl [(m0, OB 7 [.int th, .ref a1, .ref a2, .ref a3, .int (nI ud), .ref a5, .ref a6, .ref a7, .int (nI ln), .int (nI nx), .int (nI ts), .int tk, .int vl, .int er, .ref a14, .int rq, .ref a16]), (a1, AI G 568 sf)] H → va_D A [(m0, OB 7 [.int th, .ref a1, .ref a2, .ref a3, .int (nI ud), .ref a5, .ref a6, .ref a7, .int (nI ln), .int (nI nx), .int (nI ts), .int tk, .int vl, .int er, .ref a14, .int rq, .ref a16]), (a1, AI G 568 sf)] → va_S A s.heap H locs → lv_has ls 3 [(0, .ref m0), (1, .int acc), (2, .int (nI q))] → W p l e rmX7_softSet s m ([.ref m0] : List Value).toArray below meth c H locs 0 0 Q (F0 m 4 ls []) := by
    intro kf
    induction kf with
    | zero => intro q acc H locs ls h; exact absurd h (Nat.not_lt_zero _)
    | succ kf ih =>
      intro q acc H locs ls hk hi ha hP hD hS hl
      refine lv_iload_n hx hb dX7_softSet_4 rfl (lv_at hl 2 rfl) ?_
      refine lv_aload_n hx hb dX7_softSet_5 rfl (lv_at hl 0 rfl) ?_
      refine va_get (D := G.1) (ci := 7) (v := .ref a1) (C := RX7) (T := TX7) (N := 17) hx hb hts hi7 hown hK hP 0 rfl rfl 1 (by decide) (hts (.fieldLink RX7 7 "ConflictEnumeratorModel" "s" "[I") (List.mem_of_getElem? (i := 1) rfl)) (fun _ h9 => h9) rfl dX7_softSet_6 ?_
      refine lv_iconst (v := 0) hx hb dX7_softSet_9 (by decide) ?_
      refine wa_iald hx hb hK hP 1 rfl (0) (rfl) (by omega) (by decide) dX7_softSet_10 ?_
      rw [show sf 0 = nI n from hc]
      refine lv_icmp_ge (tgt := 39) hx hb dX7_softSet_11 (by decide) (fun c_11 => ?_) (fun c_11 => ?_)
      ·
        have c_11 : n ≤ q := (nI_leI (a := n) (b := q) (by omega) (by omega)).mp c_11
        refine lv_iload_n hx hb dX7_softSet_39 rfl (lv_at hl 1 rfl) ?_
        exact ret acc _ _ _ _ _ _ _ (Nat.le_of_ble_eq_true rfl) (Nat.le_of_ble_eq_true rfl) (rfl) (⟨by rw [ha, show q = n by omega]; rfl, rfl⟩) (hP.sub (ws' := [(m0, OB 7 [.int th, .ref a1, .ref a2, .ref a3, .int (nI ud), .ref a5, .ref a6, .ref a7, .int (nI ln), .int (nI nx), .int (nI ts), .int tk, .int vl, .int er, .ref a14, .int rq, .ref a16]), (a1, AI G 568 sf)]) [0, 1] rfl) (hD.sub (ws' := [(m0, OB 7 [.int th, .ref a1, .ref a2, .ref a3, .int (nI ud), .ref a5, .ref a6, .ref a7, .int (nI ln), .int (nI nx), .int (nI ts), .int tk, .int vl, .int er, .ref a14, .int rq, .ref a16]), (a1, AI G 568 sf)]) [0, 1] (by decide) rfl) hS dX7_softSet_40
      ·
        have c_11 : q < n := by have h9 := mt (nI_leI (a := n) (b := q) (by omega) (by omega)).mpr c_11; omega
        refine lv_iload_n hx hb dX7_softSet_14 rfl (lv_at hl 1 rfl) ?_
        refine lv_aload_n hx hb dX7_softSet_15 rfl (lv_at hl 0 rfl) ?_
        refine lv_iload_n hx hb dX7_softSet_16 rfl (lv_at hl 2 rfl) ?_
        refine lv_iconst (v := 4) hx hb dX7_softSet_17 (by decide) ?_
        refine call_Vi (rest := [.int acc]) (As := [.int (nI q), .int 4]) (wr := []) (c1 := 0) (s1 := 0) ⟨hx, hb, hml, hown, hts⟩ (c_X7_of l G m0 a1 a2 a3 a5 a6 a7 a14 a16 th ud ln nx ts tk vl er rq sf q 4 (by first | assumption | omega)) (cwV 2 hts gX7_softSet_X7_of rfl rfl rfl (by decide +kernel) ⟨Nat.le_of_ble_eq_true rfl, Nat.le_of_ble_eq_true rfl⟩) hK hN hSS hP hD hS hA 0 7 rfl rfl rfl [0, 1] [] rfl rfl (by decide) (by decide) (by decide) rfl hl.1 rfl (Nat.le_of_ble_eq_true rfl) dX7_softSet_18 ⟨Nat.le_of_ble_eq_true rfl, Nat.le_of_ble_eq_true rfl⟩ rfl rfl (fun r_18 u_18 H locs hpo hP hD hS => ?_)
        obtain ⟨hr9, rfl⟩ := hpo
        subst r_18
        have hP : va_P G.1 vwCl [(m0, OB 7 [.int th, .ref a1, .ref a2, .ref a3, .int (nI ud), .ref a5, .ref a6, .ref a7, .int (nI ln), .int (nI nx), .int (nI ts), .int tk, .int vl, .int er, .ref a14, .int rq, .ref a16]), (a1, AI G 568 sf)] H := hP
        have hD : va_D A [(m0, OB 7 [.int th, .ref a1, .ref a2, .ref a3, .int (nI ud), .ref a5, .ref a6, .ref a7, .int (nI ln), .int (nI nx), .int (nI ts), .int tk, .int vl, .int er, .ref a14, .int rq, .ref a16]), (a1, AI G 568 sf)] := hD
        refine lv_if_ne (tgt := 30) hx hb dX7_softSet_21 (by decide) (fun c_21 => ?_) (fun c_21 => ?_)
        ·
          refine lv_iconst (v := 0) hx hb dX7_softSet_30 (by decide) ?_
          refine lv_ior hx hb dX7_softSet_31 ?_
          refine lv_istore_n (lv' := [(1, .int (acc ||| 0)), (0, .ref m0), (2, .int (nI q))]) hx hb dX7_softSet_32 rfl hl (by decide) rfl (fun ls hl => ?_)
          refine lv_iinc (v := nI (q + 1)) (lv' := [(2, .int (nI (q + 1))), (1, .int (acc ||| 0)), (0, .ref m0)]) hx hb dX7_softSet_33 hl (k := 2) rfl (nI_inc (q) 1) (by decide) rfl (fun ls hl => ?_)
          refine lv_goto (tgt := 4) hx hb dX7_softSet_36 (by decide) ?_
          exact ih (q + 1) (acc ||| 0) _ _ _ (by omega) (by omega) (by simp [softH, ha, c_11, c_21]) (hP.sub (ws' := [(m0, OB 7 [.int th, .ref a1, .ref a2, .ref a3, .int (nI ud), .ref a5, .ref a6, .ref a7, .int (nI ln), .int (nI nx), .int (nI ts), .int tk, .int vl, .int er, .ref a14, .int rq, .ref a16]), (a1, AI G 568 sf)]) [0, 1] rfl) (hD.sub (ws' := [(m0, OB 7 [.int th, .ref a1, .ref a2, .ref a3, .int (nI ud), .ref a5, .ref a6, .ref a7, .int (nI ln), .int (nI nx), .int (nI ts), .int tk, .int vl, .int er, .ref a14, .int rq, .ref a16]), (a1, AI G 568 sf)]) [0, 1] (by decide) rfl) hS (lv_sub (l' := [(0, .ref m0), (1, .int (acc ||| 0)), (2, .int (nI (q + 1)))]) hl [2, 1, 0] rfl)
        ·
          refine lv_iconst (v := 1) hx hb dX7_softSet_24 (by decide) ?_
          refine lv_iload_n hx hb dX7_softSet_25 rfl (lv_at hl 2 rfl) ?_
          refine wn_bit hx hb (q) rfl rfl dX7_softSet_26 ?_
          refine lv_goto (tgt := 31) hx hb dX7_softSet_27 (by decide) ?_
          refine lv_ior hx hb dX7_softSet_31 ?_
          refine lv_istore_n (lv' := [(1, .int (acc ||| (bitI q))), (0, .ref m0), (2, .int (nI q))]) hx hb dX7_softSet_32 rfl hl (by decide) rfl (fun ls hl => ?_)
          refine lv_iinc (v := nI (q + 1)) (lv' := [(2, .int (nI (q + 1))), (1, .int (acc ||| (bitI q))), (0, .ref m0)]) hx hb dX7_softSet_33 hl (k := 2) rfl (nI_inc (q) 1) (by decide) rfl (fun ls hl => ?_)
          refine lv_goto (tgt := 4) hx hb dX7_softSet_36 (by decide) ?_
          exact ih (q + 1) (acc ||| (bitI q)) _ _ _ (by omega) (by omega) (by simp [softH, ha, c_11, c_21]) (hP.sub (ws' := [(m0, OB 7 [.int th, .ref a1, .ref a2, .ref a3, .int (nI ud), .ref a5, .ref a6, .ref a7, .int (nI ln), .int (nI nx), .int (nI ts), .int tk, .int vl, .int er, .ref a14, .int rq, .ref a16]), (a1, AI G 568 sf)]) [0, 1] rfl) (hD.sub (ws' := [(m0, OB 7 [.int th, .ref a1, .ref a2, .ref a3, .int (nI ud), .ref a5, .ref a6, .ref a7, .int (nI ln), .int (nI nx), .int (nI ts), .int tk, .int vl, .int er, .ref a14, .int rq, .ref a16]), (a1, AI G 568 sf)]) [0, 1] (by decide) rfl) hS (lv_sub (l' := [(0, .ref m0), (1, .int (acc ||| (bitI q))), (2, .int (nI (q + 1)))]) hl [2, 1, 0] rfl)
  exact L4 ((n - 0) + 1) 0 0 _ _ _ (Nat.lt_succ_self _) (Nat.zero_le _) (rfl) (hP.sub (ws' := [(m0, OB 7 [.int th, .ref a1, .ref a2, .ref a3, .int (nI ud), .ref a5, .ref a6, .ref a7, .int (nI ln), .int (nI nx), .int (nI ts), .int tk, .int vl, .int er, .ref a14, .int rq, .ref a16]), (a1, AI G 568 sf)]) [0, 1] rfl) (hD.sub (ws' := [(m0, OB 7 [.int th, .ref a1, .ref a2, .ref a3, .int (nI ud), .ref a5, .ref a6, .ref a7, .int (nI ln), .int (nI nx), .int (nI ts), .int tk, .int vl, .int er, .ref a14, .int rq, .ref a16]), (a1, AI G 568 sf)]) [0, 1] (by decide) rfl) hS (lv_sub (l' := [(0, .ref m0), (1, .int 0), (2, .int (nI 0))]) hl [2, 1, 0] rfl)
abbrev rmX7_hardSet : Room := { frames := 2, cells := 0, slots := 0, locals := 44 }
set_option maxHeartbeats 4000000 in
set_option maxRecDepth 100000 in
theorem c_X7_hardSet (l : Launch) (G : GT) (m0 a1 a2 a3 a5 a6 a7 a14 a16 : Nat) (th : Int32) (ud ln nx ts : Nat) (tk vl er rq : Int32) (sf : Nat → Int32) (n : Nat) (hc : sf 0 = nI n) (hn : n ≤ 10) : Ci l yX7_hardSet wsX7_hardSet rmX7_hardSet G [.ref m0] [(m0, OB 7 [.int th, .ref a1, .ref a2, .ref a3, .int (nI ud), .ref a5, .ref a6, .ref a7, .int (nI ln), .int (nI nx), .int (nI ts), .int tk, .int vl, .int er, .ref a14, .int rq, .ref a16]), (a1, AI G 568 sf)] (fun r u => r = hardS sf n ∧ u = [(m0, OB 7 [.int th, .ref a1, .ref a2, .ref a3, .int (nI ud), .ref a5, .ref a6, .ref a7, .int (nI ln), .int (nI nx), .int (nI ts), .int tk, .int vl, .int er, .ref a14, .int rq, .ref a16]), (a1, AI G 568 sf)]) := by
  refine Ci.of (cc := cX7_hardSet) (maxL := 1) (ty := .int) (by decide) rfl (Nat.le_of_ble_eq_true rfl) ?_
  intro p e s m below meth c A ls Q hx hb hml hts hown hA hS hP hK hN hSS hD hl ret
  have hown : s.vm.findClass RX7 = some m.cls := hown
  have hl : lv_has ls 1 [(0, .ref m0)] := hl
  have hi7 : ∀ w ∈ wsX70, w ∈ wsX7_hardSet := mem_places [11, 12, 13, 14, 15, 16, 17, 18, 19, 20, 21, 22, 23, 24, 25, 26, 27] (by decide +kernel)
  refine lv_iconst (v := 1) hx hb dX7_hardSet_0 (by decide) ?_
  refine lv_aload_n hx hb dX7_hardSet_1 rfl (lv_at hl 0 rfl) ?_
  refine va_get (D := G.1) (ci := 7) (v := .ref a1) (C := RX7) (T := TX7) (N := 17) hx hb hts hi7 hown hK hP 0 rfl rfl 1 (by decide) (hts (.fieldLink RX7 7 "ConflictEnumeratorModel" "s" "[I") (List.mem_of_getElem? (i := 1) rfl)) (fun _ h9 => h9) rfl dX7_hardSet_2 ?_
  refine lv_iconst (v := 0) hx hb dX7_hardSet_5 (by decide) ?_
  refine wa_iald hx hb hK hP 1 rfl (0) (rfl) (by omega) (by decide) dX7_hardSet_6 ?_
  rw [show sf 0 = nI n from hc]
  refine wn_bit hx hb (n) rfl rfl dX7_hardSet_7 ?_
  refine lv_iconst (v := 1) hx hb dX7_hardSet_8 (by decide) ?_
  refine lv_isub hx hb dX7_hardSet_9 ?_
  refine lv_aload_n hx hb dX7_hardSet_10 rfl (lv_at hl 0 rfl) ?_
  refine call_Vi (rest := [.int ((bitI n) - 1)]) (As := []) (wr := []) (c1 := 0) (s1 := 0) ⟨hx, hb, hml, hown, hts⟩ (c_X7_softSet l G m0 a1 a2 a3 a5 a6 a7 a14 a16 th ud ln nx ts tk vl er rq sf n (by first | assumption | omega) (by first | assumption | omega)) (cwV 0 hts gX7_hardSet_X7_softSet rfl rfl rfl (by decide +kernel) ⟨Nat.le_of_ble_eq_true rfl, Nat.le_of_ble_eq_true rfl⟩) hK hN hSS hP hD hS hA 0 7 rfl rfl rfl [0, 1] [] rfl rfl (by decide) (by decide) (by decide) rfl hl.1 rfl (Nat.le_of_ble_eq_true rfl) dX7_hardSet_11 ⟨Nat.le_of_ble_eq_true rfl, Nat.le_of_ble_eq_true rfl⟩ rfl rfl (fun r_11 u_11 H locs hpo hP hD hS => ?_)
  obtain ⟨hr9, rfl⟩ := hpo
  subst r_11
  have hP : va_P G.1 vwCl [(m0, OB 7 [.int th, .ref a1, .ref a2, .ref a3, .int (nI ud), .ref a5, .ref a6, .ref a7, .int (nI ln), .int (nI nx), .int (nI ts), .int tk, .int vl, .int er, .ref a14, .int rq, .ref a16]), (a1, AI G 568 sf)] H := hP
  have hD : va_D A [(m0, OB 7 [.int th, .ref a1, .ref a2, .ref a3, .int (nI ud), .ref a5, .ref a6, .ref a7, .int (nI ln), .int (nI nx), .int (nI ts), .int tk, .int vl, .int er, .ref a14, .int rq, .ref a16]), (a1, AI G 568 sf)] := hD
  refine lv_iconst (v := (-1)) hx hb dX7_hardSet_14 (by decide) ?_
  refine wn_inot hx hb rfl dX7_hardSet_15 ?_
  refine lv_iand hx hb dX7_hardSet_16 ?_
  exact ret (((bitI n) - 1) &&& (notI (softS sf n))) _ _ _ _ _ _ _ (Nat.le_of_ble_eq_true rfl) (Nat.le_of_ble_eq_true rfl) (rfl) (⟨rfl, rfl⟩) (hP.sub (ws' := [(m0, OB 7 [.int th, .ref a1, .ref a2, .ref a3, .int (nI ud), .ref a5, .ref a6, .ref a7, .int (nI ln), .int (nI nx), .int (nI ts), .int tk, .int vl, .int er, .ref a14, .int rq, .ref a16]), (a1, AI G 568 sf)]) [0, 1] rfl) (hD.sub (ws' := [(m0, OB 7 [.int th, .ref a1, .ref a2, .ref a3, .int (nI ud), .ref a5, .ref a6, .ref a7, .int (nI ln), .int (nI nx), .int (nI ts), .int tk, .int vl, .int er, .ref a14, .int rq, .ref a16]), (a1, AI G 568 sf)]) [0, 1] (by decide) rfl) hS dX7_hardSet_17
abbrev rmX7_isSelection : Room := { frames := 2, cells := 0, slots := 0, locals := 44 }
set_option maxHeartbeats 4000000 in
set_option maxRecDepth 100000 in
theorem c_X7_isSelection (l : Launch) (G : GT) (m0 a1 a2 a3 a5 a6 a7 a14 a16 : Nat) (th : Int32) (ud ln nx ts : Nat) (tk vl er rq : Int32) (sf : Nat → Int32) (n : Nat) (sel : Int32) (hc : sf 0 = nI n) (hn : n ≤ 10) : Ci l yX7_isSelection wsX7_isSelection rmX7_isSelection G [.ref m0, .int sel] [(m0, OB 7 [.int th, .ref a1, .ref a2, .ref a3, .int (nI ud), .ref a5, .ref a6, .ref a7, .int (nI ln), .int (nI nx), .int (nI ts), .int tk, .int vl, .int er, .ref a14, .int rq, .ref a16]), (a1, AI G 568 sf)] (fun r u => r = bI (selB sel (softS sf n)) ∧ u = [(m0, OB 7 [.int th, .ref a1, .ref a2, .ref a3, .int (nI ud), .ref a5, .ref a6, .ref a7, .int (nI ln), .int (nI nx), .int (nI ts), .int tk, .int vl, .int er, .ref a14, .int rq, .ref a16]), (a1, AI G 568 sf)]) := by
  refine Ci.of (cc := cX7_isSelection) (maxL := 2) (ty := .boolean) (by decide) rfl (Nat.le_of_ble_eq_true rfl) ?_
  intro p e s m below meth c A ls Q hx hb hml hts hown hA hS hP hK hN hSS hD hl ret
  have hown : s.vm.findClass RX7 = some m.cls := hown
  have hl : lv_has ls 2 [(0, .ref m0), (1, .int sel)] := hl
  refine lv_iload_n hx hb dX7_isSelection_0 rfl (lv_at hl 1 rfl) ?_
  refine lv_if_lt (tgt := 19) hx hb dX7_isSelection_1 (by decide) (fun c_1 => ?_) (fun c_1 => ?_)
  ·
    refine lv_iconst (v := 0) hx hb dX7_isSelection_19 (by decide) ?_
    exact ret 0 _ _ _ _ _ _ _ (Nat.le_of_ble_eq_true rfl) (Nat.le_of_ble_eq_true rfl) (rfl) (⟨by simp [bI, selB, c_1], rfl⟩) (hP.sub (ws' := [(m0, OB 7 [.int th, .ref a1, .ref a2, .ref a3, .int (nI ud), .ref a5, .ref a6, .ref a7, .int (nI ln), .int (nI nx), .int (nI ts), .int tk, .int vl, .int er, .ref a14, .int rq, .ref a16]), (a1, AI G 568 sf)]) [0, 1] rfl) (hD.sub (ws' := [(m0, OB 7 [.int th, .ref a1, .ref a2, .ref a3, .int (nI ud), .ref a5, .ref a6, .ref a7, .int (nI ln), .int (nI nx), .int (nI ts), .int tk, .int vl, .int er, .ref a14, .int rq, .ref a16]), (a1, AI G 568 sf)]) [0, 1] (by decide) rfl) hS dX7_isSelection_20
  ·
    refine lv_iload_n hx hb dX7_isSelection_4 rfl (lv_at hl 1 rfl) ?_
    refine lv_aload_n hx hb dX7_isSelection_5 rfl (lv_at hl 0 rfl) ?_
    refine call_Vi (rest := [.int sel]) (As := []) (wr := []) (c1 := 0) (s1 := 0) ⟨hx, hb, hml, hown, hts⟩ (c_X7_softSet l G m0 a1 a2 a3 a5 a6 a7 a14 a16 th ud ln nx ts tk vl er rq sf n (by first | assumption | omega) (by first | assumption | omega)) (cwV 0 hts gX7_isSelection_X7_softSet rfl rfl rfl (by decide +kernel) ⟨Nat.le_of_ble_eq_true rfl, Nat.le_of_ble_eq_true rfl⟩) hK hN hSS hP hD hS hA 0 7 rfl rfl rfl [0, 1] [] rfl rfl (by decide) (by decide) (by decide) rfl hl.1 rfl (Nat.le_of_ble_eq_true rfl) dX7_isSelection_6 ⟨Nat.le_of_ble_eq_true rfl, Nat.le_of_ble_eq_true rfl⟩ rfl rfl (fun r_6 u_6 H locs hpo hP hD hS => ?_)
    obtain ⟨hr9, rfl⟩ := hpo
    subst r_6
    have hP : va_P G.1 vwCl [(m0, OB 7 [.int th, .ref a1, .ref a2, .ref a3, .int (nI ud), .ref a5, .ref a6, .ref a7, .int (nI ln), .int (nI nx), .int (nI ts), .int tk, .int vl, .int er, .ref a14, .int rq, .ref a16]), (a1, AI G 568 sf)] H := hP
    have hD : va_D A [(m0, OB 7 [.int th, .ref a1, .ref a2, .ref a3, .int (nI ud), .ref a5, .ref a6, .ref a7, .int (nI ln), .int (nI nx), .int (nI ts), .int tk, .int vl, .int er, .ref a14, .int rq, .ref a16]), (a1, AI G 568 sf)] := hD
    refine lv_iconst (v := (-1)) hx hb dX7_isSelection_9 (by decide) ?_
    refine wn_inot hx hb rfl dX7_isSelection_10 ?_
    refine lv_iand hx hb dX7_isSelection_11 ?_
    refine lv_if_ne (tgt := 19) hx hb dX7_isSelection_12 (by decide) (fun c_12 => ?_) (fun c_12 => ?_)
    ·
      refine lv_iconst (v := 0) hx hb dX7_isSelection_19 (by decide) ?_
      exact ret 0 _ _ _ _ _ _ _ (Nat.le_of_ble_eq_true rfl) (Nat.le_of_ble_eq_true rfl) (rfl) (⟨by simp [bI, selB, c_1, c_12], rfl⟩) (hP.sub (ws' := [(m0, OB 7 [.int th, .ref a1, .ref a2, .ref a3, .int (nI ud), .ref a5, .ref a6, .ref a7, .int (nI ln), .int (nI nx), .int (nI ts), .int tk, .int vl, .int er, .ref a14, .int rq, .ref a16]), (a1, AI G 568 sf)]) [0, 1] rfl) (hD.sub (ws' := [(m0, OB 7 [.int th, .ref a1, .ref a2, .ref a3, .int (nI ud), .ref a5, .ref a6, .ref a7, .int (nI ln), .int (nI nx), .int (nI ts), .int tk, .int vl, .int er, .ref a14, .int rq, .ref a16]), (a1, AI G 568 sf)]) [0, 1] (by decide) rfl) hS dX7_isSelection_20
    ·
      refine lv_iconst (v := 1) hx hb dX7_isSelection_15 (by decide) ?_
      refine lv_goto (tgt := 20) hx hb dX7_isSelection_16 (by decide) ?_
      exact ret 1 _ _ _ _ _ _ _ (Nat.le_of_ble_eq_true rfl) (Nat.le_of_ble_eq_true rfl) (rfl) (⟨by simp [bI, selB, c_1, c_12], rfl⟩) (hP.sub (ws' := [(m0, OB 7 [.int th, .ref a1, .ref a2, .ref a3, .int (nI ud), .ref a5, .ref a6, .ref a7, .int (nI ln), .int (nI nx), .int (nI ts), .int tk, .int vl, .int er, .ref a14, .int rq, .ref a16]), (a1, AI G 568 sf)]) [0, 1] rfl) (hD.sub (ws' := [(m0, OB 7 [.int th, .ref a1, .ref a2, .ref a3, .int (nI ud), .ref a5, .ref a6, .ref a7, .int (nI ln), .int (nI nx), .int (nI ts), .int tk, .int vl, .int er, .ref a14, .int rq, .ref a16]), (a1, AI G 568 sf)]) [0, 1] (by decide) rfl) hS dX7_isSelection_20
abbrev rmX7_holds : Room := { frames := 1, cells := 0, slots := 0, locals := 22 }
set_option maxHeartbeats 4000000 in
set_option maxRecDepth 100000 in
theorem c_X7_holds (l : Launch) (G : GT) (m0 a1 a2 a3 a5 a6 a7 a14 a16 : Nat) (th : Int32) (ud ln nx ts : Nat) (tk vl er rq : Int32) (sf : Nat → Int32) (q a : Nat) (hc9 : q ≤ 10) : Ci l yX7_holds wsX7_holds rmX7_holds G [.ref m0, .int (nI q), .int (nI a)] [(m0, OB 7 [.int th, .ref a1, .ref a2, .ref a3, .int (nI ud), .ref a5, .ref a6, .ref a7, .int (nI ln), .int (nI nx), .int (nI ts), .int tk, .int vl, .int er, .ref a14, .int rq, .ref a16]), (a1, AI G 568 sf)] (fun r u => r = bI (holdC sf q a) ∧ u = [(m0, OB 7 [.int th, .ref a1, .ref a2, .ref a3, .int (nI ud), .ref a5, .ref a6, .ref a7, .int (nI ln), .int (nI nx), .int (nI ts), .int tk, .int vl, .int er, .ref a14, .int rq, .ref a16]), (a1, AI G 568 sf)]) := by
  refine Ci.of (cc := cX7_holds) (maxL := 6) (ty := .boolean) (by decide) rfl (Nat.le_of_ble_eq_true rfl) ?_
  intro p e s m below meth c A ls Q hx hb hml hts hown hA hS hP hK hN hSS hD hl ret
  have hown : s.vm.findClass RX7 = some m.cls := hown
  have hl : lv_has ls 6 [(0, .ref m0), (1, .int (nI q)), (2, .int (nI a))] := hl
  refine lv_iconst (v := 0) hx hb dX7_holds_0 (by decide) ?_
  refine lv_istore_n (lv' := [(3, .int 0), (0, .ref m0), (1, .int (nI q)), (2, .int (nI a))]) hx hb dX7_holds_1 rfl hl (by decide) rfl (fun ls hl => ?_)
  refine lv_iconst (v := 1) hx hb dX7_holds_2 (by decide) ?_
  refine lv_istore (lv' := [(4, .int 1), (3, .int 0), (0, .ref m0), (1, .int (nI q)), (2, .int (nI a))]) hx hb dX7_holds_3 hl (by decide) rfl (fun ls hl => ?_)
  have L5 : ∀ (kf : Nat) (v : Nat) (acc : Int32) (H : Heap) (locs : List Loc) (ls : Array Slot), 6 - v < kf → (v ≤ 6) → (acc = cntM (cA sf q 2) (cA sf q 3) a v) → va_P G.1 vwCl [(m0, OB 7 [.int th, .ref a1, .ref a2, .ref a3, .int (nI ud), .ref a5, .ref a6, .ref a7, .int (nI ln), .int (nI nx), .int (nI ts), .int tk, .int vl, .int er, .ref a14, .int rq, .ref a16]), (a1, AI G 568 sf)] H → va_D A [(m0, OB 7 [.int th, .ref a1, .ref a2, .ref a3, .int (nI ud), .ref a5, .ref a6, .ref a7, .int (nI ln), .int (nI nx), .int (nI ts), .int tk, .int vl, .int er, .ref a14, .int rq, .ref a16]), (a1, AI G 568 sf)] → va_S A s.heap H locs → lv_has ls 6 [(0, .ref m0), (1, .int (nI q)), (2, .int (nI a)), (3, .int acc), (4, .int (nI (v + 1)))] → W p l e rmX7_holds s m ([.ref m0, .int (nI q), .int (nI a)] : List Value).toArray below meth c H locs 0 0 Q (F0 m 5 ls []) := by
    intro kf
    induction kf with
    | zero => intro v acc H locs ls h; exact absurd h (Nat.not_lt_zero _)
    | succ kf ih =>
      intro v acc H locs ls hk hi ha hP hD hS hl
      refine lv_iload hx hb dX7_holds_5 (lv_at hl 4 rfl) ?_
      refine lv_bipush (v := 7) hx hb dX7_holds_7 (by decide) ?_
      refine lv_icmp_ge (tgt := 74) hx hb dX7_holds_9 (by decide) (fun c_9 => ?_) (fun c_9 => ?_)
      ·
        have c_9 : 7 ≤ (v + 1) := (nI_leI (a := 7) (b := v + 1) (by omega) (by omega)).mp c_9
        refine lv_aload_n hx hb dX7_holds_74 rfl (lv_at hl 0 rfl) ?_
        refine lv_iload_n hx hb dX7_holds_75 rfl (lv_at hl 1 rfl) ?_
        refine lv_iconst (v := 0) hx hb dX7_holds_76 (by decide) ?_
        refine call_Vi (rest := []) (As := [.int (nI q), .int 0]) (wr := []) (c1 := 0) (s1 := 0) ⟨hx, hb, hml, hown, hts⟩ (c_X7_of l G m0 a1 a2 a3 a5 a6 a7 a14 a16 th ud ln nx ts tk vl er rq sf q 0 (by first | assumption | omega)) (cwV 2 hts gX7_holds_X7_of rfl rfl rfl (by decide +kernel) ⟨Nat.le_of_ble_eq_true rfl, Nat.le_of_ble_eq_true rfl⟩) hK hN hSS hP hD hS hA 0 7 rfl rfl rfl [0, 1] [] rfl rfl (by decide) (by decide) (by decide) rfl hl.1 rfl (Nat.le_of_ble_eq_true rfl) dX7_holds_77 ⟨Nat.le_of_ble_eq_true rfl, Nat.le_of_ble_eq_true rfl⟩ rfl rfl (fun r_77 u_77 H locs hpo hP hD hS => ?_)
        obtain ⟨hr9, rfl⟩ := hpo
        subst r_77
        have hP : va_P G.1 vwCl [(m0, OB 7 [.int th, .ref a1, .ref a2, .ref a3, .int (nI ud), .ref a5, .ref a6, .ref a7, .int (nI ln), .int (nI nx), .int (nI ts), .int tk, .int vl, .int er, .ref a14, .int rq, .ref a16]), (a1, AI G 568 sf)] H := hP
        have hD : va_D A [(m0, OB 7 [.int th, .ref a1, .ref a2, .ref a3, .int (nI ud), .ref a5, .ref a6, .ref a7, .int (nI ln), .int (nI nx), .int (nI ts), .int tk, .int vl, .int er, .ref a14, .int rq, .ref a16]), (a1, AI G 568 sf)] := hD
        refine lv_istore (lv' := [(4, .int (cA sf q 0)), (0, .ref m0), (1, .int (nI q)), (2, .int (nI a)), (3, .int acc)]) hx hb dX7_holds_80 hl (by decide) rfl (fun ls hl => ?_)
        refine lv_iload hx hb dX7_holds_82 (lv_at hl 0 rfl) ?_
        refine lv_if_ne (tgt := 99) hx hb dX7_holds_84 (by decide) (fun c_84 => ?_) (fun c_84 => ?_)
        ·
          refine lv_iload hx hb dX7_holds_99 (lv_at hl 0 rfl) ?_
          refine lv_iconst (v := 1) hx hb dX7_holds_101 (by decide) ?_
          refine lv_icmp_ne (tgt := 120) hx hb dX7_holds_102 (by decide) (fun c_102 => ?_) (fun c_102 => ?_)
          ·
            refine lv_iload_n hx hb dX7_holds_120 rfl (lv_at hl 4 rfl) ?_
            refine lv_aload_n hx hb dX7_holds_121 rfl (lv_at hl 1 rfl) ?_
            refine lv_iload_n hx hb dX7_holds_122 rfl (lv_at hl 2 rfl) ?_
            refine lv_iconst (v := 1) hx hb dX7_holds_123 (by decide) ?_
            refine call_Vi (rest := [.int acc]) (As := [.int (nI q), .int 1]) (wr := []) (c1 := 0) (s1 := 0) ⟨hx, hb, hml, hown, hts⟩ (c_X7_of l G m0 a1 a2 a3 a5 a6 a7 a14 a16 th ud ln nx ts tk vl er rq sf q 1 (by first | assumption | omega)) (cwV 2 hts gX7_holds_X7_of rfl rfl rfl (by decide +kernel) ⟨Nat.le_of_ble_eq_true rfl, Nat.le_of_ble_eq_true rfl⟩) hK hN hSS hP hD hS hA 0 7 rfl rfl rfl [0, 1] [] rfl rfl (by decide) (by decide) (by decide) rfl hl.1 rfl (Nat.le_of_ble_eq_true rfl) dX7_holds_124 ⟨Nat.le_of_ble_eq_true rfl, Nat.le_of_ble_eq_true rfl⟩ rfl rfl (fun r_124 u_124 H locs hpo hP hD hS => ?_)
            obtain ⟨hr9, rfl⟩ := hpo
            subst r_124
            have hP : va_P G.1 vwCl [(m0, OB 7 [.int th, .ref a1, .ref a2, .ref a3, .int (nI ud), .ref a5, .ref a6, .ref a7, .int (nI ln), .int (nI nx), .int (nI ts), .int tk, .int vl, .int er, .ref a14, .int rq, .ref a16]), (a1, AI G 568 sf)] H := hP
            have hD : va_D A [(m0, OB 7 [.int th, .ref a1, .ref a2, .ref a3, .int (nI ud), .ref a5, .ref a6, .ref a7, .int (nI ln), .int (nI nx), .int (nI ts), .int tk, .int vl, .int er, .ref a14, .int rq, .ref a16]), (a1, AI G 568 sf)] := hD
            refine lv_icmp_gt (tgt := 134) hx hb dX7_holds_127 (by decide) (fun c_127 => ?_) (fun c_127 => ?_)
            ·
              refine lv_iconst (v := 0) hx hb dX7_holds_134 (by decide) ?_
              exact ret 0 _ _ _ _ _ _ _ (Nat.le_of_ble_eq_true rfl) (Nat.le_of_ble_eq_true rfl) (rfl) (⟨by obtain rfl : v = 6 := (by omega); subst ha; simp [bI, holdC, holdM, c_9, c_84, c_102, c_127], rfl⟩) (hP.sub (ws' := [(m0, OB 7 [.int th, .ref a1, .ref a2, .ref a3, .int (nI ud), .ref a5, .ref a6, .ref a7, .int (nI ln), .int (nI nx), .int (nI ts), .int tk, .int vl, .int er, .ref a14, .int rq, .ref a16]), (a1, AI G 568 sf)]) [0, 1] rfl) (hD.sub (ws' := [(m0, OB 7 [.int th, .ref a1, .ref a2, .ref a3, .int (nI ud), .ref a5, .ref a6, .ref a7, .int (nI ln), .int (nI nx), .int (nI ts), .int tk, .int vl, .int er, .ref a14, .int rq, .ref a16]), (a1, AI G 568 sf)]) [0, 1] (by decide) rfl) hS dX7_holds_135
            ·
              refine lv_iconst (v := 1) hx hb dX7_holds_130 (by decide) ?_
              refine lv_goto (tgt := 135) hx hb dX7_holds_131 (by decide) ?_
              exact ret 1 _ _ _ _ _ _ _ (Nat.le_of_ble_eq_true rfl) (Nat.le_of_ble_eq_true rfl) (rfl) (⟨by obtain rfl : v = 6 := (by omega); subst ha; simp [bI, holdC, holdM, c_9, c_84, c_102, c_127], rfl⟩) (hP.sub (ws' := [(m0, OB 7 [.int th, .ref a1, .ref a2, .ref a3, .int (nI ud), .ref a5, .ref a6, .ref a7, .int (nI ln), .int (nI nx), .int (nI ts), .int tk, .int vl, .int er, .ref a14, .int rq, .ref a16]), (a1, AI G 568 sf)]) [0, 1] rfl) (hD.sub (ws' := [(m0, OB 7 [.int th, .ref a1, .ref a2, .ref a3, .int (nI ud), .ref a5, .ref a6, .ref a7, .int (nI ln), .int (nI nx), .int (nI ts), .int tk, .int vl, .int er, .ref a14, .int rq, .ref a16]), (a1, AI G 568 sf)]) [0, 1] (by decide) rfl) hS dX7_holds_135
          ·
            refine lv_iload_n hx hb dX7_holds_105 rfl (lv_at hl 4 rfl) ?_
            refine lv_iconst (v := 2) hx hb dX7_holds_106 (by decide) ?_
            refine lv_irem hx hb dX7_holds_107 (by decide) ?_
            refine lv_iconst (v := 1) hx hb dX7_holds_108 (by decide) ?_
            refine lv_icmp_ne (tgt := 116) hx hb dX7_holds_109 (by decide) (fun c_109 => ?_) (fun c_109 => ?_)
            ·
              refine lv_iconst (v := 0) hx hb dX7_holds_116 (by decide) ?_
              refine lv_goto (tgt := 135) hx hb dX7_holds_117 (by decide) ?_
              exact ret 0 _ _ _ _ _ _ _ (Nat.le_of_ble_eq_true rfl) (Nat.le_of_ble_eq_true rfl) (rfl) (⟨by obtain rfl : v = 6 := (by omega); subst ha; simp [bI, holdC, holdM, c_9, c_84, c_102, c_109], rfl⟩) (hP.sub (ws' := [(m0, OB 7 [.int th, .ref a1, .ref a2, .ref a3, .int (nI ud), .ref a5, .ref a6, .ref a7, .int (nI ln), .int (nI nx), .int (nI ts), .int tk, .int vl, .int er, .ref a14, .int rq, .ref a16]), (a1, AI G 568 sf)]) [0, 1] rfl) (hD.sub (ws' := [(m0, OB 7 [.int th, .ref a1, .ref a2, .ref a3, .int (nI ud), .ref a5, .ref a6, .ref a7, .int (nI ln), .int (nI nx), .int (nI ts), .int tk, .int vl, .int er, .ref a14, .int rq, .ref a16]), (a1, AI G 568 sf)]) [0, 1] (by decide) rfl) hS dX7_holds_135
            ·
              refine lv_iconst (v := 1) hx hb dX7_holds_112 (by decide) ?_
              refine lv_goto (tgt := 135) hx hb dX7_holds_113 (by decide) ?_
              exact ret 1 _ _ _ _ _ _ _ (Nat.le_of_ble_eq_true rfl) (Nat.le_of_ble_eq_true rfl) (rfl) (⟨by obtain rfl : v = 6 := (by omega); subst ha; simp [bI, holdC, holdM, c_9, c_84, c_102, c_109], rfl⟩) (hP.sub (ws' := [(m0, OB 7 [.int th, .ref a1, .ref a2, .ref a3, .int (nI ud), .ref a5, .ref a6, .ref a7, .int (nI ln), .int (nI nx), .int (nI ts), .int tk, .int vl, .int er, .ref a14, .int rq, .ref a16]), (a1, AI G 568 sf)]) [0, 1] rfl) (hD.sub (ws' := [(m0, OB 7 [.int th, .ref a1, .ref a2, .ref a3, .int (nI ud), .ref a5, .ref a6, .ref a7, .int (nI ln), .int (nI nx), .int (nI ts), .int tk, .int vl, .int er, .ref a14, .int rq, .ref a16]), (a1, AI G 568 sf)]) [0, 1] (by decide) rfl) hS dX7_holds_135
        ·
          refine lv_iload_n hx hb dX7_holds_87 rfl (lv_at hl 4 rfl) ?_
          refine lv_if_le (tgt := 95) hx hb dX7_holds_88 (by decide) (fun c_88 => ?_) (fun c_88 => ?_)
          ·
            have c_88 : ¬ 0 < acc := Int32.not_lt.mpr c_88
            refine lv_iconst (v := 0) hx hb dX7_holds_95 (by decide) ?_
            refine lv_goto (tgt := 135) hx hb dX7_holds_96 (by decide) ?_
            exact ret 0 _ _ _ _ _ _ _ (Nat.le_of_ble_eq_true rfl) (Nat.le_of_ble_eq_true rfl) (rfl) (⟨by obtain rfl : v = 6 := (by omega); subst ha; simp [bI, holdC, holdM, c_9, c_84, c_88], rfl⟩) (hP.sub (ws' := [(m0, OB 7 [.int th, .ref a1, .ref a2, .ref a3, .int (nI ud), .ref a5, .ref a6, .ref a7, .int (nI ln), .int (nI nx), .int (nI ts), .int tk, .int vl, .int er, .ref a14, .int rq, .ref a16]), (a1, AI G 568 sf)]) [0, 1] rfl) (hD.sub (ws' := [(m0, OB 7 [.int th, .ref a1, .ref a2, .ref a3, .int (nI ud), .ref a5, .ref a6, .ref a7, .int (nI ln), .int (nI nx), .int (nI ts), .int tk, .int vl, .int er, .ref a14, .int rq, .ref a16]), (a1, AI G 568 sf)]) [0, 1] (by decide) rfl) hS dX7_holds_135
          ·
            have c_88 : 0 < acc := Int32.not_le.mp c_88
            refine lv_iconst (v := 1) hx hb dX7_holds_91 (by decide) ?_
            refine lv_goto (tgt := 135) hx hb dX7_holds_92 (by decide) ?_
            exact ret 1 _ _ _ _ _ _ _ (Nat.le_of_ble_eq_true rfl) (Nat.le_of_ble_eq_true rfl) (rfl) (⟨by obtain rfl : v = 6 := (by omega); subst ha; simp [bI, holdC, holdM, c_9, c_84, c_88], rfl⟩) (hP.sub (ws' := [(m0, OB 7 [.int th, .ref a1, .ref a2, .ref a3, .int (nI ud), .ref a5, .ref a6, .ref a7, .int (nI ln), .int (nI nx), .int (nI ts), .int tk, .int vl, .int er, .ref a14, .int rq, .ref a16]), (a1, AI G 568 sf)]) [0, 1] rfl) (hD.sub (ws' := [(m0, OB 7 [.int th, .ref a1, .ref a2, .ref a3, .int (nI ud), .ref a5, .ref a6, .ref a7, .int (nI ln), .int (nI nx), .int (nI ts), .int tk, .int vl, .int er, .ref a14, .int rq, .ref a16]), (a1, AI G 568 sf)]) [0, 1] (by decide) rfl) hS dX7_holds_135
      ·
        have c_9 : (v + 1) < 7 := by have h9 := mt (nI_leI (a := 7) (b := v + 1) (by omega) (by omega)).mpr c_9; omega
        refine lv_iload_n hx hb dX7_holds_12 rfl (lv_at hl 2 rfl) ?_
        refine lv_iload hx hb dX7_holds_13 (lv_at hl 4 rfl) ?_
        refine lv_iconst (v := 1) hx hb dX7_holds_15 (by decide) ?_
        refine wn_isub hx hb (v + 1) (1) rfl rfl (by omega) dX7_holds_16 ?_
        rw [show nI ((v + 1) - 1) = nI v from rfl]
        refine call_Si (rest := []) (As := [.int (nI a), .int (nI v)]) (wr := [(m0, OB 7 [.int th, .ref a1, .ref a2, .ref a3, .int (nI ud), .ref a5, .ref a6, .ref a7, .int (nI ln), .int (nI nx), .int (nI ts), .int tk, .int vl, .int er, .ref a14, .int rq, .ref a16]), (a1, AI G 568 sf)]) (c1 := 0) (s1 := 0) ⟨hx, hb, hml, hown, hts⟩ (c_X7_has l G (nI a) (nI v) ) (va_cwS 2 hts gX7_holds_X7_has rfl rfl rfl (by decide +kernel) ⟨Nat.le_of_ble_eq_true rfl, Nat.le_of_ble_eq_true rfl⟩) hK hN hSS hP hD hS hA [] [0, 1] rfl rfl (by decide) (by decide) (by decide) rfl hl.1 rfl (Nat.le_of_ble_eq_true rfl) dX7_holds_17 ⟨Nat.le_of_ble_eq_true rfl, Nat.le_of_ble_eq_true rfl⟩ rfl rfl (fun r_17 u_17 H locs hpo hP hD hS => ?_)
        obtain ⟨hr9, rfl⟩ := hpo
        subst r_17
        have hP : va_P G.1 vwCl [(m0, OB 7 [.int th, .ref a1, .ref a2, .ref a3, .int (nI ud), .ref a5, .ref a6, .ref a7, .int (nI ln), .int (nI nx), .int (nI ts), .int tk, .int vl, .int er, .ref a14, .int rq, .ref a16]), (a1, AI G 568 sf)] H := hP
        have hD : va_D A [(m0, OB 7 [.int th, .ref a1, .ref a2, .ref a3, .int (nI ud), .ref a5, .ref a6, .ref a7, .int (nI ln), .int (nI nx), .int (nI ts), .int tk, .int vl, .int er, .ref a14, .int rq, .ref a16]), (a1, AI G 568 sf)] := hD
        refine lv_aload_n hx hb dX7_holds_20 rfl (lv_at hl 0 rfl) ?_
        refine lv_iload_n hx hb dX7_holds_21 rfl (lv_at hl 1 rfl) ?_
        refine lv_iconst (v := 3) hx hb dX7_holds_22 (by decide) ?_
        refine call_Vi (rest := [.int (bI (hasI (nI a) (nI v)))]) (As := [.int (nI q), .int 3]) (wr := []) (c1 := 0) (s1 := 0) ⟨hx, hb, hml, hown, hts⟩ (c_X7_of l G m0 a1 a2 a3 a5 a6 a7 a14 a16 th ud ln nx ts tk vl er rq sf q 3 (by first | assumption | omega)) (cwV 2 hts gX7_holds_X7_of rfl rfl rfl (by decide +kernel) ⟨Nat.le_of_ble_eq_true rfl, Nat.le_of_ble_eq_true rfl⟩) hK hN hSS hP hD hS hA 0 7 rfl rfl rfl [0, 1] [] rfl rfl (by decide) (by decide) (by decide) rfl hl.1 rfl (Nat.le_of_ble_eq_true rfl) dX7_holds_23 ⟨Nat.le_of_ble_eq_true rfl, Nat.le_of_ble_eq_true rfl⟩ rfl rfl (fun r_23 u_23 H locs hpo hP hD hS => ?_)
        obtain ⟨hr9, rfl⟩ := hpo
        subst r_23
        have hP : va_P G.1 vwCl [(m0, OB 7 [.int th, .ref a1, .ref a2, .ref a3, .int (nI ud), .ref a5, .ref a6, .ref a7, .int (nI ln), .int (nI nx), .int (nI ts), .int tk, .int vl, .int er, .ref a14, .int rq, .ref a16]), (a1, AI G 568 sf)] H := hP
        have hD : va_D A [(m0, OB 7 [.int th, .ref a1, .ref a2, .ref a3, .int (nI ud), .ref a5, .ref a6, .ref a7, .int (nI ln), .int (nI nx), .int (nI ts), .int tk, .int vl, .int er, .ref a14, .int rq, .ref a16]), (a1, AI G 568 sf)] := hD
        refine lv_iload hx hb dX7_holds_26 (lv_at hl 4 rfl) ?_
        refine call_Si (rest := [.int (bI (hasI (nI a) (nI v)))]) (As := [.int (cA sf q 3), .int (nI (v + 1))]) (wr := [(m0, OB 7 [.int th, .ref a1, .ref a2, .ref a3, .int (nI ud), .ref a5, .ref a6, .ref a7, .int (nI ln), .int (nI nx), .int (nI ts), .int tk, .int vl, .int er, .ref a14, .int rq, .ref a16]), (a1, AI G 568 sf)]) (c1 := 0) (s1 := 0) ⟨hx, hb, hml, hown, hts⟩ (c_X7_has l G (cA sf q 3) (nI (v + 1)) ) (va_cwS 2 hts gX7_holds_X7_has rfl rfl rfl (by decide +kernel) ⟨Nat.le_of_ble_eq_true rfl, Nat.le_of_ble_eq_true rfl⟩) hK hN hSS hP hD hS hA [] [0, 1] rfl rfl (by decide) (by decide) (by decide) rfl hl.1 rfl (Nat.le_of_ble_eq_true rfl) dX7_holds_28 ⟨Nat.le_of_ble_eq_true rfl, Nat.le_of_ble_eq_true rfl⟩ rfl rfl (fun r_28 u_28 H locs hpo hP hD hS => ?_)
        obtain ⟨hr9, rfl⟩ := hpo
        subst r_28
        have hP : va_P G.1 vwCl [(m0, OB 7 [.int th, .ref a1, .ref a2, .ref a3, .int (nI ud), .ref a5, .ref a6, .ref a7, .int (nI ln), .int (nI nx), .int (nI ts), .int tk, .int vl, .int er, .ref a14, .int rq, .ref a16]), (a1, AI G 568 sf)] H := hP
        have hD : va_D A [(m0, OB 7 [.int th, .ref a1, .ref a2, .ref a3, .int (nI ud), .ref a5, .ref a6, .ref a7, .int (nI ln), .int (nI nx), .int (nI ts), .int tk, .int vl, .int er, .ref a14, .int rq, .ref a16]), (a1, AI G 568 sf)] := hD
        refine lv_icmp_eq (tgt := 38) hx hb dX7_holds_31 (by decide) (fun c_31 => ?_) (fun c_31 => ?_)
        ·
          have c_31 := bI_inj.mp c_31
          refine lv_iconst (v := 0) hx hb dX7_holds_38 (by decide) ?_
          refine lv_istore (lv' := [(5, .int 0), (0, .ref m0), (1, .int (nI q)), (2, .int (nI a)), (3, .int acc), (4, .int (nI (v + 1)))]) hx hb dX7_holds_39 hl (by decide) rfl (fun ls hl => ?_)
          refine lv_iload_n hx hb dX7_holds_41 rfl (lv_at hl 4 rfl) ?_
          refine lv_aload_n hx hb dX7_holds_42 rfl (lv_at hl 1 rfl) ?_
          refine lv_iload_n hx hb dX7_holds_43 rfl (lv_at hl 2 rfl) ?_
          refine lv_iconst (v := 2) hx hb dX7_holds_44 (by decide) ?_
          refine call_Vi (rest := [.int acc]) (As := [.int (nI q), .int 2]) (wr := []) (c1 := 0) (s1 := 0) ⟨hx, hb, hml, hown, hts⟩ (c_X7_of l G m0 a1 a2 a3 a5 a6 a7 a14 a16 th ud ln nx ts tk vl er rq sf q 2 (by first | assumption | omega)) (cwV 2 hts gX7_holds_X7_of rfl rfl rfl (by decide +kernel) ⟨Nat.le_of_ble_eq_true rfl, Nat.le_of_ble_eq_true rfl⟩) hK hN hSS hP hD hS hA 0 7 rfl rfl rfl [0, 1] [] rfl rfl (by decide) (by decide) (by decide) rfl hl.1 rfl (Nat.le_of_ble_eq_true rfl) dX7_holds_45 ⟨Nat.le_of_ble_eq_true rfl, Nat.le_of_ble_eq_true rfl⟩ rfl rfl (fun r_45 u_45 H locs hpo hP hD hS => ?_)
          obtain ⟨hr9, rfl⟩ := hpo
          subst r_45
          have hP : va_P G.1 vwCl [(m0, OB 7 [.int th, .ref a1, .ref a2, .ref a3, .int (nI ud), .ref a5, .ref a6, .ref a7, .int (nI ln), .int (nI nx), .int (nI ts), .int tk, .int vl, .int er, .ref a14, .int rq, .ref a16]), (a1, AI G 568 sf)] H := hP
          have hD : va_D A [(m0, OB 7 [.int th, .ref a1, .ref a2, .ref a3, .int (nI ud), .ref a5, .ref a6, .ref a7, .int (nI ln), .int (nI nx), .int (nI ts), .int tk, .int vl, .int er, .ref a14, .int rq, .ref a16]), (a1, AI G 568 sf)] := hD
          refine lv_iload hx hb dX7_holds_48 (lv_at hl 5 rfl) ?_
          refine call_Si (rest := [.int acc]) (As := [.int (cA sf q 2), .int (nI (v + 1))]) (wr := [(m0, OB 7 [.int th, .ref a1, .ref a2, .ref a3, .int (nI ud), .ref a5, .ref a6, .ref a7, .int (nI ln), .int (nI nx), .int (nI ts), .int tk, .int vl, .int er, .ref a14, .int rq, .ref a16]), (a1, AI G 568 sf)]) (c1 := 0) (s1 := 0) ⟨hx, hb, hml, hown, hts⟩ (c_X7_has l G (cA sf q 2) (nI (v + 1)) ) (va_cwS 2 hts gX7_holds_X7_has rfl rfl rfl (by decide +kernel) ⟨Nat.le_of_ble_eq_true rfl, Nat.le_of_ble_eq_true rfl⟩) hK hN hSS hP hD hS hA [] [0, 1] rfl rfl (by decide) (by decide) (by decide) rfl hl.1 rfl (Nat.le_of_ble_eq_true rfl) dX7_holds_50 ⟨Nat.le_of_ble_eq_true rfl, Nat.le_of_ble_eq_true rfl⟩ rfl rfl (fun r_50 u_50 H locs hpo hP hD hS => ?_)
          obtain ⟨hr9, rfl⟩ := hpo
          subst r_50
          have hP : va_P G.1 vwCl [(m0, OB 7 [.int th, .ref a1, .ref a2, .ref a3, .int (nI ud), .ref a5, .ref a6, .ref a7, .int (nI ln), .int (nI nx), .int (nI ts), .int tk, .int vl, .int er, .ref a14, .int rq, .ref a16]), (a1, AI G 568 sf)] H := hP
          have hD : va_D A [(m0, OB 7 [.int th, .ref a1, .ref a2, .ref a3, .int (nI ud), .ref a5, .ref a6, .ref a7, .int (nI ln), .int (nI nx), .int (nI ts), .int tk, .int vl, .int er, .ref a14, .int rq, .ref a16]), (a1, AI G 568 sf)] := hD
          refine wb_eq (tgt := 65) hx hb dX7_holds_53 (by decide) (fun c_53 => ?_) (fun c_53 => ?_)
          ·
            refine lv_iconst (v := 0) hx hb dX7_holds_65 (by decide) ?_
            refine lv_iadd hx hb dX7_holds_66 ?_
            refine lv_istore_n (lv' := [(3, .int (acc + 0)), (5, .int 0), (0, .ref m0), (1, .int (nI q)), (2, .int (nI a)), (4, .int (nI (v + 1)))]) hx hb dX7_holds_67 rfl hl (by decide) rfl (fun ls hl => ?_)
            refine lv_iinc (v := nI (v + 1 + 1)) (lv' := [(4, .int (nI (v + 1 + 1))), (3, .int (acc + 0)), (5, .int 0), (0, .ref m0), (1, .int (nI q)), (2, .int (nI a))]) hx hb dX7_holds_68 hl (k := 5) rfl (nI_inc (v + 1) 1) (by decide) rfl (fun ls hl => ?_)
            refine lv_goto (tgt := 5) hx hb dX7_holds_71 (by decide) ?_
            exact ih (v + 1) (acc + 0) _ _ _ (by omega) (by omega) (by simp [cntM, ha, c_9, c_31, c_53]) (hP.sub (ws' := [(m0, OB 7 [.int th, .ref a1, .ref a2, .ref a3, .int (nI ud), .ref a5, .ref a6, .ref a7, .int (nI ln), .int (nI nx), .int (nI ts), .int tk, .int vl, .int er, .ref a14, .int rq, .ref a16]), (a1, AI G 568 sf)]) [0, 1] rfl) (hD.sub (ws' := [(m0, OB 7 [.int th, .ref a1, .ref a2, .ref a3, .int (nI ud), .ref a5, .ref a6, .ref a7, .int (nI ln), .int (nI nx), .int (nI ts), .int tk, .int vl, .int er, .ref a14, .int rq, .ref a16]), (a1, AI G 568 sf)]) [0, 1] (by decide) rfl) hS (lv_sub (l' := [(0, .ref m0), (1, .int (nI q)), (2, .int (nI a)), (3, .int (acc + 0)), (4, .int (nI ((v + 1) + 1)))]) hl [3, 4, 5, 1, 0] rfl)
          ·
            refine lv_iload hx hb dX7_holds_56 (lv_at hl 0 rfl) ?_
            refine lv_if_eq (tgt := 65) hx hb dX7_holds_58 (by decide) (fun c_58 => ?_) (fun c_58 => absurd c_58 (by decide))
            refine lv_iconst (v := 0) hx hb dX7_holds_65 (by decide) ?_
            refine lv_iadd hx hb dX7_holds_66 ?_
            refine lv_istore_n (lv' := [(3, .int (acc + 0)), (5, .int 0), (0, .ref m0), (1, .int (nI q)), (2, .int (nI a)), (4, .int (nI (v + 1)))]) hx hb dX7_holds_67 rfl hl (by decide) rfl (fun ls hl => ?_)
            refine lv_iinc (v := nI (v + 1 + 1)) (lv' := [(4, .int (nI (v + 1 + 1))), (3, .int (acc + 0)), (5, .int 0), (0, .ref m0), (1, .int (nI q)), (2, .int (nI a))]) hx hb dX7_holds_68 hl (k := 5) rfl (nI_inc (v + 1) 1) (by decide) rfl (fun ls hl => ?_)
            refine lv_goto (tgt := 5) hx hb dX7_holds_71 (by decide) ?_
            exact ih (v + 1) (acc + 0) _ _ _ (by omega) (by omega) (by simp [cntM, ha, c_9, c_31, c_53, c_58]) (hP.sub (ws' := [(m0, OB 7 [.int th, .ref a1, .ref a2, .ref a3, .int (nI ud), .ref a5, .ref a6, .ref a7, .int (nI ln), .int (nI nx), .int (nI ts), .int tk, .int vl, .int er, .ref a14, .int rq, .ref a16]), (a1, AI G 568 sf)]) [0, 1] rfl) (hD.sub (ws' := [(m0, OB 7 [.int th, .ref a1, .ref a2, .ref a3, .int (nI ud), .ref a5, .ref a6, .ref a7, .int (nI ln), .int (nI nx), .int (nI ts), .int tk, .int vl, .int er, .ref a14, .int rq, .ref a16]), (a1, AI G 568 sf)]) [0, 1] (by decide) rfl) hS (lv_sub (l' := [(0, .ref m0), (1, .int (nI q)), (2, .int (nI a)), (3, .int (acc + 0)), (4, .int (nI ((v + 1) + 1)))]) hl [3, 4, 5, 1, 0] rfl)
        ·
          have c_31 := mt bI_inj.mpr c_31
          refine lv_iconst (v := 1) hx hb dX7_holds_34 (by decide) ?_
          refine lv_goto (tgt := 39) hx hb dX7_holds_35 (by decide) ?_
          refine lv_istore (lv' := [(5, .int 1), (0, .ref m0), (1, .int (nI q)), (2, .int (nI a)), (3, .int acc), (4, .int (nI (v + 1)))]) hx hb dX7_holds_39 hl (by decide) rfl (fun ls hl => ?_)
          refine lv_iload_n hx hb dX7_holds_41 rfl (lv_at hl 4 rfl) ?_
          refine lv_aload_n hx hb dX7_holds_42 rfl (lv_at hl 1 rfl) ?_
          refine lv_iload_n hx hb dX7_holds_43 rfl (lv_at hl 2 rfl) ?_
          refine lv_iconst (v := 2) hx hb dX7_holds_44 (by decide) ?_
          refine call_Vi (rest := [.int acc]) (As := [.int (nI q), .int 2]) (wr := []) (c1 := 0) (s1 := 0) ⟨hx, hb, hml, hown, hts⟩ (c_X7_of l G m0 a1 a2 a3 a5 a6 a7 a14 a16 th ud ln nx ts tk vl er rq sf q 2 (by first | assumption | omega)) (cwV 2 hts gX7_holds_X7_of rfl rfl rfl (by decide +kernel) ⟨Nat.le_of_ble_eq_true rfl, Nat.le_of_ble_eq_true rfl⟩) hK hN hSS hP hD hS hA 0 7 rfl rfl rfl [0, 1] [] rfl rfl (by decide) (by decide) (by decide) rfl hl.1 rfl (Nat.le_of_ble_eq_true rfl) dX7_holds_45 ⟨Nat.le_of_ble_eq_true rfl, Nat.le_of_ble_eq_true rfl⟩ rfl rfl (fun r_45 u_45 H locs hpo hP hD hS => ?_)
          obtain ⟨hr9, rfl⟩ := hpo
          subst r_45
          have hP : va_P G.1 vwCl [(m0, OB 7 [.int th, .ref a1, .ref a2, .ref a3, .int (nI ud), .ref a5, .ref a6, .ref a7, .int (nI ln), .int (nI nx), .int (nI ts), .int tk, .int vl, .int er, .ref a14, .int rq, .ref a16]), (a1, AI G 568 sf)] H := hP
          have hD : va_D A [(m0, OB 7 [.int th, .ref a1, .ref a2, .ref a3, .int (nI ud), .ref a5, .ref a6, .ref a7, .int (nI ln), .int (nI nx), .int (nI ts), .int tk, .int vl, .int er, .ref a14, .int rq, .ref a16]), (a1, AI G 568 sf)] := hD
          refine lv_iload hx hb dX7_holds_48 (lv_at hl 5 rfl) ?_
          refine call_Si (rest := [.int acc]) (As := [.int (cA sf q 2), .int (nI (v + 1))]) (wr := [(m0, OB 7 [.int th, .ref a1, .ref a2, .ref a3, .int (nI ud), .ref a5, .ref a6, .ref a7, .int (nI ln), .int (nI nx), .int (nI ts), .int tk, .int vl, .int er, .ref a14, .int rq, .ref a16]), (a1, AI G 568 sf)]) (c1 := 0) (s1 := 0) ⟨hx, hb, hml, hown, hts⟩ (c_X7_has l G (cA sf q 2) (nI (v + 1)) ) (va_cwS 2 hts gX7_holds_X7_has rfl rfl rfl (by decide +kernel) ⟨Nat.le_of_ble_eq_true rfl, Nat.le_of_ble_eq_true rfl⟩) hK hN hSS hP hD hS hA [] [0, 1] rfl rfl (by decide) (by decide) (by decide) rfl hl.1 rfl (Nat.le_of_ble_eq_true rfl) dX7_holds_50 ⟨Nat.le_of_ble_eq_true rfl, Nat.le_of_ble_eq_true rfl⟩ rfl rfl (fun r_50 u_50 H locs hpo hP hD hS => ?_)
          obtain ⟨hr9, rfl⟩ := hpo
          subst r_50
          have hP : va_P G.1 vwCl [(m0, OB 7 [.int th, .ref a1, .ref a2, .ref a3, .int (nI ud), .ref a5, .ref a6, .ref a7, .int (nI ln), .int (nI nx), .int (nI ts), .int tk, .int vl, .int er, .ref a14, .int rq, .ref a16]), (a1, AI G 568 sf)] H := hP
          have hD : va_D A [(m0, OB 7 [.int th, .ref a1, .ref a2, .ref a3, .int (nI ud), .ref a5, .ref a6, .ref a7, .int (nI ln), .int (nI nx), .int (nI ts), .int tk, .int vl, .int er, .ref a14, .int rq, .ref a16]), (a1, AI G 568 sf)] := hD
          refine wb_eq (tgt := 65) hx hb dX7_holds_53 (by decide) (fun c_53 => ?_) (fun c_53 => ?_)
          ·
            refine lv_iconst (v := 0) hx hb dX7_holds_65 (by decide) ?_
            refine lv_iadd hx hb dX7_holds_66 ?_
            refine lv_istore_n (lv' := [(3, .int (acc + 0)), (5, .int 1), (0, .ref m0), (1, .int (nI q)), (2, .int (nI a)), (4, .int (nI (v + 1)))]) hx hb dX7_holds_67 rfl hl (by decide) rfl (fun ls hl => ?_)
            refine lv_iinc (v := nI (v + 1 + 1)) (lv' := [(4, .int (nI (v + 1 + 1))), (3, .int (acc + 0)), (5, .int 1), (0, .ref m0), (1, .int (nI q)), (2, .int (nI a))]) hx hb dX7_holds_68 hl (k := 5) rfl (nI_inc (v + 1) 1) (by decide) rfl (fun ls hl => ?_)
            refine lv_goto (tgt := 5) hx hb dX7_holds_71 (by decide) ?_
            exact ih (v + 1) (acc + 0) _ _ _ (by omega) (by omega) (by simp [cntM, ha, c_9, c_31, c_53]) (hP.sub (ws' := [(m0, OB 7 [.int th, .ref a1, .ref a2, .ref a3, .int (nI ud), .ref a5, .ref a6, .ref a7, .int (nI ln), .int (nI nx), .int (nI ts), .int tk, .int vl, .int er, .ref a14, .int rq, .ref a16]), (a1, AI G 568 sf)]) [0, 1] rfl) (hD.sub (ws' := [(m0, OB 7 [.int th, .ref a1, .ref a2, .ref a3, .int (nI ud), .ref a5, .ref a6, .ref a7, .int (nI ln), .int (nI nx), .int (nI ts), .int tk, .int vl, .int er, .ref a14, .int rq, .ref a16]), (a1, AI G 568 sf)]) [0, 1] (by decide) rfl) hS (lv_sub (l' := [(0, .ref m0), (1, .int (nI q)), (2, .int (nI a)), (3, .int (acc + 0)), (4, .int (nI ((v + 1) + 1)))]) hl [3, 4, 5, 1, 0] rfl)
          ·
            refine lv_iload hx hb dX7_holds_56 (lv_at hl 0 rfl) ?_
            refine lv_if_eq (tgt := 65) hx hb dX7_holds_58 (by decide) (fun c_58 => absurd c_58 (by decide)) (fun c_58 => ?_)
            refine lv_iconst (v := 1) hx hb dX7_holds_61 (by decide) ?_
            refine lv_goto (tgt := 66) hx hb dX7_holds_62 (by decide) ?_
            refine lv_iadd hx hb dX7_holds_66 ?_
            refine lv_istore_n (lv' := [(3, .int (acc + 1)), (5, .int 1), (0, .ref m0), (1, .int (nI q)), (2, .int (nI a)), (4, .int (nI (v + 1)))]) hx hb dX7_holds_67 rfl hl (by decide) rfl (fun ls hl => ?_)
            refine lv_iinc (v := nI (v + 1 + 1)) (lv' := [(4, .int (nI (v + 1 + 1))), (3, .int (acc + 1)), (5, .int 1), (0, .ref m0), (1, .int (nI q)), (2, .int (nI a))]) hx hb dX7_holds_68 hl (k := 5) rfl (nI_inc (v + 1) 1) (by decide) rfl (fun ls hl => ?_)
            refine lv_goto (tgt := 5) hx hb dX7_holds_71 (by decide) ?_
            exact ih (v + 1) (acc + 1) _ _ _ (by omega) (by omega) (by simp [cntM, ha, c_9, c_31, c_53, c_58]) (hP.sub (ws' := [(m0, OB 7 [.int th, .ref a1, .ref a2, .ref a3, .int (nI ud), .ref a5, .ref a6, .ref a7, .int (nI ln), .int (nI nx), .int (nI ts), .int tk, .int vl, .int er, .ref a14, .int rq, .ref a16]), (a1, AI G 568 sf)]) [0, 1] rfl) (hD.sub (ws' := [(m0, OB 7 [.int th, .ref a1, .ref a2, .ref a3, .int (nI ud), .ref a5, .ref a6, .ref a7, .int (nI ln), .int (nI nx), .int (nI ts), .int tk, .int vl, .int er, .ref a14, .int rq, .ref a16]), (a1, AI G 568 sf)]) [0, 1] (by decide) rfl) hS (lv_sub (l' := [(0, .ref m0), (1, .int (nI q)), (2, .int (nI a)), (3, .int (acc + 1)), (4, .int (nI ((v + 1) + 1)))]) hl [3, 4, 5, 1, 0] rfl)
  exact L5 ((6 - 0) + 1) 0 0 _ _ _ (Nat.lt_succ_self _) (Nat.zero_le _) (rfl) (hP.sub (ws' := [(m0, OB 7 [.int th, .ref a1, .ref a2, .ref a3, .int (nI ud), .ref a5, .ref a6, .ref a7, .int (nI ln), .int (nI nx), .int (nI ts), .int tk, .int vl, .int er, .ref a14, .int rq, .ref a16]), (a1, AI G 568 sf)]) [0, 1] rfl) (hD.sub (ws' := [(m0, OB 7 [.int th, .ref a1, .ref a2, .ref a3, .int (nI ud), .ref a5, .ref a6, .ref a7, .int (nI ln), .int (nI nx), .int (nI ts), .int tk, .int vl, .int er, .ref a14, .int rq, .ref a16]), (a1, AI G 568 sf)]) [0, 1] (by decide) rfl) hS (lv_sub (l' := [(0, .ref m0), (1, .int (nI q)), (2, .int (nI a)), (3, .int 0), (4, .int (nI (0 + 1)))]) hl [2, 3, 4, 1, 0] rfl)
abbrev rmX7_violatedBy : Room := { frames := 2, cells := 0, slots := 0, locals := 47 }
set_option maxHeartbeats 4000000 in
set_option maxRecDepth 100000 in
theorem c_X7_violatedBy (l : Launch) (G : GT) (m0 a1 a2 a3 a5 a6 a7 a14 a16 : Nat) (th : Int32) (ud ln nx ts : Nat) (tk vl er rq : Int32) (sf : Nat → Int32) (n : Nat) (a : Nat) (hc : sf 0 = nI n) (hn : n ≤ 10) : Ci l yX7_violatedBy wsX7_violatedBy rmX7_violatedBy G [.ref m0, .int (nI a)] [(m0, OB 7 [.int th, .ref a1, .ref a2, .ref a3, .int (nI ud), .ref a5, .ref a6, .ref a7, .int (nI ln), .int (nI nx), .int (nI ts), .int tk, .int vl, .int er, .ref a14, .int rq, .ref a16]), (a1, AI G 568 sf)] (fun r u => r = vioM sf a n ∧ u = [(m0, OB 7 [.int th, .ref a1, .ref a2, .ref a3, .int (nI ud), .ref a5, .ref a6, .ref a7, .int (nI ln), .int (nI nx), .int (nI ts), .int tk, .int vl, .int er, .ref a14, .int rq, .ref a16]), (a1, AI G 568 sf)]) := by
  refine Ci.of (cc := cX7_violatedBy) (maxL := 4) (ty := .int) (by decide) rfl (Nat.le_of_ble_eq_true rfl) ?_
  intro p e s m below meth c A ls Q hx hb hml hts hown hA hS hP hK hN hSS hD hl ret
  have hown : s.vm.findClass RX7 = some m.cls := hown
  have hl : lv_has ls 4 [(0, .ref m0), (1, .int (nI a))] := hl
  have hi7 : ∀ w ∈ wsX70, w ∈ wsX7_violatedBy := mem_places [14, 15, 16, 17, 18, 19, 20, 21, 22, 23, 24, 25, 26, 27, 28, 29, 30] (by decide +kernel)
  refine lv_iconst (v := 0) hx hb dX7_violatedBy_0 (by decide) ?_
  refine lv_istore_n (lv' := [(2, .int 0), (0, .ref m0), (1, .int (nI a))]) hx hb dX7_violatedBy_1 rfl hl (by decide) rfl (fun ls hl => ?_)
  refine lv_iconst (v := 0) hx hb dX7_violatedBy_2 (by decide) ?_
  refine lv_istore_n (lv' := [(3, .int 0), (2, .int 0), (0, .ref m0), (1, .int (nI a))]) hx hb dX7_violatedBy_3 rfl hl (by decide) rfl (fun ls hl => ?_)
  have L4 : ∀ (kf : Nat) (q : Nat) (acc : Int32) (H : Heap) (locs : List Loc) (ls : Array Slot), n - q < kf → (q ≤ n) → (acc = vioM sf a q) → va_P G.1 vwCl [(m0, OB 7 [.int th, .ref a1, .ref a2, .ref a3, .int (nI ud), .ref a5, .ref a6, .ref a7, .int (nI ln), .int (nI nx), .int (nI ts), .int tk, .int vl, .int er, .ref a14, .int rq, .ref a16]), (a1, AI G 568 sf)] H → va_D A [(m0, OB 7 [.int th, .ref a1, .ref a2, .ref a3, .int (nI ud), .ref a5, .ref a6, .ref a7, .int (nI ln), .int (nI nx), .int (nI ts), .int tk, .int vl, .int er, .ref a14, .int rq, .ref a16]), (a1, AI G 568 sf)] → va_S A s.heap H locs → lv_has ls 4 [(0, .ref m0), (1, .int (nI a)), (2, .int acc), (3, .int (nI q))] → W p l e rmX7_violatedBy s m ([.ref m0, .int (nI a)] : List Value).toArray below meth c H locs 0 0 Q (F0 m 4 ls []) := by
    intro kf
    induction kf with
    | zero => intro q acc H locs ls h; exact absurd h (Nat.not_lt_zero _)
    | succ kf ih =>
      intro q acc H locs ls hk hi ha hP hD hS hl
      refine lv_iload_n hx hb dX7_violatedBy_4 rfl (lv_at hl 3 rfl) ?_
      refine lv_aload_n hx hb dX7_violatedBy_5 rfl (lv_at hl 0 rfl) ?_
      refine va_get (D := G.1) (ci := 7) (v := .ref a1) (C := RX7) (T := TX7) (N := 17) hx hb hts hi7 hown hK hP 0 rfl rfl 1 (by decide) (hts (.fieldLink RX7 7 "ConflictEnumeratorModel" "s" "[I") (List.mem_of_getElem? (i := 1) rfl)) (fun _ h9 => h9) rfl dX7_violatedBy_6 ?_
      refine lv_iconst (v := 0) hx hb dX7_violatedBy_9 (by decide) ?_
      refine wa_iald hx hb hK hP 1 rfl (0) (rfl) (by omega) (by decide) dX7_violatedBy_10 ?_
      rw [show sf 0 = nI n from hc]
      refine lv_icmp_ge (tgt := 39) hx hb dX7_violatedBy_11 (by decide) (fun c_11 => ?_) (fun c_11 => ?_)
      ·
        have c_11 : n ≤ q := (nI_leI (a := n) (b := q) (by omega) (by omega)).mp c_11
        refine lv_iload_n hx hb dX7_violatedBy_39 rfl (lv_at hl 2 rfl) ?_
        exact ret acc _ _ _ _ _ _ _ (Nat.le_of_ble_eq_true rfl) (Nat.le_of_ble_eq_true rfl) (rfl) (⟨by rw [ha, show q = n by omega], rfl⟩) (hP.sub (ws' := [(m0, OB 7 [.int th, .ref a1, .ref a2, .ref a3, .int (nI ud), .ref a5, .ref a6, .ref a7, .int (nI ln), .int (nI nx), .int (nI ts), .int tk, .int vl, .int er, .ref a14, .int rq, .ref a16]), (a1, AI G 568 sf)]) [0, 1] rfl) (hD.sub (ws' := [(m0, OB 7 [.int th, .ref a1, .ref a2, .ref a3, .int (nI ud), .ref a5, .ref a6, .ref a7, .int (nI ln), .int (nI nx), .int (nI ts), .int tk, .int vl, .int er, .ref a14, .int rq, .ref a16]), (a1, AI G 568 sf)]) [0, 1] (by decide) rfl) hS dX7_violatedBy_40
      ·
        have c_11 : q < n := by have h9 := mt (nI_leI (a := n) (b := q) (by omega) (by omega)).mpr c_11; omega
        refine lv_iload_n hx hb dX7_violatedBy_14 rfl (lv_at hl 2 rfl) ?_
        refine lv_aload_n hx hb dX7_violatedBy_15 rfl (lv_at hl 0 rfl) ?_
        refine lv_iload_n hx hb dX7_violatedBy_16 rfl (lv_at hl 3 rfl) ?_
        refine lv_iload_n hx hb dX7_violatedBy_17 rfl (lv_at hl 1 rfl) ?_
        refine call_Vi (rest := [.int acc]) (As := [.int (nI q), .int (nI a)]) (wr := []) (c1 := 0) (s1 := 0) ⟨hx, hb, hml, hown, hts⟩ (c_X7_holds l G m0 a1 a2 a3 a5 a6 a7 a14 a16 th ud ln nx ts tk vl er rq sf q a (by first | assumption | omega)) (cwV 2 hts gX7_violatedBy_X7_holds rfl rfl rfl (by decide +kernel) ⟨Nat.le_of_ble_eq_true rfl, Nat.le_of_ble_eq_true rfl⟩) hK hN hSS hP hD hS hA 0 7 rfl rfl rfl [0, 1] [] rfl rfl (by decide) (by decide) (by decide) rfl hl.1 rfl (Nat.le_of_ble_eq_true rfl) dX7_violatedBy_18 ⟨Nat.le_of_ble_eq_true rfl, Nat.le_of_ble_eq_true rfl⟩ rfl rfl (fun r_18 u_18 H locs hpo hP hD hS => ?_)
        obtain ⟨hr9, rfl⟩ := hpo
        subst r_18
        have hP : va_P G.1 vwCl [(m0, OB 7 [.int th, .ref a1, .ref a2, .ref a3, .int (nI ud), .ref a5, .ref a6, .ref a7, .int (nI ln), .int (nI nx), .int (nI ts), .int tk, .int vl, .int er, .ref a14, .int rq, .ref a16]), (a1, AI G 568 sf)] H := hP
        have hD : va_D A [(m0, OB 7 [.int th, .ref a1, .ref a2, .ref a3, .int (nI ud), .ref a5, .ref a6, .ref a7, .int (nI ln), .int (nI nx), .int (nI ts), .int tk, .int vl, .int er, .ref a14, .int rq, .ref a16]), (a1, AI G 568 sf)] := hD
        refine wb_eq (tgt := 28) hx hb dX7_violatedBy_21 (by decide) (fun c_21 => ?_) (fun c_21 => ?_)
        ·
          refine lv_iconst (v := 1) hx hb dX7_violatedBy_28 (by decide) ?_
          refine lv_iload_n hx hb dX7_violatedBy_29 rfl (lv_at hl 3 rfl) ?_
          refine wn_bit hx hb (q) rfl rfl dX7_violatedBy_30 ?_
          refine lv_ior hx hb dX7_violatedBy_31 ?_
          refine lv_istore_n (lv' := [(2, .int (acc ||| (bitI q))), (0, .ref m0), (1, .int (nI a)), (3, .int (nI q))]) hx hb dX7_violatedBy_32 rfl hl (by decide) rfl (fun ls hl => ?_)
          refine lv_iinc (v := nI (q + 1)) (lv' := [(3, .int (nI (q + 1))), (2, .int (acc ||| (bitI q))), (0, .ref m0), (1, .int (nI a))]) hx hb dX7_violatedBy_33 hl (k := 3) rfl (nI_inc (q) 1) (by decide) rfl (fun ls hl => ?_)
          refine lv_goto (tgt := 4) hx hb dX7_violatedBy_36 (by decide) ?_
          exact ih (q + 1) (acc ||| (bitI q)) _ _ _ (by omega) (by omega) (by simp [vioM, ha, c_11, c_21]) (hP.sub (ws' := [(m0, OB 7 [.int th, .ref a1, .ref a2, .ref a3, .int (nI ud), .ref a5, .ref a6, .ref a7, .int (nI ln), .int (nI nx), .int (nI ts), .int tk, .int vl, .int er, .ref a14, .int rq, .ref a16]), (a1, AI G 568 sf)]) [0, 1] rfl) (hD.sub (ws' := [(m0, OB 7 [.int th, .ref a1, .ref a2, .ref a3, .int (nI ud), .ref a5, .ref a6, .ref a7, .int (nI ln), .int (nI nx), .int (nI ts), .int tk, .int vl, .int er, .ref a14, .int rq, .ref a16]), (a1, AI G 568 sf)]) [0, 1] (by decide) rfl) hS (lv_sub (l' := [(0, .ref m0), (1, .int (nI a)), (2, .int (acc ||| (bitI q))), (3, .int (nI (q + 1)))]) hl [2, 3, 1, 0] rfl)
        ·
          refine lv_iconst (v := 0) hx hb dX7_violatedBy_24 (by decide) ?_
          refine lv_goto (tgt := 31) hx hb dX7_violatedBy_25 (by decide) ?_
          refine lv_ior hx hb dX7_violatedBy_31 ?_
          refine lv_istore_n (lv' := [(2, .int (acc ||| 0)), (0, .ref m0), (1, .int (nI a)), (3, .int (nI q))]) hx hb dX7_violatedBy_32 rfl hl (by decide) rfl (fun ls hl => ?_)
          refine lv_iinc (v := nI (q + 1)) (lv' := [(3, .int (nI (q + 1))), (2, .int (acc ||| 0)), (0, .ref m0), (1, .int (nI a))]) hx hb dX7_violatedBy_33 hl (k := 3) rfl (nI_inc (q) 1) (by decide) rfl (fun ls hl => ?_)
          refine lv_goto (tgt := 4) hx hb dX7_violatedBy_36 (by decide) ?_
          exact ih (q + 1) (acc ||| 0) _ _ _ (by omega) (by omega) (by simp [vioM, ha, c_11, c_21]) (hP.sub (ws' := [(m0, OB 7 [.int th, .ref a1, .ref a2, .ref a3, .int (nI ud), .ref a5, .ref a6, .ref a7, .int (nI ln), .int (nI nx), .int (nI ts), .int tk, .int vl, .int er, .ref a14, .int rq, .ref a16]), (a1, AI G 568 sf)]) [0, 1] rfl) (hD.sub (ws' := [(m0, OB 7 [.int th, .ref a1, .ref a2, .ref a3, .int (nI ud), .ref a5, .ref a6, .ref a7, .int (nI ln), .int (nI nx), .int (nI ts), .int tk, .int vl, .int er, .ref a14, .int rq, .ref a16]), (a1, AI G 568 sf)]) [0, 1] (by decide) rfl) hS (lv_sub (l' := [(0, .ref m0), (1, .int (nI a)), (2, .int (acc ||| 0)), (3, .int (nI (q + 1)))]) hl [2, 3, 1, 0] rfl)
  exact L4 ((n - 0) + 1) 0 0 _ _ _ (Nat.lt_succ_self _) (Nat.zero_le _) (rfl) (hP.sub (ws' := [(m0, OB 7 [.int th, .ref a1, .ref a2, .ref a3, .int (nI ud), .ref a5, .ref a6, .ref a7, .int (nI ln), .int (nI nx), .int (nI ts), .int tk, .int vl, .int er, .ref a14, .int rq, .ref a16]), (a1, AI G 568 sf)]) [0, 1] rfl) (hD.sub (ws' := [(m0, OB 7 [.int th, .ref a1, .ref a2, .ref a3, .int (nI ud), .ref a5, .ref a6, .ref a7, .int (nI ln), .int (nI nx), .int (nI ts), .int tk, .int vl, .int er, .ref a14, .int rq, .ref a16]), (a1, AI G 568 sf)]) [0, 1] (by decide) rfl) hS (lv_sub (l' := [(0, .ref m0), (1, .int (nI a)), (2, .int 0), (3, .int (nI 0))]) hl [2, 3, 1, 0] rfl)
abbrev rmX7_prepare : Room := { frames := 3, cells := 0, slots := 0, locals := 70 }
set_option maxHeartbeats 4000000 in
set_option maxRecDepth 100000 in
theorem c_X7_prepare (l : Launch) (G : GT) (m0 a1 a2 a3 a5 a6 a7 a14 a16 : Nat) (th : Int32) (ud ln nx ts : Nat) (tk vl er rq : Int32) (sf : Nat → Int32) (n : Nat) (vf : Nat → Int32) (hc : sf 0 = nI n) (hn : n ≤ 10) : Cv l yX7_prepare wsX7_prepare rmX7_prepare G [.ref m0] [(m0, OB 7 [.int th, .ref a1, .ref a2, .ref a3, .int (nI ud), .ref a5, .ref a6, .ref a7, .int (nI ln), .int (nI nx), .int (nI ts), .int tk, .int vl, .int er, .ref a14, .int rq, .ref a16]), (a1, AI G 568 sf), (a14, AI G 64 vf)] (fun u => u = [(m0, OB 7 [.int th, .ref a1, .ref a2, .ref a3, .int (nI ud), .ref a5, .ref a6, .ref a7, .int (nI ln), .int (nI nx), .int (nI ts), .int tk, .int vl, .int er, .ref a14, .int (hardS sf n), .ref a16]), (a1, AI G 568 sf), (a14, AI G 64 (vlF vf (fun zz => vioM sf zz n) 64))]) := by
  refine Cv.of (cc := cX7_prepare) (maxL := 2) (by decide) rfl (Nat.le_of_ble_eq_true rfl) ?_
  intro p e s m below meth c A ls Q hx hb hml hts hown hin hA hS hP hK hN hSS hD hl ret
  have hown : s.vm.findClass RX7 = some m.cls := hown
  have hl : lv_has ls 2 [(0, .ref m0)] := hl
  have hi7 : ∀ w ∈ wsX70, w ∈ wsX7_prepare := mem_places [28, 29, 30, 31, 32, 33, 34, 35, 36, 37, 38, 39, 40, 41, 42, 43, 44] (by decide +kernel)
  refine lv_iconst (v := 0) hx hb dX7_prepare_0 (by decide) ?_
  refine lv_istore_n (lv' := [(1, .int 0), (0, .ref m0)]) hx hb dX7_prepare_1 rfl hl (by decide) rfl (fun ls hl => ?_)
  have L2 : ∀ (kf : Nat) (a : Nat) (f : Nat → Int32) (H : Heap) (locs : List Loc) (ls : Array Slot), 64 - a < kf → (a ≤ 64) → (f = vlF vf (fun zz => vioM sf zz n) a) → va_P G.1 vwCl [(m0, OB 7 [.int th, .ref a1, .ref a2, .ref a3, .int (nI ud), .ref a5, .ref a6, .ref a7, .int (nI ln), .int (nI nx), .int (nI ts), .int tk, .int vl, .int er, .ref a14, .int rq, .ref a16]), (a1, AI G 568 sf), (a14, AI G 64 f)] H → va_D A [(m0, OB 7 [.int th, .ref a1, .ref a2, .ref a3, .int (nI ud), .ref a5, .ref a6, .ref a7, .int (nI ln), .int (nI nx), .int (nI ts), .int tk, .int vl, .int er, .ref a14, .int rq, .ref a16]), (a1, AI G 568 sf), (a14, AI G 64 f)] → va_S A s.heap H locs → lv_has ls 2 [(0, .ref m0), (1, .int (nI a))] → W p l e rmX7_prepare s m ([.ref m0] : List Value).toArray below meth c H locs 0 0 Q (F0 m 2 ls []) := by
    intro kf
    induction kf with
    | zero => intro a f H locs ls h; exact absurd h (Nat.not_lt_zero _)
    | succ kf ih =>
      intro a f H locs ls hk hi hf hP hD hS hl
      refine lv_iload_n hx hb dX7_prepare_2 rfl (lv_at hl 1 rfl) ?_
      refine lv_bipush (v := 64) hx hb dX7_prepare_3 (by decide) ?_
      refine lv_icmp_ge (tgt := 25) hx hb dX7_prepare_5 (by decide) (fun c_5 => ?_) (fun c_5 => ?_)
      ·
        have c_5 : 64 ≤ a := (nI_leI (a := 64) (b := a) (by omega) (by omega)).mp c_5
        refine lv_aload_n hx hb dX7_prepare_25 rfl (lv_at hl 0 rfl) ?_
        refine lv_aload_n hx hb dX7_prepare_26 rfl (lv_at hl 0 rfl) ?_
        refine call_Vi (rest := [.ref m0]) (As := []) (wr := [(a14, AI G 64 f)]) (c1 := 0) (s1 := 0) ⟨hx, hb, hml, hown, hts⟩ (c_X7_hardSet l G m0 a1 a2 a3 a5 a6 a7 a14 a16 th ud ln nx ts tk vl er rq sf n (by first | assumption | omega) (by first | assumption | omega)) (cwV 0 hts gX7_prepare_X7_hardSet rfl rfl rfl (by decide +kernel) ⟨Nat.le_of_ble_eq_true rfl, Nat.le_of_ble_eq_true rfl⟩) hK hN hSS hP hD hS hA 0 7 rfl rfl rfl [0, 1] [2] rfl rfl (by decide) (by decide) (by decide) rfl hl.1 rfl (Nat.le_of_ble_eq_true rfl) dX7_prepare_27 ⟨Nat.le_of_ble_eq_true rfl, Nat.le_of_ble_eq_true rfl⟩ rfl rfl (fun r_27 u_27 H locs hpo hP hD hS => ?_)
        obtain ⟨hr9, rfl⟩ := hpo
        subst r_27
        have hP : va_P G.1 vwCl [(a14, AI G 64 f), (m0, OB 7 [.int th, .ref a1, .ref a2, .ref a3, .int (nI ud), .ref a5, .ref a6, .ref a7, .int (nI ln), .int (nI nx), .int (nI ts), .int tk, .int vl, .int er, .ref a14, .int rq, .ref a16]), (a1, AI G 568 sf)] H := hP
        have hD : va_D A [(a14, AI G 64 f), (m0, OB 7 [.int th, .ref a1, .ref a2, .ref a3, .int (nI ud), .ref a5, .ref a6, .ref a7, .int (nI ln), .int (nI nx), .int (nI ts), .int tk, .int vl, .int er, .ref a14, .int rq, .ref a16]), (a1, AI G 568 sf)] := hD
        refine va_put (D := G.1) (ci := 7) (v := .int (hardS sf n)) (ty := .int) (C := RX7) (T := TX7) (N := 17) hx hb hts hi7 tyX7 tyX7_ok nmX7 hown hK hP hD hS 1 rfl rfl 15 (by decide) (hts (.fieldLink RX7 139 "ConflictEnumeratorModel" "required" "I") (List.mem_of_getElem? (i := 2) rfl)) (fun _ h9 => h9) rfl (by decide +kernel) rfl rfl (Nat.le_of_ble_eq_true rfl) dX7_prepare_30 (fun H locs hP hD hS => ?_)
        have hP : va_P G.1 vwCl [(a14, AI G 64 f), (m0, OB 7 [.int th, .ref a1, .ref a2, .ref a3, .int (nI ud), .ref a5, .ref a6, .ref a7, .int (nI ln), .int (nI nx), .int (nI ts), .int tk, .int vl, .int er, .ref a14, .int (hardS sf n), .ref a16]), (a1, AI G 568 sf)] H := hP
        have hD : va_D A [(a14, AI G 64 f), (m0, OB 7 [.int th, .ref a1, .ref a2, .ref a3, .int (nI ud), .ref a5, .ref a6, .ref a7, .int (nI ln), .int (nI nx), .int (nI ts), .int tk, .int vl, .int er, .ref a14, .int (hardS sf n), .ref a16]), (a1, AI G 568 sf)] := hD
        exact ret _ _ _ _ _ _ _ (Nat.le_of_ble_eq_true rfl) (Nat.le_of_ble_eq_true rfl) (by obtain rfl : a = 64 := (by omega); subst hf; rfl) (hP.sub (ws' := [(m0, OB 7 [.int th, .ref a1, .ref a2, .ref a3, .int (nI ud), .ref a5, .ref a6, .ref a7, .int (nI ln), .int (nI nx), .int (nI ts), .int tk, .int vl, .int er, .ref a14, .int (hardS sf n), .ref a16]), (a1, AI G 568 sf), (a14, AI G 64 f)]) [1, 2, 0] rfl) (hD.sub (ws' := [(m0, OB 7 [.int th, .ref a1, .ref a2, .ref a3, .int (nI ud), .ref a5, .ref a6, .ref a7, .int (nI ln), .int (nI nx), .int (nI ts), .int tk, .int vl, .int er, .ref a14, .int (hardS sf n), .ref a16]), (a1, AI G 568 sf), (a14, AI G 64 f)]) [1, 2, 0] (by decide) rfl) hS dX7_prepare_33
      ·
        have c_5 : a < 64 := by have h9 := mt (nI_leI (a := 64) (b := a) (by omega) (by omega)).mpr c_5; omega
        refine lv_aload_n hx hb dX7_prepare_8 rfl (lv_at hl 0 rfl) ?_
        refine va_get (D := G.1) (ci := 7) (v := .ref a14) (C := RX7) (T := TX7) (N := 17) hx hb hts hi7 hown hK hP 0 rfl rfl 14 (by decide) (hts (.fieldLink RX7 29 "ConflictEnumeratorModel" "violations" "[I") (List.mem_of_getElem? (i := 1) rfl)) (fun _ h9 => h9) rfl dX7_prepare_9 ?_
        refine lv_iload_n hx hb dX7_prepare_12 rfl (lv_at hl 1 rfl) ?_
        refine lv_aload_n hx hb dX7_prepare_13 rfl (lv_at hl 0 rfl) ?_
        refine lv_iload_n hx hb dX7_prepare_14 rfl (lv_at hl 1 rfl) ?_
        refine call_Vi (rest := [.int (nI a), .ref a14]) (As := [.int (nI a)]) (wr := [(a14, AI G 64 f)]) (c1 := 0) (s1 := 0) ⟨hx, hb, hml, hown, hts⟩ (c_X7_violatedBy l G m0 a1 a2 a3 a5 a6 a7 a14 a16 th ud ln nx ts tk vl er rq sf n a (by first | assumption | omega) (by first | assumption | omega)) (cwV 1 hts gX7_prepare_X7_violatedBy rfl rfl rfl (by decide +kernel) ⟨Nat.le_of_ble_eq_true rfl, Nat.le_of_ble_eq_true rfl⟩) hK hN hSS hP hD hS hA 0 7 rfl rfl rfl [0, 1] [2] rfl rfl (by decide) (by decide) (by decide) rfl hl.1 rfl (Nat.le_of_ble_eq_true rfl) dX7_prepare_15 ⟨Nat.le_of_ble_eq_true rfl, Nat.le_of_ble_eq_true rfl⟩ rfl rfl (fun r_15 u_15 H locs hpo hP hD hS => ?_)
        obtain ⟨hr9, rfl⟩ := hpo
        subst r_15
        have hP : va_P G.1 vwCl [(a14, AI G 64 f), (m0, OB 7 [.int th, .ref a1, .ref a2, .ref a3, .int (nI ud), .ref a5, .ref a6, .ref a7, .int (nI ln), .int (nI nx), .int (nI ts), .int tk, .int vl, .int er, .ref a14, .int rq, .ref a16]), (a1, AI G 568 sf)] H := hP
        have hD : va_D A [(a14, AI G 64 f), (m0, OB 7 [.int th, .ref a1, .ref a2, .ref a3, .int (nI ud), .ref a5, .ref a6, .ref a7, .int (nI ln), .int (nI nx), .int (nI ts), .int tk, .int vl, .int er, .ref a14, .int rq, .ref a16]), (a1, AI G 568 sf)] := hD
        refine wa_iast hx hb hK hP hD hS 0 rfl (a) (rfl) (by omega) (by decide) dX7_prepare_18 (fun H locs hP hD hS => ?_)
        have hP : va_P G.1 vwCl [(a14, AI G 64 (va_up f a (vioM sf a n))), (m0, OB 7 [.int th, .ref a1, .ref a2, .ref a3, .int (nI ud), .ref a5, .ref a6, .ref a7, .int (nI ln), .int (nI nx), .int (nI ts), .int tk, .int vl, .int er, .ref a14, .int rq, .ref a16]), (a1, AI G 568 sf)] H := hP
        have hD : va_D A [(a14, AI G 64 (va_up f a (vioM sf a n))), (m0, OB 7 [.int th, .ref a1, .ref a2, .ref a3, .int (nI ud), .ref a5, .ref a6, .ref a7, .int (nI ln), .int (nI nx), .int (nI ts), .int tk, .int vl, .int er, .ref a14, .int rq, .ref a16]), (a1, AI G 568 sf)] := hD
        refine lv_iinc (v := nI (a + 1)) (lv' := [(1, .int (nI (a + 1))), (0, .ref m0)]) hx hb dX7_prepare_19 hl (k := 1) rfl (nI_inc (a) 1) (by decide) rfl (fun ls hl => ?_)
        refine lv_goto (tgt := 2) hx hb dX7_prepare_22 (by decide) ?_
        exact ih (a + 1) (va_up f a (vioM sf a n)) _ _ _ (by omega) (by omega) (by subst hf; exact vlF_s vf (fun zz => vioM sf zz n) a) (hP.sub (ws' := [(m0, OB 7 [.int th, .ref a1, .ref a2, .ref a3, .int (nI ud), .ref a5, .ref a6, .ref a7, .int (nI ln), .int (nI nx), .int (nI ts), .int tk, .int vl, .int er, .ref a14, .int rq, .ref a16]), (a1, AI G 568 sf), (a14, AI G 64 (va_up f a (vioM sf a n)))]) [1, 2, 0] rfl) (hD.sub (ws' := [(m0, OB 7 [.int th, .ref a1, .ref a2, .ref a3, .int (nI ud), .ref a5, .ref a6, .ref a7, .int (nI ln), .int (nI nx), .int (nI ts), .int tk, .int vl, .int er, .ref a14, .int rq, .ref a16]), (a1, AI G 568 sf), (a14, AI G 64 (va_up f a (vioM sf a n)))]) [1, 2, 0] (by decide) rfl) hS (lv_sub (l' := [(0, .ref m0), (1, .int (nI (a + 1)))]) hl [1, 0] rfl)
  exact L2 ((64 - 0) + 1) 0 vf _ _ _ (Nat.lt_succ_self _) (Nat.zero_le _) ((vlF_0 vf _).symm) (hP.sub (ws' := [(m0, OB 7 [.int th, .ref a1, .ref a2, .ref a3, .int (nI ud), .ref a5, .ref a6, .ref a7, .int (nI ln), .int (nI nx), .int (nI ts), .int tk, .int vl, .int er, .ref a14, .int rq, .ref a16]), (a1, AI G 568 sf), (a14, AI G 64 vf)]) [0, 1, 2] rfl) (hD.sub (ws' := [(m0, OB 7 [.int th, .ref a1, .ref a2, .ref a3, .int (nI ud), .ref a5, .ref a6, .ref a7, .int (nI ln), .int (nI nx), .int (nI ts), .int tk, .int vl, .int er, .ref a14, .int rq, .ref a16]), (a1, AI G 568 sf), (a14, AI G 64 vf)]) [0, 1, 2] (by decide) rfl) hS (lv_sub (l' := [(0, .ref m0), (1, .int (nI 0))]) hl [1, 0] rfl)
abbrev rmX7_modelOf : Room := { frames := 0, cells := 0, slots := 0, locals := 0 }
set_option maxHeartbeats 4000000 in
set_option maxRecDepth 100000 in
theorem c_X7_modelOf (l : Launch) (G : GT) (m0 a1 a2 a3 a5 a6 a7 a14 a16 : Nat) (th : Int32) (ud ln nx ts : Nat) (tk vl er rq : Int32) (vf : Nat → Int32) (sel : Int32)  : Ci l yX7_modelOf wsX7_modelOf rmX7_modelOf G [.ref m0, .int sel] [(m0, OB 7 [.int th, .ref a1, .ref a2, .ref a3, .int (nI ud), .ref a5, .ref a6, .ref a7, .int (nI ln), .int (nI nx), .int (nI ts), .int tk, .int vl, .int er, .ref a14, .int rq, .ref a16]), (a14, AI G 64 vf)] (fun r u => r = mdlM vf rq sel ∧ u = [(m0, OB 7 [.int th, .ref a1, .ref a2, .ref a3, .int (nI ud), .ref a5, .ref a6, .ref a7, .int (nI ln), .int (nI nx), .int (nI ts), .int tk, .int vl, .int er, .ref a14, .int rq, .ref a16]), (a14, AI G 64 vf)]) := by
  refine Ci.of (cc := cX7_modelOf) (maxL := 3) (ty := .int) (by decide) rfl (Nat.le_of_ble_eq_true rfl) ?_
  intro p e s m below meth c A ls Q hx hb hml hts hown hA hS hP hK hN hSS hD hl ret
  have hown : s.vm.findClass RX7 = some m.cls := hown
  have hl : lv_has ls 3 [(0, .ref m0), (1, .int sel)] := hl
  have hi7 : ∀ w ∈ wsX70, w ∈ wsX7_modelOf := mem_places [3, 4, 5, 6, 7, 8, 9, 10, 11, 12, 13, 14, 15, 16, 17, 18, 19] (by decide +kernel)
  refine lv_iconst (v := 0) hx hb dX7_modelOf_0 (by decide) ?_
  refine lv_istore_n (lv' := [(2, .int 0), (0, .ref m0), (1, .int sel)]) hx hb dX7_modelOf_1 rfl hl (by decide) rfl (fun ls hl => ?_)
  have L2 : ∀ (kf : Nat) (a : Nat) (H : Heap) (locs : List Loc) (ls : Array Slot), 64 - a < kf → (a ≤ 64) → (mdlU (fun a => vf a &&& (sel ||| rq) == 0) a (64 - a) = mdlU (fun a => vf a &&& (sel ||| rq) == 0) 0 64) → va_P G.1 vwCl [(m0, OB 7 [.int th, .ref a1, .ref a2, .ref a3, .int (nI ud), .ref a5, .ref a6, .ref a7, .int (nI ln), .int (nI nx), .int (nI ts), .int tk, .int vl, .int er, .ref a14, .int rq, .ref a16]), (a14, AI G 64 vf)] H → va_D A [(m0, OB 7 [.int th, .ref a1, .ref a2, .ref a3, .int (nI ud), .ref a5, .ref a6, .ref a7, .int (nI ln), .int (nI nx), .int (nI ts), .int tk, .int vl, .int er, .ref a14, .int rq, .ref a16]), (a14, AI G 64 vf)] → va_S A s.heap H locs → lv_has ls 3 [(0, .ref m0), (1, .int sel), (2, .int (nI a))] → W p l e rmX7_modelOf s m ([.ref m0, .int sel] : List Value).toArray below meth c H locs 0 0 Q (F0 m 2 ls []) := by
    intro kf
    induction kf with
    | zero => intro a H locs ls h; exact absurd h (Nat.not_lt_zero _)
    | succ kf ih =>
      intro a H locs ls hk hi ha hP hD hS hl
      refine lv_iload_n hx hb dX7_modelOf_2 rfl (lv_at hl 2 rfl) ?_
      refine lv_bipush (v := 64) hx hb dX7_modelOf_3 (by decide) ?_
      refine lv_icmp_ge (tgt := 32) hx hb dX7_modelOf_5 (by decide) (fun c_5 => ?_) (fun c_5 => ?_)
      ·
        have c_5 : 64 ≤ a := (nI_leI (a := 64) (b := a) (by omega) (by omega)).mp c_5
        refine lv_bipush (v := (-9)) hx hb dX7_modelOf_32 (by decide) ?_
        exact ret (-9) _ _ _ _ _ _ _ (Nat.le_of_ble_eq_true rfl) (Nat.le_of_ble_eq_true rfl) (rfl) (⟨by unfold mdlM; rw [← ha, show 64 - a = 0 by omega]; rfl, rfl⟩) (hP.sub (ws' := [(m0, OB 7 [.int th, .ref a1, .ref a2, .ref a3, .int (nI ud), .ref a5, .ref a6, .ref a7, .int (nI ln), .int (nI nx), .int (nI ts), .int tk, .int vl, .int er, .ref a14, .int rq, .ref a16]), (a14, AI G 64 vf)]) [0, 1] rfl) (hD.sub (ws' := [(m0, OB 7 [.int th, .ref a1, .ref a2, .ref a3, .int (nI ud), .ref a5, .ref a6, .ref a7, .int (nI ln), .int (nI nx), .int (nI ts), .int tk, .int vl, .int er, .ref a14, .int rq, .ref a16]), (a14, AI G 64 vf)]) [0, 1] (by decide) rfl) hS dX7_modelOf_34
      ·
        have c_5 : a < 64 := by have h9 := mt (nI_leI (a := 64) (b := a) (by omega) (by omega)).mpr c_5; omega
        refine lv_aload_n hx hb dX7_modelOf_8 rfl (lv_at hl 0 rfl) ?_
        refine va_get (D := G.1) (ci := 7) (v := .ref a14) (C := RX7) (T := TX7) (N := 17) hx hb hts hi7 hown hK hP 0 rfl rfl 14 (by decide) (hts (.fieldLink RX7 29 "ConflictEnumeratorModel" "violations" "[I") (List.mem_of_getElem? (i := 1) rfl)) (fun _ h9 => h9) rfl dX7_modelOf_9 ?_
        refine lv_iload_n hx hb dX7_modelOf_12 rfl (lv_at hl 2 rfl) ?_
        refine wa_iald hx hb hK hP 1 rfl (a) (rfl) (by omega) (by decide) dX7_modelOf_13 ?_
        refine lv_iload_n hx hb dX7_modelOf_14 rfl (lv_at hl 1 rfl) ?_
        refine lv_aload_n hx hb dX7_modelOf_15 rfl (lv_at hl 0 rfl) ?_
        refine va_get (D := G.1) (ci := 7) (v := .int rq) (C := RX7) (T := TX7) (N := 17) hx hb hts hi7 hown hK hP 0 rfl rfl 15 (by decide) (hts (.fieldLink RX7 139 "ConflictEnumeratorModel" "required" "I") (List.mem_of_getElem? (i := 2) rfl)) (fun _ h9 => h9) rfl dX7_modelOf_16 ?_
        refine lv_ior hx hb dX7_modelOf_19 ?_
        refine lv_iand hx hb dX7_modelOf_20 ?_
        refine lv_if_ne (tgt := 26) hx hb dX7_modelOf_21 (by decide) (fun c_21 => ?_) (fun c_21 => ?_)
        ·
          refine lv_iinc (v := nI (a + 1)) (lv' := [(2, .int (nI (a + 1))), (0, .ref m0), (1, .int sel)]) hx hb dX7_modelOf_26 hl (k := 2) rfl (nI_inc (a) 1) (by decide) rfl (fun ls hl => ?_)
          refine lv_goto (tgt := 2) hx hb dX7_modelOf_29 (by decide) ?_
          exact ih (a + 1) _ _ _ (by omega) (by omega) (by rw [← ha, show 64 - a = (64 - (a + 1)) + 1 by omega]; simp [mdlU, c_21]) (hP.sub (ws' := [(m0, OB 7 [.int th, .ref a1, .ref a2, .ref a3, .int (nI ud), .ref a5, .ref a6, .ref a7, .int (nI ln), .int (nI nx), .int (nI ts), .int tk, .int vl, .int er, .ref a14, .int rq, .ref a16]), (a14, AI G 64 vf)]) [0, 1] rfl) (hD.sub (ws' := [(m0, OB 7 [.int th, .ref a1, .ref a2, .ref a3, .int (nI ud), .ref a5, .ref a6, .ref a7, .int (nI ln), .int (nI nx), .int (nI ts), .int tk, .int vl, .int er, .ref a14, .int rq, .ref a16]), (a14, AI G 64 vf)]) [0, 1] (by decide) rfl) hS (lv_sub (l' := [(0, .ref m0), (1, .int sel), (2, .int (nI (a + 1)))]) hl [1, 2, 0] rfl)
        ·
          refine lv_iload_n hx hb dX7_modelOf_24 rfl (lv_at hl 2 rfl) ?_
          exact ret (nI a) _ _ _ _ _ _ _ (Nat.le_of_ble_eq_true rfl) (Nat.le_of_ble_eq_true rfl) (rfl) (⟨by unfold mdlM; rw [← ha, show 64 - a = (64 - (a + 1)) + 1 by omega]; simp [mdlU, c_21], rfl⟩) (hP.sub (ws' := [(m0, OB 7 [.int th, .ref a1, .ref a2, .ref a3, .int (nI ud), .ref a5, .ref a6, .ref a7, .int (nI ln), .int (nI nx), .int (nI ts), .int tk, .int vl, .int er, .ref a14, .int rq, .ref a16]), (a14, AI G 64 vf)]) [0, 1] rfl) (hD.sub (ws' := [(m0, OB 7 [.int th, .ref a1, .ref a2, .ref a3, .int (nI ud), .ref a5, .ref a6, .ref a7, .int (nI ln), .int (nI nx), .int (nI ts), .int tk, .int vl, .int er, .ref a14, .int rq, .ref a16]), (a14, AI G 64 vf)]) [0, 1] (by decide) rfl) hS dX7_modelOf_25
  exact L2 ((64 - 0) + 1) 0 _ _ _ (Nat.lt_succ_self _) (Nat.zero_le _) (rfl) (hP.sub (ws' := [(m0, OB 7 [.int th, .ref a1, .ref a2, .ref a3, .int (nI ud), .ref a5, .ref a6, .ref a7, .int (nI ln), .int (nI nx), .int (nI ts), .int tk, .int vl, .int er, .ref a14, .int rq, .ref a16]), (a14, AI G 64 vf)]) [0, 1] rfl) (hD.sub (ws' := [(m0, OB 7 [.int th, .ref a1, .ref a2, .ref a3, .int (nI ud), .ref a5, .ref a6, .ref a7, .int (nI ln), .int (nI nx), .int (nI ts), .int tk, .int vl, .int er, .ref a14, .int rq, .ref a16]), (a14, AI G 64 vf)]) [0, 1] (by decide) rfl) hS (lv_sub (l' := [(0, .ref m0), (1, .int sel), (2, .int (nI 0))]) hl [1, 2, 0] rfl)
abbrev rmX7_isSatisfiable : Room := { frames := 1, cells := 0, slots := 0, locals := 22 }
set_option maxHeartbeats 4000000 in
set_option maxRecDepth 100000 in
theorem c_X7_isSatisfiable (l : Launch) (G : GT) (m0 a1 a2 a3 a5 a6 a7 a14 a16 : Nat) (th : Int32) (ud ln nx ts : Nat) (tk vl er rq : Int32) (vf : Nat → Int32) (sel : Int32)  : Ci l yX7_isSatisfiable wsX7_isSatisfiable rmX7_isSatisfiable G [.ref m0, .int sel] [(m0, OB 7 [.int th, .ref a1, .ref a2, .ref a3, .int (nI ud), .ref a5, .ref a6, .ref a7, .int (nI ln), .int (nI nx), .int (nI ts), .int tk, .int vl, .int er, .ref a14, .int rq, .ref a16]), (a14, AI G 64 vf)] (fun r u => r = bI (satM vf rq sel) ∧ u = [(m0, OB 7 [.int th, .ref a1, .ref a2, .ref a3, .int (nI ud), .ref a5, .ref a6, .ref a7, .int (nI ln), .int (nI nx), .int (nI ts), .int tk, .int vl, .int er, .ref a14, .int rq, .ref a16]), (a14, AI G 64 vf)]) := by
  refine Ci.of (cc := cX7_isSatisfiable) (maxL := 2) (ty := .boolean) (by decide) rfl (Nat.le_of_ble_eq_true rfl) ?_
  intro p e s m below meth c A ls Q hx hb hml hts hown hA hS hP hK hN hSS hD hl ret
  have hown : s.vm.findClass RX7 = some m.cls := hown
  have hl : lv_has ls 2 [(0, .ref m0), (1, .int sel)] := hl
  refine lv_aload_n hx hb dX7_isSatisfiable_0 rfl (lv_at hl 0 rfl) ?_
  refine lv_iload_n hx hb dX7_isSatisfiable_1 rfl (lv_at hl 1 rfl) ?_
  refine call_Vi (rest := []) (As := [.int sel]) (wr := []) (c1 := 0) (s1 := 0) ⟨hx, hb, hml, hown, hts⟩ (c_X7_modelOf l G m0 a1 a2 a3 a5 a6 a7 a14 a16 th ud ln nx ts tk vl er rq vf sel ) (cwV 1 hts gX7_isSatisfiable_X7_modelOf rfl rfl rfl (by decide +kernel) ⟨Nat.le_of_ble_eq_true rfl, Nat.le_of_ble_eq_true rfl⟩) hK hN hSS hP hD hS hA 0 7 rfl rfl rfl [0, 1] [] rfl rfl (by decide) (by decide) (by decide) rfl hl.1 rfl (Nat.le_of_ble_eq_true rfl) dX7_isSatisfiable_2 ⟨Nat.le_of_ble_eq_true rfl, Nat.le_of_ble_eq_true rfl⟩ rfl rfl (fun r_2 u_2 H locs hpo hP hD hS => ?_)
  obtain ⟨hr9, rfl⟩ := hpo
  subst r_2
  have hP : va_P G.1 vwCl [(m0, OB 7 [.int th, .ref a1, .ref a2, .ref a3, .int (nI ud), .ref a5, .ref a6, .ref a7, .int (nI ln), .int (nI nx), .int (nI ts), .int tk, .int vl, .int er, .ref a14, .int rq, .ref a16]), (a14, AI G 64 vf)] H := hP
  have hD : va_D A [(m0, OB 7 [.int th, .ref a1, .ref a2, .ref a3, .int (nI ud), .ref a5, .ref a6, .ref a7, .int (nI ln), .int (nI nx), .int (nI ts), .int tk, .int vl, .int er, .ref a14, .int rq, .ref a16]), (a14, AI G 64 vf)] := hD
  refine lv_bipush (v := (-9)) hx hb dX7_isSatisfiable_5 (by decide) ?_
  refine lv_icmp_eq (tgt := 14) hx hb dX7_isSatisfiable_7 (by decide) (fun c_7 => ?_) (fun c_7 => ?_)
  ·
    refine lv_iconst (v := 0) hx hb dX7_isSatisfiable_14 (by decide) ?_
    exact ret 0 _ _ _ _ _ _ _ (Nat.le_of_ble_eq_true rfl) (Nat.le_of_ble_eq_true rfl) (rfl) (⟨by simp [bI, satM, c_7], rfl⟩) (hP.sub (ws' := [(m0, OB 7 [.int th, .ref a1, .ref a2, .ref a3, .int (nI ud), .ref a5, .ref a6, .ref a7, .int (nI ln), .int (nI nx), .int (nI ts), .int tk, .int vl, .int er, .ref a14, .int rq, .ref a16]), (a14, AI G 64 vf)]) [0, 1] rfl) (hD.sub (ws' := [(m0, OB 7 [.int th, .ref a1, .ref a2, .ref a3, .int (nI ud), .ref a5, .ref a6, .ref a7, .int (nI ln), .int (nI nx), .int (nI ts), .int tk, .int vl, .int er, .ref a14, .int rq, .ref a16]), (a14, AI G 64 vf)]) [0, 1] (by decide) rfl) hS dX7_isSatisfiable_15
  ·
    refine lv_iconst (v := 1) hx hb dX7_isSatisfiable_10 (by decide) ?_
    refine lv_goto (tgt := 15) hx hb dX7_isSatisfiable_11 (by decide) ?_
    exact ret 1 _ _ _ _ _ _ _ (Nat.le_of_ble_eq_true rfl) (Nat.le_of_ble_eq_true rfl) (rfl) (⟨by simp [bI, satM, c_7], rfl⟩) (hP.sub (ws' := [(m0, OB 7 [.int th, .ref a1, .ref a2, .ref a3, .int (nI ud), .ref a5, .ref a6, .ref a7, .int (nI ln), .int (nI nx), .int (nI ts), .int tk, .int vl, .int er, .ref a14, .int rq, .ref a16]), (a14, AI G 64 vf)]) [0, 1] rfl) (hD.sub (ws' := [(m0, OB 7 [.int th, .ref a1, .ref a2, .ref a3, .int (nI ud), .ref a5, .ref a6, .ref a7, .int (nI ln), .int (nI nx), .int (nI ts), .int tk, .int vl, .int er, .ref a14, .int rq, .ref a16]), (a14, AI G 64 vf)]) [0, 1] (by decide) rfl) hS dX7_isSatisfiable_15
abbrev rmX7_grow : Room := { frames := 2, cells := 0, slots := 0, locals := 43 }
set_option maxHeartbeats 4000000 in
set_option maxRecDepth 100000 in
theorem c_X7_grow (l : Launch) (G : GT) (m0 a1 a2 a3 a5 a6 a7 a14 a16 : Nat) (th : Int32) (ud ln nx ts : Nat) (tk vl er rq : Int32) (sf : Nat → Int32) (n : Nat) (vf : Nat → Int32) (sel : Int32) (hc : sf 0 = nI n) (hn : n ≤ 10) : Ci l yX7_grow wsX7_grow rmX7_grow G [.ref m0, .int sel] [(m0, OB 7 [.int th, .ref a1, .ref a2, .ref a3, .int (nI ud), .ref a5, .ref a6, .ref a7, .int (nI ln), .int (nI nx), .int (nI ts), .int tk, .int vl, .int er, .ref a14, .int rq, .ref a16]), (a1, AI G 568 sf), (a14, AI G 64 vf)] (fun r u => r = growM (satM vf rq) (fun c => cA sf c 4) sel n ∧ u = [(m0, OB 7 [.int th, .ref a1, .ref a2, .ref a3, .int (nI ud), .ref a5, .ref a6, .ref a7, .int (nI ln), .int (nI nx), .int (nI ts), .int tk, .int vl, .int er, .ref a14, .int rq, .ref a16]), (a1, AI G 568 sf), (a14, AI G 64 vf)]) := by
  refine Ci.of (cc := cX7_grow) (maxL := 5) (ty := .int) (by decide) rfl (Nat.le_of_ble_eq_true rfl) ?_
  intro p e s m below meth c A ls Q hx hb hml hts hown hA hS hP hK hN hSS hD hl ret
  have hown : s.vm.findClass RX7 = some m.cls := hown
  have hl : lv_has ls 5 [(0, .ref m0), (1, .int sel)] := hl
  have hi7 : ∀ w ∈ wsX70, w ∈ wsX7_grow := mem_places [20, 21, 22, 23, 24, 25, 26, 27, 28, 29, 30, 31, 32, 33, 34, 35, 36] (by decide +kernel)
  refine lv_iload_n hx hb dX7_grow_0 rfl (lv_at hl 1 rfl) ?_
  refine lv_istore_n (lv' := [(2, .int sel), (0, .ref m0), (1, .int sel)]) hx hb dX7_grow_1 rfl hl (by decide) rfl (fun ls hl => ?_)
  refine lv_iconst (v := 0) hx hb dX7_grow_2 (by decide) ?_
  refine lv_istore_n (lv' := [(3, .int 0), (2, .int sel), (0, .ref m0), (1, .int sel)]) hx hb dX7_grow_3 rfl hl (by decide) rfl (fun ls hl => ?_)
  have L4 : ∀ (kf : Nat) (q : Nat) (acc : Int32) (H : Heap) (locs : List Loc) (ls : Array Slot), n - q < kf → (q ≤ n) → (acc = growM (satM vf rq) (fun c => cA sf c 4) sel q) → va_P G.1 vwCl [(m0, OB 7 [.int th, .ref a1, .ref a2, .ref a3, .int (nI ud), .ref a5, .ref a6, .ref a7, .int (nI ln), .int (nI nx), .int (nI ts), .int tk, .int vl, .int er, .ref a14, .int rq, .ref a16]), (a1, AI G 568 sf), (a14, AI G 64 vf)] H → va_D A [(m0, OB 7 [.int th, .ref a1, .ref a2, .ref a3, .int (nI ud), .ref a5, .ref a6, .ref a7, .int (nI ln), .int (nI nx), .int (nI ts), .int tk, .int vl, .int er, .ref a14, .int rq, .ref a16]), (a1, AI G 568 sf), (a14, AI G 64 vf)] → va_S A s.heap H locs → lv_has ls 5 [(0, .ref m0), (1, .int sel), (2, .int acc), (3, .int (nI q))] → W p l e rmX7_grow s m ([.ref m0, .int sel] : List Value).toArray below meth c H locs 0 0 Q (F0 m 4 ls []) := by
    intro kf
    induction kf with
    | zero => intro q acc H locs ls h; exact absurd h (Nat.not_lt_zero _)
    | succ kf ih =>
      intro q acc H locs ls hk hi ha hP hD hS hl
      refine lv_iload_n hx hb dX7_grow_4 rfl (lv_at hl 3 rfl) ?_
      refine lv_aload_n hx hb dX7_grow_5 rfl (lv_at hl 0 rfl) ?_
      refine va_get (D := G.1) (ci := 7) (v := .ref a1) (C := RX7) (T := TX7) (N := 17) hx hb hts hi7 hown hK hP 0 rfl rfl 1 (by decide) (hts (.fieldLink RX7 7 "ConflictEnumeratorModel" "s" "[I") (List.mem_of_getElem? (i := 1) rfl)) (fun _ h9 => h9) rfl dX7_grow_6 ?_
      refine lv_iconst (v := 0) hx hb dX7_grow_9 (by decide) ?_
      refine wa_iald hx hb hK hP 1 rfl (0) (rfl) (by omega) (by decide) dX7_grow_10 ?_
      rw [show sf 0 = nI n from hc]
      refine lv_icmp_ge (tgt := 71) hx hb dX7_grow_11 (by decide) (fun c_11 => ?_) (fun c_11 => ?_)
      ·
        have c_11 : n ≤ q := (nI_leI (a := n) (b := q) (by omega) (by omega)).mp c_11
        refine lv_iload_n hx hb dX7_grow_71 rfl (lv_at hl 2 rfl) ?_
        exact ret acc _ _ _ _ _ _ _ (Nat.le_of_ble_eq_true rfl) (Nat.le_of_ble_eq_true rfl) (rfl) (⟨by rw [ha, show q = n by omega], rfl⟩) (hP.sub (ws' := [(m0, OB 7 [.int th, .ref a1, .ref a2, .ref a3, .int (nI ud), .ref a5, .ref a6, .ref a7, .int (nI ln), .int (nI nx), .int (nI ts), .int tk, .int vl, .int er, .ref a14, .int rq, .ref a16]), (a1, AI G 568 sf), (a14, AI G 64 vf)]) [0, 1, 2] rfl) (hD.sub (ws' := [(m0, OB 7 [.int th, .ref a1, .ref a2, .ref a3, .int (nI ud), .ref a5, .ref a6, .ref a7, .int (nI ln), .int (nI nx), .int (nI ts), .int tk, .int vl, .int er, .ref a14, .int rq, .ref a16]), (a1, AI G 568 sf), (a14, AI G 64 vf)]) [0, 1, 2] (by decide) rfl) hS dX7_grow_72
      ·
        have c_11 : q < n := by have h9 := mt (nI_leI (a := n) (b := q) (by omega) (by omega)).mpr c_11; omega
        refine lv_aload_n hx hb dX7_grow_14 rfl (lv_at hl 0 rfl) ?_
        refine lv_iload_n hx hb dX7_grow_15 rfl (lv_at hl 3 rfl) ?_
        refine lv_iconst (v := 4) hx hb dX7_grow_16 (by decide) ?_
        refine call_Vi (rest := []) (As := [.int (nI q), .int 4]) (wr := [(a14, AI G 64 vf)]) (c1 := 0) (s1 := 0) ⟨hx, hb, hml, hown, hts⟩ (c_X7_of l G m0 a1 a2 a3 a5 a6 a7 a14 a16 th ud ln nx ts tk vl er rq sf q 4 (by first | assumption | omega)) (cwV 2 hts gX7_grow_X7_of rfl rfl rfl (by decide +kernel) ⟨Nat.le_of_ble_eq_true rfl, Nat.le_of_ble_eq_true rfl⟩) hK hN hSS hP hD hS hA 0 7 rfl rfl rfl [0, 1] [2] rfl rfl (by decide) (by decide) (by decide) rfl hl.1 rfl (Nat.le_of_ble_eq_true rfl) dX7_grow_17 ⟨Nat.le_of_ble_eq_true rfl, Nat.le_of_ble_eq_true rfl⟩ rfl rfl (fun r_17 u_17 H locs hpo hP hD hS => ?_)
        obtain ⟨hr9, rfl⟩ := hpo
        subst r_17
        have hP : va_P G.1 vwCl [(a14, AI G 64 vf), (m0, OB 7 [.int th, .ref a1, .ref a2, .ref a3, .int (nI ud), .ref a5, .ref a6, .ref a7, .int (nI ln), .int (nI nx), .int (nI ts), .int tk, .int vl, .int er, .ref a14, .int rq, .ref a16]), (a1, AI G 568 sf)] H := hP
        have hD : va_D A [(a14, AI G 64 vf), (m0, OB 7 [.int th, .ref a1, .ref a2, .ref a3, .int (nI ud), .ref a5, .ref a6, .ref a7, .int (nI ln), .int (nI nx), .int (nI ts), .int tk, .int vl, .int er, .ref a14, .int rq, .ref a16]), (a1, AI G 568 sf)] := hD
        refine lv_if_ne (tgt := 35) hx hb dX7_grow_20 (by decide) (fun c_20 => ?_) (fun c_20 => ?_)
        ·
          refine lv_iconst (v := 0) hx hb dX7_grow_35 (by decide) ?_
          refine lv_istore (lv' := [(4, .int 0), (0, .ref m0), (1, .int sel), (2, .int acc), (3, .int (nI q))]) hx hb dX7_grow_36 hl (by decide) rfl (fun ls hl => ?_)
          refine lv_iload_n hx hb dX7_grow_38 rfl (lv_at hl 3 rfl) ?_
          refine lv_iload hx hb dX7_grow_39 (lv_at hl 0 rfl) ?_
          refine lv_if_eq (tgt := 62) hx hb dX7_grow_41 (by decide) (fun c_41 => ?_) (fun c_41 => absurd c_41 (by decide))
          refine lv_iconst (v := 0) hx hb dX7_grow_62 (by decide) ?_
          refine lv_ior hx hb dX7_grow_63 ?_
          refine lv_istore_n (lv' := [(2, .int (acc ||| 0)), (4, .int 0), (0, .ref m0), (1, .int sel), (3, .int (nI q))]) hx hb dX7_grow_64 rfl hl (by decide) rfl (fun ls hl => ?_)
          refine lv_iinc (v := nI (q + 1)) (lv' := [(3, .int (nI (q + 1))), (2, .int (acc ||| 0)), (4, .int 0), (0, .ref m0), (1, .int sel)]) hx hb dX7_grow_65 hl (k := 4) rfl (nI_inc (q) 1) (by decide) rfl (fun ls hl => ?_)
          refine lv_goto (tgt := 4) hx hb dX7_grow_68 (by decide) ?_
          exact ih (q + 1) (acc ||| 0) _ _ _ (by omega) (by omega) (by simp only [growM, ← ha]; simp [c_11, c_20, c_41]) (hP.sub (ws' := [(m0, OB 7 [.int th, .ref a1, .ref a2, .ref a3, .int (nI ud), .ref a5, .ref a6, .ref a7, .int (nI ln), .int (nI nx), .int (nI ts), .int tk, .int vl, .int er, .ref a14, .int rq, .ref a16]), (a1, AI G 568 sf), (a14, AI G 64 vf)]) [1, 2, 0] rfl) (hD.sub (ws' := [(m0, OB 7 [.int th, .ref a1, .ref a2, .ref a3, .int (nI ud), .ref a5, .ref a6, .ref a7, .int (nI ln), .int (nI nx), .int (nI ts), .int tk, .int vl, .int er, .ref a14, .int rq, .ref a16]), (a1, AI G 568 sf), (a14, AI G 64 vf)]) [1, 2, 0] (by decide) rfl) hS (lv_sub (l' := [(0, .ref m0), (1, .int sel), (2, .int (acc ||| 0)), (3, .int (nI (q + 1)))]) hl [3, 4, 1, 0] rfl)
        ·
          refine lv_iload_n hx hb dX7_grow_23 rfl (lv_at hl 2 rfl) ?_
          refine lv_iload_n hx hb dX7_grow_24 rfl (lv_at hl 3 rfl) ?_
          refine call_Si (rest := []) (As := [.int acc, .int (nI q)]) (wr := [(a14, AI G 64 vf), (m0, OB 7 [.int th, .ref a1, .ref a2, .ref a3, .int (nI ud), .ref a5, .ref a6, .ref a7, .int (nI ln), .int (nI nx), .int (nI ts), .int tk, .int vl, .int er, .ref a14, .int rq, .ref a16]), (a1, AI G 568 sf)]) (c1 := 0) (s1 := 0) ⟨hx, hb, hml, hown, hts⟩ (c_X7_has l G acc (nI q) ) (va_cwS 2 hts gX7_grow_X7_has rfl rfl rfl (by decide +kernel) ⟨Nat.le_of_ble_eq_true rfl, Nat.le_of_ble_eq_true rfl⟩) hK hN hSS hP hD hS hA [] [0, 1, 2] rfl rfl (by decide) (by decide) (by decide) rfl hl.1 rfl (Nat.le_of_ble_eq_true rfl) dX7_grow_25 ⟨Nat.le_of_ble_eq_true rfl, Nat.le_of_ble_eq_true rfl⟩ rfl rfl (fun r_25 u_25 H locs hpo hP hD hS => ?_)
          obtain ⟨hr9, rfl⟩ := hpo
          subst r_25
          have hP : va_P G.1 vwCl [(a14, AI G 64 vf), (m0, OB 7 [.int th, .ref a1, .ref a2, .ref a3, .int (nI ud), .ref a5, .ref a6, .ref a7, .int (nI ln), .int (nI nx), .int (nI ts), .int tk, .int vl, .int er, .ref a14, .int rq, .ref a16]), (a1, AI G 568 sf)] H := hP
          have hD : va_D A [(a14, AI G 64 vf), (m0, OB 7 [.int th, .ref a1, .ref a2, .ref a3, .int (nI ud), .ref a5, .ref a6, .ref a7, .int (nI ln), .int (nI nx), .int (nI ts), .int tk, .int vl, .int er, .ref a14, .int rq, .ref a16]), (a1, AI G 568 sf)] := hD
          refine wb_ne (tgt := 35) hx hb dX7_grow_28 (by decide) (fun c_28 => ?_) (fun c_28 => ?_)
          ·
            refine lv_iconst (v := 0) hx hb dX7_grow_35 (by decide) ?_
            refine lv_istore (lv' := [(4, .int 0), (0, .ref m0), (1, .int sel), (2, .int acc), (3, .int (nI q))]) hx hb dX7_grow_36 hl (by decide) rfl (fun ls hl => ?_)
            refine lv_iload_n hx hb dX7_grow_38 rfl (lv_at hl 3 rfl) ?_
            refine lv_iload hx hb dX7_grow_39 (lv_at hl 0 rfl) ?_
            refine lv_if_eq (tgt := 62) hx hb dX7_grow_41 (by decide) (fun c_41 => ?_) (fun c_41 => absurd c_41 (by decide))
            refine lv_iconst (v := 0) hx hb dX7_grow_62 (by decide) ?_
            refine lv_ior hx hb dX7_grow_63 ?_
            refine lv_istore_n (lv' := [(2, .int (acc ||| 0)), (4, .int 0), (0, .ref m0), (1, .int sel), (3, .int (nI q))]) hx hb dX7_grow_64 rfl hl (by decide) rfl (fun ls hl => ?_)
            refine lv_iinc (v := nI (q + 1)) (lv' := [(3, .int (nI (q + 1))), (2, .int (acc ||| 0)), (4, .int 0), (0, .ref m0), (1, .int sel)]) hx hb dX7_grow_65 hl (k := 4) rfl (nI_inc (q) 1) (by decide) rfl (fun ls hl => ?_)
            refine lv_goto (tgt := 4) hx hb dX7_grow_68 (by decide) ?_
            exact ih (q + 1) (acc ||| 0) _ _ _ (by omega) (by omega) (by simp only [growM, ← ha]; simp [c_11, c_20, c_28, c_41]) (hP.sub (ws' := [(m0, OB 7 [.int th, .ref a1, .ref a2, .ref a3, .int (nI ud), .ref a5, .ref a6, .ref a7, .int (nI ln), .int (nI nx), .int (nI ts), .int tk, .int vl, .int er, .ref a14, .int rq, .ref a16]), (a1, AI G 568 sf), (a14, AI G 64 vf)]) [1, 2, 0] rfl) (hD.sub (ws' := [(m0, OB 7 [.int th, .ref a1, .ref a2, .ref a3, .int (nI ud), .ref a5, .ref a6, .ref a7, .int (nI ln), .int (nI nx), .int (nI ts), .int tk, .int vl, .int er, .ref a14, .int rq, .ref a16]), (a1, AI G 568 sf), (a14, AI G 64 vf)]) [1, 2, 0] (by decide) rfl) hS (lv_sub (l' := [(0, .ref m0), (1, .int sel), (2, .int (acc ||| 0)), (3, .int (nI (q + 1)))]) hl [3, 4, 1, 0] rfl)
          ·
            refine lv_iconst (v := 1) hx hb dX7_grow_31 (by decide) ?_
            refine lv_goto (tgt := 36) hx hb dX7_grow_32 (by decide) ?_
            refine lv_istore (lv' := [(4, .int 1), (0, .ref m0), (1, .int sel), (2, .int acc), (3, .int (nI q))]) hx hb dX7_grow_36 hl (by decide) rfl (fun ls hl => ?_)
            refine lv_iload_n hx hb dX7_grow_38 rfl (lv_at hl 3 rfl) ?_
            refine lv_iload hx hb dX7_grow_39 (lv_at hl 0 rfl) ?_
            refine lv_if_eq (tgt := 62) hx hb dX7_grow_41 (by decide) (fun c_41 => absurd c_41 (by decide)) (fun c_41 => ?_)
            refine lv_aload_n hx hb dX7_grow_44 rfl (lv_at hl 1 rfl) ?_
            refine lv_iload_n hx hb dX7_grow_45 rfl (lv_at hl 3 rfl) ?_
            refine lv_iconst (v := 1) hx hb dX7_grow_46 (by decide) ?_
            refine lv_iload_n hx hb dX7_grow_47 rfl (lv_at hl 4 rfl) ?_
            refine wn_bit hx hb (q) rfl rfl dX7_grow_48 ?_
            refine lv_ior hx hb dX7_grow_49 ?_
            refine call_Vi (rest := [.int acc]) (As := [.int (acc ||| (bitI q))]) (wr := [(a1, AI G 568 sf)]) (c1 := 0) (s1 := 0) ⟨hx, hb, hml, hown, hts⟩ (c_X7_isSatisfiable l G m0 a1 a2 a3 a5 a6 a7 a14 a16 th ud ln nx ts tk vl er rq vf (acc ||| (bitI q)) ) (cwV 1 hts gX7_grow_X7_isSatisfiable rfl rfl rfl (by decide +kernel) ⟨Nat.le_of_ble_eq_true rfl, Nat.le_of_ble_eq_true rfl⟩) hK hN hSS hP hD hS hA 0 7 rfl rfl rfl [1, 0] [2] rfl rfl (by decide) (by decide) (by decide) rfl hl.1 rfl (Nat.le_of_ble_eq_true rfl) dX7_grow_50 ⟨Nat.le_of_ble_eq_true rfl, Nat.le_of_ble_eq_true rfl⟩ rfl rfl (fun r_50 u_50 H locs hpo hP hD hS => ?_)
            obtain ⟨hr9, rfl⟩ := hpo
            subst r_50
            have hP : va_P G.1 vwCl [(a1, AI G 568 sf), (m0, OB 7 [.int th, .ref a1, .ref a2, .ref a3, .int (nI ud), .ref a5, .ref a6, .ref a7, .int (nI ln), .int (nI nx), .int (nI ts), .int tk, .int vl, .int er, .ref a14, .int rq, .ref a16]), (a14, AI G 64 vf)] H := hP
            have hD : va_D A [(a1, AI G 568 sf), (m0, OB 7 [.int th, .ref a1, .ref a2, .ref a3, .int (nI ud), .ref a5, .ref a6, .ref a7, .int (nI ln), .int (nI nx), .int (nI ts), .int tk, .int vl, .int er, .ref a14, .int rq, .ref a16]), (a14, AI G 64 vf)] := hD
            refine wb_eq (tgt := 62) hx hb dX7_grow_53 (by decide) (fun c_53 => ?_) (fun c_53 => ?_)
            ·
              refine lv_iconst (v := 0) hx hb dX7_grow_62 (by decide) ?_
              refine lv_ior hx hb dX7_grow_63 ?_
              refine lv_istore_n (lv' := [(2, .int (acc ||| 0)), (4, .int 1), (0, .ref m0), (1, .int sel), (3, .int (nI q))]) hx hb dX7_grow_64 rfl hl (by decide) rfl (fun ls hl => ?_)
              refine lv_iinc (v := nI (q + 1)) (lv' := [(3, .int (nI (q + 1))), (2, .int (acc ||| 0)), (4, .int 1), (0, .ref m0), (1, .int sel)]) hx hb dX7_grow_65 hl (k := 4) rfl (nI_inc (q) 1) (by decide) rfl (fun ls hl => ?_)
              refine lv_goto (tgt := 4) hx hb dX7_grow_68 (by decide) ?_
              exact ih (q + 1) (acc ||| 0) _ _ _ (by omega) (by omega) (by simp only [growM, ← ha]; simp [c_11, c_20, c_28, c_41, c_53]) (hP.sub (ws' := [(m0, OB 7 [.int th, .ref a1, .ref a2, .ref a3, .int (nI ud), .ref a5, .ref a6, .ref a7, .int (nI ln), .int (nI nx), .int (nI ts), .int tk, .int vl, .int er, .ref a14, .int rq, .ref a16]), (a1, AI G 568 sf), (a14, AI G 64 vf)]) [1, 0, 2] rfl) (hD.sub (ws' := [(m0, OB 7 [.int th, .ref a1, .ref a2, .ref a3, .int (nI ud), .ref a5, .ref a6, .ref a7, .int (nI ln), .int (nI nx), .int (nI ts), .int tk, .int vl, .int er, .ref a14, .int rq, .ref a16]), (a1, AI G 568 sf), (a14, AI G 64 vf)]) [1, 0, 2] (by decide) rfl) hS (lv_sub (l' := [(0, .ref m0), (1, .int sel), (2, .int (acc ||| 0)), (3, .int (nI (q + 1)))]) hl [3, 4, 1, 0] rfl)
            ·
              refine lv_iconst (v := 1) hx hb dX7_grow_56 (by decide) ?_
              refine lv_iload_n hx hb dX7_grow_57 rfl (lv_at hl 4 rfl) ?_
              refine wn_bit hx hb (q) rfl rfl dX7_grow_58 ?_
              refine lv_goto (tgt := 63) hx hb dX7_grow_59 (by decide) ?_
              refine lv_ior hx hb dX7_grow_63 ?_
              refine lv_istore_n (lv' := [(2, .int (acc ||| (bitI q))), (4, .int 1), (0, .ref m0), (1, .int sel), (3, .int (nI q))]) hx hb dX7_grow_64 rfl hl (by decide) rfl (fun ls hl => ?_)
              refine lv_iinc (v := nI (q + 1)) (lv' := [(3, .int (nI (q + 1))), (2, .int (acc ||| (bitI q))), (4, .int 1), (0, .ref m0), (1, .int sel)]) hx hb dX7_grow_65 hl (k := 4) rfl (nI_inc (q) 1) (by decide) rfl (fun ls hl => ?_)
              refine lv_goto (tgt := 4) hx hb dX7_grow_68 (by decide) ?_
              exact ih (q + 1) (acc ||| (bitI q)) _ _ _ (by omega) (by omega) (by simp only [growM, ← ha]; simp [c_11, c_20, c_28, c_41, c_53]) (hP.sub (ws' := [(m0, OB 7 [.int th, .ref a1, .ref a2, .ref a3, .int (nI ud), .ref a5, .ref a6, .ref a7, .int (nI ln), .int (nI nx), .int (nI ts), .int tk, .int vl, .int er, .ref a14, .int rq, .ref a16]), (a1, AI G 568 sf), (a14, AI G 64 vf)]) [1, 0, 2] rfl) (hD.sub (ws' := [(m0, OB 7 [.int th, .ref a1, .ref a2, .ref a3, .int (nI ud), .ref a5, .ref a6, .ref a7, .int (nI ln), .int (nI nx), .int (nI ts), .int tk, .int vl, .int er, .ref a14, .int rq, .ref a16]), (a1, AI G 568 sf), (a14, AI G 64 vf)]) [1, 0, 2] (by decide) rfl) hS (lv_sub (l' := [(0, .ref m0), (1, .int sel), (2, .int (acc ||| (bitI q))), (3, .int (nI (q + 1)))]) hl [3, 4, 1, 0] rfl)
  exact L4 ((n - 0) + 1) 0 sel _ _ _ (Nat.lt_succ_self _) (Nat.zero_le _) (rfl) (hP.sub (ws' := [(m0, OB 7 [.int th, .ref a1, .ref a2, .ref a3, .int (nI ud), .ref a5, .ref a6, .ref a7, .int (nI ln), .int (nI nx), .int (nI ts), .int tk, .int vl, .int er, .ref a14, .int rq, .ref a16]), (a1, AI G 568 sf), (a14, AI G 64 vf)]) [0, 1, 2] rfl) (hD.sub (ws' := [(m0, OB 7 [.int th, .ref a1, .ref a2, .ref a3, .int (nI ud), .ref a5, .ref a6, .ref a7, .int (nI ln), .int (nI nx), .int (nI ts), .int tk, .int vl, .int er, .ref a14, .int rq, .ref a16]), (a1, AI G 568 sf), (a14, AI G 64 vf)]) [0, 1, 2] (by decide) rfl) hS (lv_sub (l' := [(0, .ref m0), (1, .int sel), (2, .int sel), (3, .int (nI 0))]) hl [2, 3, 1, 0] rfl)
abbrev rmX7_shrink : Room := { frames := 2, cells := 0, slots := 0, locals := 43 }
set_option maxHeartbeats 4000000 in
set_option maxRecDepth 100000 in
theorem c_X7_shrink (l : Launch) (G : GT) (m0 a1 a2 a3 a5 a6 a7 a14 a16 : Nat) (th : Int32) (ud ln nx ts : Nat) (tk vl er rq : Int32) (sf : Nat → Int32) (n : Nat) (vf : Nat → Int32) (sel : Int32) (hc : sf 0 = nI n) (hn : n ≤ 10) : Ci l yX7_shrink wsX7_shrink rmX7_shrink G [.ref m0, .int sel] [(m0, OB 7 [.int th, .ref a1, .ref a2, .ref a3, .int (nI ud), .ref a5, .ref a6, .ref a7, .int (nI ln), .int (nI nx), .int (nI ts), .int tk, .int vl, .int er, .ref a14, .int rq, .ref a16]), (a1, AI G 568 sf), (a14, AI G 64 vf)] (fun r u => r = shrM (satM vf rq) sel n ∧ u = [(m0, OB 7 [.int th, .ref a1, .ref a2, .ref a3, .int (nI ud), .ref a5, .ref a6, .ref a7, .int (nI ln), .int (nI nx), .int (nI ts), .int tk, .int vl, .int er, .ref a14, .int rq, .ref a16]), (a1, AI G 568 sf), (a14, AI G 64 vf)]) := by
  refine Ci.of (cc := cX7_shrink) (maxL := 5) (ty := .int) (by decide) rfl (Nat.le_of_ble_eq_true rfl) ?_
  intro p e s m below meth c A ls Q hx hb hml hts hown hA hS hP hK hN hSS hD hl ret
  have hown : s.vm.findClass RX7 = some m.cls := hown
  have hl : lv_has ls 5 [(0, .ref m0), (1, .int sel)] := hl
  have hi7 : ∀ w ∈ wsX70, w ∈ wsX7_shrink := mem_places [16, 17, 18, 19, 20, 21, 22, 23, 24, 25, 26, 27, 28, 29, 30, 31, 32] (by decide +kernel)
  refine lv_iload_n hx hb dX7_shrink_0 rfl (lv_at hl 1 rfl) ?_
  refine lv_istore_n (lv' := [(2, .int sel), (0, .ref m0), (1, .int sel)]) hx hb dX7_shrink_1 rfl hl (by decide) rfl (fun ls hl => ?_)
  refine lv_iconst (v := 0) hx hb dX7_shrink_2 (by decide) ?_
  refine lv_istore_n (lv' := [(3, .int 0), (2, .int sel), (0, .ref m0), (1, .int sel)]) hx hb dX7_shrink_3 rfl hl (by decide) rfl (fun ls hl => ?_)
  have L4 : ∀ (kf : Nat) (q : Nat) (acc : Int32) (H : Heap) (locs : List Loc) (ls : Array Slot), n - q < kf → (q ≤ n) → (acc = shrM (satM vf rq) sel q) → va_P G.1 vwCl [(m0, OB 7 [.int th, .ref a1, .ref a2, .ref a3, .int (nI ud), .ref a5, .ref a6, .ref a7, .int (nI ln), .int (nI nx), .int (nI ts), .int tk, .int vl, .int er, .ref a14, .int rq, .ref a16]), (a1, AI G 568 sf), (a14, AI G 64 vf)] H → va_D A [(m0, OB 7 [.int th, .ref a1, .ref a2, .ref a3, .int (nI ud), .ref a5, .ref a6, .ref a7, .int (nI ln), .int (nI nx), .int (nI ts), .int tk, .int vl, .int er, .ref a14, .int rq, .ref a16]), (a1, AI G 568 sf), (a14, AI G 64 vf)] → va_S A s.heap H locs → lv_has ls 5 [(0, .ref m0), (1, .int sel), (2, .int acc), (3, .int (nI q))] → W p l e rmX7_shrink s m ([.ref m0, .int sel] : List Value).toArray below meth c H locs 0 0 Q (F0 m 4 ls []) := by
    intro kf
    induction kf with
    | zero => intro q acc H locs ls h; exact absurd h (Nat.not_lt_zero _)
    | succ kf ih =>
      intro q acc H locs ls hk hi ha hP hD hS hl
      refine lv_iload_n hx hb dX7_shrink_4 rfl (lv_at hl 3 rfl) ?_
      refine lv_aload_n hx hb dX7_shrink_5 rfl (lv_at hl 0 rfl) ?_
      refine va_get (D := G.1) (ci := 7) (v := .ref a1) (C := RX7) (T := TX7) (N := 17) hx hb hts hi7 hown hK hP 0 rfl rfl 1 (by decide) (hts (.fieldLink RX7 7 "ConflictEnumeratorModel" "s" "[I") (List.mem_of_getElem? (i := 1) rfl)) (fun _ h9 => h9) rfl dX7_shrink_6 ?_
      refine lv_iconst (v := 0) hx hb dX7_shrink_9 (by decide) ?_
      refine wa_iald hx hb hK hP 1 rfl (0) (rfl) (by omega) (by decide) dX7_shrink_10 ?_
      rw [show sf 0 = nI n from hc]
      refine lv_icmp_ge (tgt := 66) hx hb dX7_shrink_11 (by decide) (fun c_11 => ?_) (fun c_11 => ?_)
      ·
        have c_11 : n ≤ q := (nI_leI (a := n) (b := q) (by omega) (by omega)).mp c_11
        refine lv_iload_n hx hb dX7_shrink_66 rfl (lv_at hl 2 rfl) ?_
        exact ret acc _ _ _ _ _ _ _ (Nat.le_of_ble_eq_true rfl) (Nat.le_of_ble_eq_true rfl) (rfl) (⟨by rw [ha, show q = n by omega], rfl⟩) (hP.sub (ws' := [(m0, OB 7 [.int th, .ref a1, .ref a2, .ref a3, .int (nI ud), .ref a5, .ref a6, .ref a7, .int (nI ln), .int (nI nx), .int (nI ts), .int tk, .int vl, .int er, .ref a14, .int rq, .ref a16]), (a1, AI G 568 sf), (a14, AI G 64 vf)]) [0, 1, 2] rfl) (hD.sub (ws' := [(m0, OB 7 [.int th, .ref a1, .ref a2, .ref a3, .int (nI ud), .ref a5, .ref a6, .ref a7, .int (nI ln), .int (nI nx), .int (nI ts), .int tk, .int vl, .int er, .ref a14, .int rq, .ref a16]), (a1, AI G 568 sf), (a14, AI G 64 vf)]) [0, 1, 2] (by decide) rfl) hS dX7_shrink_67
      ·
        have c_11 : q < n := by have h9 := mt (nI_leI (a := n) (b := q) (by omega) (by omega)).mpr c_11; omega
        refine lv_iload_n hx hb dX7_shrink_14 rfl (lv_at hl 2 rfl) ?_
        refine lv_iload_n hx hb dX7_shrink_15 rfl (lv_at hl 3 rfl) ?_
        refine call_Si (rest := []) (As := [.int acc, .int (nI q)]) (wr := [(m0, OB 7 [.int th, .ref a1, .ref a2, .ref a3, .int (nI ud), .ref a5, .ref a6, .ref a7, .int (nI ln), .int (nI nx), .int (nI ts), .int tk, .int vl, .int er, .ref a14, .int rq, .ref a16]), (a1, AI G 568 sf), (a14, AI G 64 vf)]) (c1 := 0) (s1 := 0) ⟨hx, hb, hml, hown, hts⟩ (c_X7_has l G acc (nI q) ) (va_cwS 2 hts gX7_shrink_X7_has rfl rfl rfl (by decide +kernel) ⟨Nat.le_of_ble_eq_true rfl, Nat.le_of_ble_eq_true rfl⟩) hK hN hSS hP hD hS hA [] [0, 1, 2] rfl rfl (by decide) (by decide) (by decide) rfl hl.1 rfl (Nat.le_of_ble_eq_true rfl) dX7_shrink_16 ⟨Nat.le_of_ble_eq_true rfl, Nat.le_of_ble_eq_true rfl⟩ rfl rfl (fun r_16 u_16 H locs hpo hP hD hS => ?_)
        obtain ⟨hr9, rfl⟩ := hpo
        subst r_16
        have hP : va_P G.1 vwCl [(m0, OB 7 [.int th, .ref a1, .ref a2, .ref a3, .int (nI ud), .ref a5, .ref a6, .ref a7, .int (nI ln), .int (nI nx), .int (nI ts), .int tk, .int vl, .int er, .ref a14, .int rq, .ref a16]), (a1, AI G 568 sf), (a14, AI G 64 vf)] H := hP
        have hD : va_D A [(m0, OB 7 [.int th, .ref a1, .ref a2, .ref a3, .int (nI ud), .ref a5, .ref a6, .ref a7, .int (nI ln), .int (nI nx), .int (nI ts), .int tk, .int vl, .int er, .ref a14, .int rq, .ref a16]), (a1, AI G 568 sf), (a14, AI G 64 vf)] := hD
        refine wb_eq (tgt := 40) hx hb dX7_shrink_19 (by decide) (fun c_19 => ?_) (fun c_19 => ?_)
        ·
          refine lv_iconst (v := 0) hx hb dX7_shrink_40 (by decide) ?_
          refine lv_istore (lv' := [(4, .int 0), (0, .ref m0), (1, .int sel), (2, .int acc), (3, .int (nI q))]) hx hb dX7_shrink_41 hl (by decide) rfl (fun ls hl => ?_)
          refine lv_iload_n hx hb dX7_shrink_43 rfl (lv_at hl 3 rfl) ?_
          refine lv_iload hx hb dX7_shrink_44 (lv_at hl 0 rfl) ?_
          refine lv_if_eq (tgt := 57) hx hb dX7_shrink_46 (by decide) (fun c_46 => ?_) (fun c_46 => absurd c_46 (by decide))
          refine lv_iconst (v := (-1)) hx hb dX7_shrink_57 (by decide) ?_
          refine lv_iand hx hb dX7_shrink_58 ?_
          refine lv_istore_n (lv' := [(2, .int (acc &&& (-1))), (4, .int 0), (0, .ref m0), (1, .int sel), (3, .int (nI q))]) hx hb dX7_shrink_59 rfl hl (by decide) rfl (fun ls hl => ?_)
          refine lv_iinc (v := nI (q + 1)) (lv' := [(3, .int (nI (q + 1))), (2, .int (acc &&& (-1))), (4, .int 0), (0, .ref m0), (1, .int sel)]) hx hb dX7_shrink_60 hl (k := 4) rfl (nI_inc (q) 1) (by decide) rfl (fun ls hl => ?_)
          refine lv_goto (tgt := 4) hx hb dX7_shrink_63 (by decide) ?_
          exact ih (q + 1) (acc &&& (-1)) _ _ _ (by omega) (by omega) (by simp only [shrM, ← ha]; simp [c_11, c_19, c_46]) (hP.sub (ws' := [(m0, OB 7 [.int th, .ref a1, .ref a2, .ref a3, .int (nI ud), .ref a5, .ref a6, .ref a7, .int (nI ln), .int (nI nx), .int (nI ts), .int tk, .int vl, .int er, .ref a14, .int rq, .ref a16]), (a1, AI G 568 sf), (a14, AI G 64 vf)]) [0, 1, 2] rfl) (hD.sub (ws' := [(m0, OB 7 [.int th, .ref a1, .ref a2, .ref a3, .int (nI ud), .ref a5, .ref a6, .ref a7, .int (nI ln), .int (nI nx), .int (nI ts), .int tk, .int vl, .int er, .ref a14, .int rq, .ref a16]), (a1, AI G 568 sf), (a14, AI G 64 vf)]) [0, 1, 2] (by decide) rfl) hS (lv_sub (l' := [(0, .ref m0), (1, .int sel), (2, .int (acc &&& (-1))), (3, .int (nI (q + 1)))]) hl [3, 4, 1, 0] rfl)
        ·
          refine lv_aload_n hx hb dX7_shrink_22 rfl (lv_at hl 0 rfl) ?_
          refine lv_iload_n hx hb dX7_shrink_23 rfl (lv_at hl 2 rfl) ?_
          refine lv_iconst (v := 1) hx hb dX7_shrink_24 (by decide) ?_
          refine lv_iload_n hx hb dX7_shrink_25 rfl (lv_at hl 3 rfl) ?_
          refine wn_bit hx hb (q) rfl rfl dX7_shrink_26 ?_
          refine lv_iconst (v := (-1)) hx hb dX7_shrink_27 (by decide) ?_
          refine wn_inot hx hb rfl dX7_shrink_28 ?_
          refine lv_iand hx hb dX7_shrink_29 ?_
          refine call_Vi (rest := []) (As := [.int (acc &&& (notI (bitI q)))]) (wr := [(a1, AI G 568 sf)]) (c1 := 0) (s1 := 0) ⟨hx, hb, hml, hown, hts⟩ (c_X7_isSatisfiable l G m0 a1 a2 a3 a5 a6 a7 a14 a16 th ud ln nx ts tk vl er rq vf (acc &&& (notI (bitI q))) ) (cwV 1 hts gX7_shrink_X7_isSatisfiable rfl rfl rfl (by decide +kernel) ⟨Nat.le_of_ble_eq_true rfl, Nat.le_of_ble_eq_true rfl⟩) hK hN hSS hP hD hS hA 0 7 rfl rfl rfl [0, 2] [1] rfl rfl (by decide) (by decide) (by decide) rfl hl.1 rfl (Nat.le_of_ble_eq_true rfl) dX7_shrink_30 ⟨Nat.le_of_ble_eq_true rfl, Nat.le_of_ble_eq_true rfl⟩ rfl rfl (fun r_30 u_30 H locs hpo hP hD hS => ?_)
          obtain ⟨hr9, rfl⟩ := hpo
          subst r_30
          have hP : va_P G.1 vwCl [(a1, AI G 568 sf), (m0, OB 7 [.int th, .ref a1, .ref a2, .ref a3, .int (nI ud), .ref a5, .ref a6, .ref a7, .int (nI ln), .int (nI nx), .int (nI ts), .int tk, .int vl, .int er, .ref a14, .int rq, .ref a16]), (a14, AI G 64 vf)] H := hP
          have hD : va_D A [(a1, AI G 568 sf), (m0, OB 7 [.int th, .ref a1, .ref a2, .ref a3, .int (nI ud), .ref a5, .ref a6, .ref a7, .int (nI ln), .int (nI nx), .int (nI ts), .int tk, .int vl, .int er, .ref a14, .int rq, .ref a16]), (a14, AI G 64 vf)] := hD
          refine wb_ne (tgt := 40) hx hb dX7_shrink_33 (by decide) (fun c_33 => ?_) (fun c_33 => ?_)
          ·
            refine lv_iconst (v := 0) hx hb dX7_shrink_40 (by decide) ?_
            refine lv_istore (lv' := [(4, .int 0), (0, .ref m0), (1, .int sel), (2, .int acc), (3, .int (nI q))]) hx hb dX7_shrink_41 hl (by decide) rfl (fun ls hl => ?_)
            refine lv_iload_n hx hb dX7_shrink_43 rfl (lv_at hl 3 rfl) ?_
            refine lv_iload hx hb dX7_shrink_44 (lv_at hl 0 rfl) ?_
            refine lv_if_eq (tgt := 57) hx hb dX7_shrink_46 (by decide) (fun c_46 => ?_) (fun c_46 => absurd c_46 (by decide))
            refine lv_iconst (v := (-1)) hx hb dX7_shrink_57 (by decide) ?_
            refine lv_iand hx hb dX7_shrink_58 ?_
            refine lv_istore_n (lv' := [(2, .int (acc &&& (-1))), (4, .int 0), (0, .ref m0), (1, .int sel), (3, .int (nI q))]) hx hb dX7_shrink_59 rfl hl (by decide) rfl (fun ls hl => ?_)
            refine lv_iinc (v := nI (q + 1)) (lv' := [(3, .int (nI (q + 1))), (2, .int (acc &&& (-1))), (4, .int 0), (0, .ref m0), (1, .int sel)]) hx hb dX7_shrink_60 hl (k := 4) rfl (nI_inc (q) 1) (by decide) rfl (fun ls hl => ?_)
            refine lv_goto (tgt := 4) hx hb dX7_shrink_63 (by decide) ?_
            exact ih (q + 1) (acc &&& (-1)) _ _ _ (by omega) (by omega) (by simp only [shrM, ← ha]; simp [c_11, c_19, c_33, c_46]) (hP.sub (ws' := [(m0, OB 7 [.int th, .ref a1, .ref a2, .ref a3, .int (nI ud), .ref a5, .ref a6, .ref a7, .int (nI ln), .int (nI nx), .int (nI ts), .int tk, .int vl, .int er, .ref a14, .int rq, .ref a16]), (a1, AI G 568 sf), (a14, AI G 64 vf)]) [1, 0, 2] rfl) (hD.sub (ws' := [(m0, OB 7 [.int th, .ref a1, .ref a2, .ref a3, .int (nI ud), .ref a5, .ref a6, .ref a7, .int (nI ln), .int (nI nx), .int (nI ts), .int tk, .int vl, .int er, .ref a14, .int rq, .ref a16]), (a1, AI G 568 sf), (a14, AI G 64 vf)]) [1, 0, 2] (by decide) rfl) hS (lv_sub (l' := [(0, .ref m0), (1, .int sel), (2, .int (acc &&& (-1))), (3, .int (nI (q + 1)))]) hl [3, 4, 1, 0] rfl)
          ·
            refine lv_iconst (v := 1) hx hb dX7_shrink_36 (by decide) ?_
            refine lv_goto (tgt := 41) hx hb dX7_shrink_37 (by decide) ?_
            refine lv_istore (lv' := [(4, .int 1), (0, .ref m0), (1, .int sel), (2, .int acc), (3, .int (nI q))]) hx hb dX7_shrink_41 hl (by decide) rfl (fun ls hl => ?_)
            refine lv_iload_n hx hb dX7_shrink_43 rfl (lv_at hl 3 rfl) ?_
            refine lv_iload hx hb dX7_shrink_44 (lv_at hl 0 rfl) ?_
            refine lv_if_eq (tgt := 57) hx hb dX7_shrink_46 (by decide) (fun c_46 => absurd c_46 (by decide)) (fun c_46 => ?_)
            refine lv_iconst (v := 1) hx hb dX7_shrink_49 (by decide) ?_
            refine lv_iload_n hx hb dX7_shrink_50 rfl (lv_at hl 4 rfl) ?_
            refine wn_bit hx hb (q) rfl rfl dX7_shrink_51 ?_
            refine lv_iconst (v := (-1)) hx hb dX7_shrink_52 (by decide) ?_
            refine wn_inot hx hb rfl dX7_shrink_53 ?_
            refine lv_goto (tgt := 58) hx hb dX7_shrink_54 (by decide) ?_
            refine lv_iand hx hb dX7_shrink_58 ?_
            refine lv_istore_n (lv' := [(2, .int (acc &&& (notI (bitI q)))), (4, .int 1), (0, .ref m0), (1, .int sel), (3, .int (nI q))]) hx hb dX7_shrink_59 rfl hl (by decide) rfl (fun ls hl => ?_)
            refine lv_iinc (v := nI (q + 1)) (lv' := [(3, .int (nI (q + 1))), (2, .int (acc &&& (notI (bitI q)))), (4, .int 1), (0, .ref m0), (1, .int sel)]) hx hb dX7_shrink_60 hl (k := 4) rfl (nI_inc (q) 1) (by decide) rfl (fun ls hl => ?_)
            refine lv_goto (tgt := 4) hx hb dX7_shrink_63 (by decide) ?_
            exact ih (q + 1) (acc &&& (notI (bitI q))) _ _ _ (by omega) (by omega) (by simp only [shrM, ← ha]; simp [c_11, c_19, c_33, c_46]) (hP.sub (ws' := [(m0, OB 7 [.int th, .ref a1, .ref a2, .ref a3, .int (nI ud), .ref a5, .ref a6, .ref a7, .int (nI ln), .int (nI nx), .int (nI ts), .int tk, .int vl, .int er, .ref a14, .int rq, .ref a16]), (a1, AI G 568 sf), (a14, AI G 64 vf)]) [1, 0, 2] rfl) (hD.sub (ws' := [(m0, OB 7 [.int th, .ref a1, .ref a2, .ref a3, .int (nI ud), .ref a5, .ref a6, .ref a7, .int (nI ln), .int (nI nx), .int (nI ts), .int tk, .int vl, .int er, .ref a14, .int rq, .ref a16]), (a1, AI G 568 sf), (a14, AI G 64 vf)]) [1, 0, 2] (by decide) rfl) hS (lv_sub (l' := [(0, .ref m0), (1, .int sel), (2, .int (acc &&& (notI (bitI q)))), (3, .int (nI (q + 1)))]) hl [3, 4, 1, 0] rfl)
  exact L4 ((n - 0) + 1) 0 sel _ _ _ (Nat.lt_succ_self _) (Nat.zero_le _) (rfl) (hP.sub (ws' := [(m0, OB 7 [.int th, .ref a1, .ref a2, .ref a3, .int (nI ud), .ref a5, .ref a6, .ref a7, .int (nI ln), .int (nI nx), .int (nI ts), .int tk, .int vl, .int er, .ref a14, .int rq, .ref a16]), (a1, AI G 568 sf), (a14, AI G 64 vf)]) [0, 1, 2] rfl) (hD.sub (ws' := [(m0, OB 7 [.int th, .ref a1, .ref a2, .ref a3, .int (nI ud), .ref a5, .ref a6, .ref a7, .int (nI ln), .int (nI nx), .int (nI ts), .int tk, .int vl, .int er, .ref a14, .int rq, .ref a16]), (a1, AI G 568 sf), (a14, AI G 64 vf)]) [0, 1, 2] (by decide) rfl) hS (lv_sub (l' := [(0, .ref m0), (1, .int sel), (2, .int sel), (3, .int (nI 0))]) hl [2, 3, 1, 0] rfl)
abbrev rmX7_emptyLists : Room := { frames := 0, cells := 0, slots := 0, locals := 0 }
set_option maxHeartbeats 4000000 in
set_option maxRecDepth 100000 in
theorem c_X7_emptyLists (l : Launch) (G : GT) (m0 a1 a2 a3 a5 a6 a7 a14 a16 : Nat) (th : Int32) (ud ln nx ts : Nat) (tk vl er rq : Int32) (sf : Nat → Int32)  : Cv l yX7_emptyLists wsX7_emptyLists rmX7_emptyLists G [.ref m0] [(m0, OB 7 [.int th, .ref a1, .ref a2, .ref a3, .int (nI ud), .ref a5, .ref a6, .ref a7, .int (nI ln), .int (nI nx), .int (nI ts), .int tk, .int vl, .int er, .ref a14, .int rq, .ref a16]), (a1, AI G 568 sf)] (fun u => u = [(m0, OB 7 [.int th, .ref a1, .ref a2, .ref a3, .int (nI ud), .ref a5, .ref a6, .ref a7, .int (nI ln), .int (nI nx), .int (nI ts), .int tk, .int vl, .int er, .ref a14, .int rq, .ref a16]), (a1, AI G 568 (emF sf))]) := by
  refine Cv.of (cc := cX7_emptyLists) (maxL := 1) (by decide) rfl (Nat.le_of_ble_eq_true rfl) ?_
  intro p e s m below meth c A ls Q hx hb hml hts hown hin hA hS hP hK hN hSS hD hl ret
  have hown : s.vm.findClass RX7 = some m.cls := hown
  have hl : lv_has ls 1 [(0, .ref m0)] := hl
  have hi7 : ∀ w ∈ wsX70, w ∈ wsX7_emptyLists := mem_places [2, 3, 4, 5, 6, 7, 8, 9, 10, 11, 12, 13, 14, 15, 16, 17, 18] (by decide +kernel)
  refine lv_aload_n hx hb dX7_emptyLists_0 rfl (lv_at hl 0 rfl) ?_
  refine va_get (D := G.1) (ci := 7) (v := .ref a1) (C := RX7) (T := TX7) (N := 17) hx hb hts hi7 hown hK hP 0 rfl rfl 1 (by decide) (hts (.fieldLink RX7 7 "ConflictEnumeratorModel" "s" "[I") (List.mem_of_getElem? (i := 1) rfl)) (fun _ h9 => h9) rfl dX7_emptyLists_1 ?_
  refine lv_iconst (v := 2) hx hb dX7_emptyLists_4 (by decide) ?_
  refine lv_iconst (v := 0) hx hb dX7_emptyLists_5 (by decide) ?_
  refine wa_iast hx hb hK hP hD hS 1 rfl (2) (rfl) (by omega) (by decide) dX7_emptyLists_6 (fun H locs hP hD hS => ?_)
  have hP : va_P G.1 vwCl [(m0, OB 7 [.int th, .ref a1, .ref a2, .ref a3, .int (nI ud), .ref a5, .ref a6, .ref a7, .int (nI ln), .int (nI nx), .int (nI ts), .int tk, .int vl, .int er, .ref a14, .int rq, .ref a16]), (a1, AI G 568 (va_up sf 2 0))] H := hP
  have hD : va_D A [(m0, OB 7 [.int th, .ref a1, .ref a2, .ref a3, .int (nI ud), .ref a5, .ref a6, .ref a7, .int (nI ln), .int (nI nx), .int (nI ts), .int tk, .int vl, .int er, .ref a14, .int rq, .ref a16]), (a1, AI G 568 (va_up sf 2 0))] := hD
  refine lv_aload_n hx hb dX7_emptyLists_7 rfl (lv_at hl 0 rfl) ?_
  refine va_get (D := G.1) (ci := 7) (v := .ref a1) (C := RX7) (T := TX7) (N := 17) hx hb hts hi7 hown hK hP 0 rfl rfl 1 (by decide) (hts (.fieldLink RX7 7 "ConflictEnumeratorModel" "s" "[I") (List.mem_of_getElem? (i := 1) rfl)) (fun _ h9 => h9) rfl dX7_emptyLists_8 ?_
  refine lv_iconst (v := 3) hx hb dX7_emptyLists_11 (by decide) ?_
  refine lv_iconst (v := 0) hx hb dX7_emptyLists_12 (by decide) ?_
  refine wa_iast hx hb hK hP hD hS 1 rfl (3) (rfl) (by omega) (by decide) dX7_emptyLists_13 (fun H locs hP hD hS => ?_)
  have hP : va_P G.1 vwCl [(m0, OB 7 [.int th, .ref a1, .ref a2, .ref a3, .int (nI ud), .ref a5, .ref a6, .ref a7, .int (nI ln), .int (nI nx), .int (nI ts), .int tk, .int vl, .int er, .ref a14, .int rq, .ref a16]), (a1, AI G 568 (va_up (va_up sf 2 0) 3 0))] H := hP
  have hD : va_D A [(m0, OB 7 [.int th, .ref a1, .ref a2, .ref a3, .int (nI ud), .ref a5, .ref a6, .ref a7, .int (nI ln), .int (nI nx), .int (nI ts), .int tk, .int vl, .int er, .ref a14, .int rq, .ref a16]), (a1, AI G 568 (va_up (va_up sf 2 0) 3 0))] := hD
  exact ret _ _ _ _ _ _ _ (Nat.le_of_ble_eq_true rfl) (Nat.le_of_ble_eq_true rfl) (rfl) (hP.sub (ws' := [(m0, OB 7 [.int th, .ref a1, .ref a2, .ref a3, .int (nI ud), .ref a5, .ref a6, .ref a7, .int (nI ln), .int (nI nx), .int (nI ts), .int tk, .int vl, .int er, .ref a14, .int rq, .ref a16]), (a1, AI G 568 (va_up (va_up sf 2 0) 3 0))]) [0, 1] rfl) (hD.sub (ws' := [(m0, OB 7 [.int th, .ref a1, .ref a2, .ref a3, .int (nI ud), .ref a5, .ref a6, .ref a7, .int (nI ln), .int (nI nx), .int (nI ts), .int tk, .int vl, .int er, .ref a14, .int rq, .ref a16]), (a1, AI G 568 (va_up (va_up sf 2 0) 3 0))]) [0, 1] (by decide) rfl) hS dX7_emptyLists_14
abbrev rmX7_saveForUndo : Room := { frames := 0, cells := 0, slots := 0, locals := 0 }
set_option maxHeartbeats 4000000 in
set_option maxRecDepth 100000 in
theorem c_X7_saveForUndo (l : Launch) (G : GT) (m0 a1 a2 a3 a5 a6 a7 a14 a16 : Nat) (th : Int32) (ud ln nx ts : Nat) (tk vl er rq : Int32) (sf hf : Nat → Int32) (hud : ud ≤ 5) : Cv l yX7_saveForUndo wsX7_saveForUndo rmX7_saveForUndo G [.ref m0] [(m0, OB 7 [.int th, .ref a1, .ref a2, .ref a3, .int (nI ud), .ref a5, .ref a6, .ref a7, .int (nI ln), .int (nI nx), .int (nI ts), .int tk, .int vl, .int er, .ref a14, .int rq, .ref a16]), (a1, AI G 568 sf), (a3, AI G 2840 hf)] (fun u => u = [(m0, OB 7 [.int th, .ref a1, .ref a2, .ref a3, .int (nI (pushU ud)), .ref a5, .ref a6, .ref a7, .int (nI ln), .int (nI nx), .int (nI ts), .int tk, .int vl, .int er, .ref a14, .int rq, .ref a16]), (a1, AI G 568 sf), (a3, AI G 2840 (pushF hf sf ud))]) := by
  refine Cv.of (cc := cX7_saveForUndo) (maxL := 2) (by decide) rfl (Nat.le_of_ble_eq_true rfl) ?_
  intro p e s m below meth c A ls Q hx hb hml hts hown hin hA hS hP hK hN hSS hD hl ret
  have hown : s.vm.findClass RX7 = some m.cls := hown
  have hl : lv_has ls 2 [(0, .ref m0)] := hl
  have hi7 : ∀ w ∈ wsX70, w ∈ wsX7_saveForUndo := mem_places [4, 5, 6, 7, 8, 9, 10, 11, 12, 13, 14, 15, 16, 17, 18, 19, 20] (by decide +kernel)
  refine lv_aload_n hx hb dX7_saveForUndo_0 rfl (lv_at hl 0 rfl) ?_
  refine va_get (D := G.1) (ci := 7) (v := .int (nI ud)) (C := RX7) (T := TX7) (N := 17) hx hb hts hi7 hown hK hP 0 rfl rfl 4 (by decide) (hts (.fieldLink RX7 115 "ConflictEnumeratorModel" "undoDepth" "I") (List.mem_of_getElem? (i := 1) rfl)) (fun _ h9 => h9) rfl dX7_saveForUndo_1 ?_
  refine lv_iconst (v := 5) hx hb dX7_saveForUndo_4 (by decide) ?_
  refine lv_icmp_ne (tgt := 49) hx hb dX7_saveForUndo_5 (by decide) (fun c_5 => ?_) (fun c_5 => ?_)
  ·
    have c_5 : ud ≠ 5 := by have h9 := mt (nI_eq (a := ud) (b := 5) (by omega) (by omega)).mpr c_5; omega
    have c_5 : (ud = 5) = False := by simp [c_5]
    refine lv_iconst (v := 0) hx hb dX7_saveForUndo_49 (by decide) ?_
    refine lv_istore_n (lv' := [(1, .int 0), (0, .ref m0)]) hx hb dX7_saveForUndo_50 rfl hl (by decide) rfl (fun ls hl => ?_)
    have L51 : ∀ (kf : Nat) (k : Nat) (g : Nat → Int32) (H : Heap) (locs : List Loc) (ls : Array Slot), 568 - k < kf → (k ≤ 568) → (g = putF hf sf (568 * ud) k) → va_P G.1 vwCl [(m0, OB 7 [.int th, .ref a1, .ref a2, .ref a3, .int (nI ud), .ref a5, .ref a6, .ref a7, .int (nI ln), .int (nI nx), .int (nI ts), .int tk, .int vl, .int er, .ref a14, .int rq, .ref a16]), (a1, AI G 568 sf), (a3, AI G 2840 g)] H → va_D A [(m0, OB 7 [.int th, .ref a1, .ref a2, .ref a3, .int (nI ud), .ref a5, .ref a6, .ref a7, .int (nI ln), .int (nI nx), .int (nI ts), .int tk, .int vl, .int er, .ref a14, .int rq, .ref a16]), (a1, AI G 568 sf), (a3, AI G 2840 g)] → va_S A s.heap H locs → lv_has ls 2 [(0, .ref m0), (1, .int (nI k))] → W p l e rmX7_saveForUndo s m ([.ref m0] : List Value).toArray below meth c H locs 0 0 Q (F0 m 51 ls []) := by
      intro kf
      induction kf with
      | zero => intro k g H locs ls h; exact absurd h (Nat.not_lt_zero _)
      | succ kf ih =>
        intro k g H locs ls hk hi2 hg hP hD hS hl
        refine lv_iload_n hx hb dX7_saveForUndo_51 rfl (lv_at hl 1 rfl) ?_
        refine lv_sipush (v := 568) hx hb dX7_saveForUndo_52 (by decide) ?_
        refine lv_icmp_ge (tgt := 85) hx hb dX7_saveForUndo_55 (by decide) (fun c_55 => ?_) (fun c_55 => ?_)
        ·
          have c_55 : 568 ≤ k := (nI_leI (a := 568) (b := k) (by omega) (by omega)).mp c_55
          refine lv_aload_n hx hb dX7_saveForUndo_85 rfl (lv_at hl 0 rfl) ?_
          refine lv_dup hx hb dX7_saveForUndo_86 rfl ?_
          refine va_get (D := G.1) (ci := 7) (v := .int (nI ud)) (C := RX7) (T := TX7) (N := 17) hx hb hts hi7 hown hK hP 0 rfl rfl 4 (by decide) (hts (.fieldLink RX7 115 "ConflictEnumeratorModel" "undoDepth" "I") (List.mem_of_getElem? (i := 1) rfl)) (fun _ h9 => h9) rfl dX7_saveForUndo_87 ?_
          refine lv_iconst (v := 1) hx hb dX7_saveForUndo_90 (by decide) ?_
          refine wn_iadd hx hb (ud) (1) rfl rfl dX7_saveForUndo_91 ?_
          refine va_put (D := G.1) (ci := 7) (v := .int (nI (ud + 1))) (ty := .int) (C := RX7) (T := TX7) (N := 17) hx hb hts hi7 tyX7 tyX7_ok nmX7 hown hK hP hD hS 0 rfl rfl 4 (by decide) (hts (.fieldLink RX7 115 "ConflictEnumeratorModel" "undoDepth" "I") (List.mem_of_getElem? (i := 1) rfl)) (fun _ h9 => h9) rfl (by decide +kernel) rfl rfl (Nat.le_of_ble_eq_true rfl) dX7_saveForUndo_92 (fun H locs hP hD hS => ?_)
          have hP : va_P G.1 vwCl [(m0, OB 7 [.int th, .ref a1, .ref a2, .ref a3, .int (nI (ud + 1)), .ref a5, .ref a6, .ref a7, .int (nI ln), .int (nI nx), .int (nI ts), .int tk, .int vl, .int er, .ref a14, .int rq, .ref a16]), (a1, AI G 568 sf), (a3, AI G 2840 g)] H := hP
          have hD : va_D A [(m0, OB 7 [.int th, .ref a1, .ref a2, .ref a3, .int (nI (ud + 1)), .ref a5, .ref a6, .ref a7, .int (nI ln), .int (nI nx), .int (nI ts), .int tk, .int vl, .int er, .ref a14, .int rq, .ref a16]), (a1, AI G 568 sf), (a3, AI G 2840 g)] := hD
          exact ret _ _ _ _ _ _ _ (Nat.le_of_ble_eq_true rfl) (Nat.le_of_ble_eq_true rfl) (by obtain rfl : k = 568 := (by omega); subst hg; (first | subst hf9 | skip); simp only [pushF, pushU, c_5]; rfl) (hP.sub (ws' := [(m0, OB 7 [.int th, .ref a1, .ref a2, .ref a3, .int (nI (ud + 1)), .ref a5, .ref a6, .ref a7, .int (nI ln), .int (nI nx), .int (nI ts), .int tk, .int vl, .int er, .ref a14, .int rq, .ref a16]), (a1, AI G 568 sf), (a3, AI G 2840 g)]) [0, 1, 2] rfl) (hD.sub (ws' := [(m0, OB 7 [.int th, .ref a1, .ref a2, .ref a3, .int (nI (ud + 1)), .ref a5, .ref a6, .ref a7, .int (nI ln), .int (nI nx), .int (nI ts), .int tk, .int vl, .int er, .ref a14, .int rq, .ref a16]), (a1, AI G 568 sf), (a3, AI G 2840 g)]) [0, 1, 2] (by decide) rfl) hS dX7_saveForUndo_95
        ·
          have c_55 : k < 568 := by have h9 := mt (nI_leI (a := 568) (b := k) (by omega) (by omega)).mpr c_55; omega
          refine lv_aload_n hx hb dX7_saveForUndo_58 rfl (lv_at hl 0 rfl) ?_
          refine va_get (D := G.1) (ci := 7) (v := .ref a3) (C := RX7) (T := TX7) (N := 17) hx hb hts hi7 hown hK hP 0 rfl rfl 3 (by decide) (hts (.fieldLink RX7 16 "ConflictEnumeratorModel" "history" "[I") (List.mem_of_getElem? (i := 2) rfl)) (fun _ h9 => h9) rfl dX7_saveForUndo_59 ?_
          refine lv_sipush (v := 568) hx hb dX7_saveForUndo_62 (by decide) ?_
          refine lv_aload_n hx hb dX7_saveForUndo_65 rfl (lv_at hl 0 rfl) ?_
          refine va_get (D := G.1) (ci := 7) (v := .int (nI ud)) (C := RX7) (T := TX7) (N := 17) hx hb hts hi7 hown hK hP 0 rfl rfl 4 (by decide) (hts (.fieldLink RX7 115 "ConflictEnumeratorModel" "undoDepth" "I") (List.mem_of_getElem? (i := 1) rfl)) (fun _ h9 => h9) rfl dX7_saveForUndo_66 ?_
          refine wn_imul hx hb (568) (ud) rfl rfl dX7_saveForUndo_69 ?_
          refine lv_iload_n hx hb dX7_saveForUndo_70 rfl (lv_at hl 1 rfl) ?_
          refine wn_iadd hx hb (568 * ud) (k) rfl rfl dX7_saveForUndo_71 ?_
          refine lv_aload_n hx hb dX7_saveForUndo_72 rfl (lv_at hl 0 rfl) ?_
          refine va_get (D := G.1) (ci := 7) (v := .ref a1) (C := RX7) (T := TX7) (N := 17) hx hb hts hi7 hown hK hP 0 rfl rfl 1 (by decide) (hts (.fieldLink RX7 7 "ConflictEnumeratorModel" "s" "[I") (List.mem_of_getElem? (i := 3) rfl)) (fun _ h9 => h9) rfl dX7_saveForUndo_73 ?_
          refine lv_iload_n hx hb dX7_saveForUndo_76 rfl (lv_at hl 1 rfl) ?_
          refine wa_iald hx hb hK hP 1 rfl (k) (rfl) (by omega) (by decide) dX7_saveForUndo_77 ?_
          refine wa_iast hx hb hK hP hD hS 2 rfl ((568 * ud) + k) (rfl) (by omega) (by decide) dX7_saveForUndo_78 (fun H locs hP hD hS => ?_)
          have hP : va_P G.1 vwCl [(m0, OB 7 [.int th, .ref a1, .ref a2, .ref a3, .int (nI ud), .ref a5, .ref a6, .ref a7, .int (nI ln), .int (nI nx), .int (nI ts), .int tk, .int vl, .int er, .ref a14, .int rq, .ref a16]), (a1, AI G 568 sf), (a3, AI G 2840 (va_up g ((568 * ud) + k) (sf k)))] H := hP
          have hD : va_D A [(m0, OB 7 [.int th, .ref a1, .ref a2, .ref a3, .int (nI ud), .ref a5, .ref a6, .ref a7, .int (nI ln), .int (nI nx), .int (nI ts), .int tk, .int vl, .int er, .ref a14, .int rq, .ref a16]), (a1, AI G 568 sf), (a3, AI G 2840 (va_up g ((568 * ud) + k) (sf k)))] := hD
          refine lv_iinc (v := nI (k + 1)) (lv' := [(1, .int (nI (k + 1))), (0, .ref m0)]) hx hb dX7_saveForUndo_79 hl (k := 1) rfl (nI_inc (k) 1) (by decide) rfl (fun ls hl => ?_)
          refine lv_goto (tgt := 51) hx hb dX7_saveForUndo_82 (by decide) ?_
          exact ih (k + 1) (va_up g ((568 * ud) + k) (sf k)) _ _ _ (by omega) (by omega) (by subst hg; exact putF_s _ _ _ _) (hP.sub (ws' := [(m0, OB 7 [.int th, .ref a1, .ref a2, .ref a3, .int (nI ud), .ref a5, .ref a6, .ref a7, .int (nI ln), .int (nI nx), .int (nI ts), .int tk, .int vl, .int er, .ref a14, .int rq, .ref a16]), (a1, AI G 568 sf), (a3, AI G 2840 (va_up g ((568 * ud) + k) (sf k)))]) [0, 1, 2] rfl) (hD.sub (ws' := [(m0, OB 7 [.int th, .ref a1, .ref a2, .ref a3, .int (nI ud), .ref a5, .ref a6, .ref a7, .int (nI ln), .int (nI nx), .int (nI ts), .int tk, .int vl, .int er, .ref a14, .int rq, .ref a16]), (a1, AI G 568 sf), (a3, AI G 2840 (va_up g ((568 * ud) + k) (sf k)))]) [0, 1, 2] (by decide) rfl) hS (lv_sub (l' := [(0, .ref m0), (1, .int (nI (k + 1)))]) hl [1, 0] rfl)
    exact L51 ((568 - 0) + 1) 0 hf _ _ _ (Nat.lt_succ_self _) (Nat.zero_le _) (by first | (subst hf9; exact (putF_0 _ _ _).symm) | exact (putF_0 _ _ _).symm) (hP.sub (ws' := [(m0, OB 7 [.int th, .ref a1, .ref a2, .ref a3, .int (nI ud), .ref a5, .ref a6, .ref a7, .int (nI ln), .int (nI nx), .int (nI ts), .int tk, .int vl, .int er, .ref a14, .int rq, .ref a16]), (a1, AI G 568 sf), (a3, AI G 2840 hf)]) [0, 1, 2] rfl) (hD.sub (ws' := [(m0, OB 7 [.int th, .ref a1, .ref a2, .ref a3, .int (nI ud), .ref a5, .ref a6, .ref a7, .int (nI ln), .int (nI nx), .int (nI ts), .int tk, .int vl, .int er, .ref a14, .int rq, .ref a16]), (a1, AI G 568 sf), (a3, AI G 2840 hf)]) [0, 1, 2] (by decide) rfl) hS (lv_sub (l' := [(0, .ref m0), (1, .int (nI 0))]) hl [1, 0] rfl)
  ·
    have c_5 : ud = 5 := (nI_eq (a := ud) (b := 5) (by omega) (by omega)).mp c_5
    have c_5 : (ud = 5) = True := by simp [c_5]
    have hu5 : ud = 5 := by simpa using c_5
    refine lv_iconst (v := 0) hx hb dX7_saveForUndo_8 (by decide) ?_
    refine lv_istore_n (lv' := [(1, .int 0), (0, .ref m0)]) hx hb dX7_saveForUndo_9 rfl hl (by decide) rfl (fun ls hl => ?_)
    have L10 : ∀ (kf : Nat) (i : Nat) (f : Nat → Int32) (H : Heap) (locs : List Loc) (ls : Array Slot), 2272 - i < kf → (i ≤ 2272) → (f = sftF hf i) → va_P G.1 vwCl [(m0, OB 7 [.int th, .ref a1, .ref a2, .ref a3, .int (nI ud), .ref a5, .ref a6, .ref a7, .int (nI ln), .int (nI nx), .int (nI ts), .int tk, .int vl, .int er, .ref a14, .int rq, .ref a16]), (a1, AI G 568 sf), (a3, AI G 2840 f)] H → va_D A [(m0, OB 7 [.int th, .ref a1, .ref a2, .ref a3, .int (nI ud), .ref a5, .ref a6, .ref a7, .int (nI ln), .int (nI nx), .int (nI ts), .int tk, .int vl, .int er, .ref a14, .int rq, .ref a16]), (a1, AI G 568 sf), (a3, AI G 2840 f)] → va_S A s.heap H locs → lv_has ls 2 [(0, .ref m0), (1, .int (nI i))] → W p l e rmX7_saveForUndo s m ([.ref m0] : List Value).toArray below meth c H locs 0 0 Q (F0 m 10 ls []) := by
      intro kf
      induction kf with
      | zero => intro i f H locs ls h; exact absurd h (Nat.not_lt_zero _)
      | succ kf ih =>
        intro i f H locs ls hk hi hf9 hP hD hS hl
        refine lv_iload_n hx hb dX7_saveForUndo_10 rfl (lv_at hl 1 rfl) ?_
        refine lv_sipush (v := 2272) hx hb dX7_saveForUndo_11 (by decide) ?_
        refine lv_icmp_ge (tgt := 39) hx hb dX7_saveForUndo_14 (by decide) (fun c_14 => ?_) (fun c_14 => ?_)
        ·
          have c_14 : 2272 ≤ i := (nI_leI (a := 2272) (b := i) (by omega) (by omega)).mp c_14
          obtain rfl : i = 2272 := by omega
          refine lv_aload_n hx hb dX7_saveForUndo_39 rfl (lv_at hl 0 rfl) ?_
          refine lv_dup hx hb dX7_saveForUndo_40 rfl ?_
          refine va_get (D := G.1) (ci := 7) (v := .int (nI ud)) (C := RX7) (T := TX7) (N := 17) hx hb hts hi7 hown hK hP 0 rfl rfl 4 (by decide) (hts (.fieldLink RX7 115 "ConflictEnumeratorModel" "undoDepth" "I") (List.mem_of_getElem? (i := 1) rfl)) (fun _ h9 => h9) rfl dX7_saveForUndo_41 ?_
          refine lv_iconst (v := 1) hx hb dX7_saveForUndo_44 (by decide) ?_
          refine wn_isub hx hb (ud) (1) rfl rfl (by omega) dX7_saveForUndo_45 ?_
          refine va_put (D := G.1) (ci := 7) (v := .int (nI (ud - 1))) (ty := .int) (C := RX7) (T := TX7) (N := 17) hx hb hts hi7 tyX7 tyX7_ok nmX7 hown hK hP hD hS 0 rfl rfl 4 (by decide) (hts (.fieldLink RX7 115 "ConflictEnumeratorModel" "undoDepth" "I") (List.mem_of_getElem? (i := 1) rfl)) (fun _ h9 => h9) rfl (by decide +kernel) rfl rfl (Nat.le_of_ble_eq_true rfl) dX7_saveForUndo_46 (fun H locs hP hD hS => ?_)
          have hP : va_P G.1 vwCl [(m0, OB 7 [.int th, .ref a1, .ref a2, .ref a3, .int (nI (ud - 1)), .ref a5, .ref a6, .ref a7, .int (nI ln), .int (nI nx), .int (nI ts), .int tk, .int vl, .int er, .ref a14, .int rq, .ref a16]), (a1, AI G 568 sf), (a3, AI G 2840 f)] H := hP
          have hD : va_D A [(m0, OB 7 [.int th, .ref a1, .ref a2, .ref a3, .int (nI (ud - 1)), .ref a5, .ref a6, .ref a7, .int (nI ln), .int (nI nx), .int (nI ts), .int tk, .int vl, .int er, .ref a14, .int rq, .ref a16]), (a1, AI G 568 sf), (a3, AI G 2840 f)] := hD
          refine lv_iconst (v := 0) hx hb dX7_saveForUndo_49 (by decide) ?_
          refine lv_istore_n (lv' := [(1, .int 0), (0, .ref m0)]) hx hb dX7_saveForUndo_50 rfl hl (by decide) rfl (fun ls hl => ?_)
          have L51 : ∀ (kf : Nat) (k : Nat) (g : Nat → Int32) (H : Heap) (locs : List Loc) (ls : Array Slot), 568 - k < kf → (k ≤ 568) → (g = putF f sf (568 * (ud - 1)) k) → va_P G.1 vwCl [(m0, OB 7 [.int th, .ref a1, .ref a2, .ref a3, .int (nI (ud - 1)), .ref a5, .ref a6, .ref a7, .int (nI ln), .int (nI nx), .int (nI ts), .int tk, .int vl, .int er, .ref a14, .int rq, .ref a16]), (a1, AI G 568 sf), (a3, AI G 2840 g)] H → va_D A [(m0, OB 7 [.int th, .ref a1, .ref a2, .ref a3, .int (nI (ud - 1)), .ref a5, .ref a6, .ref a7, .int (nI ln), .int (nI nx), .int (nI ts), .int tk, .int vl, .int er, .ref a14, .int rq, .ref a16]), (a1, AI G 568 sf), (a3, AI G 2840 g)] → va_S A s.heap H locs → lv_has ls 2 [(0, .ref m0), (1, .int (nI k))] → W p l e rmX7_saveForUndo s m ([.ref m0] : List Value).toArray below meth c H locs 0 0 Q (F0 m 51 ls []) := by
            intro kf
            induction kf with
            | zero => intro k g H locs ls h; exact absurd h (Nat.not_lt_zero _)
            | succ kf ih =>
              intro k g H locs ls hk hi2 hg hP hD hS hl
              refine lv_iload_n hx hb dX7_saveForUndo_51 rfl (lv_at hl 1 rfl) ?_
              refine lv_sipush (v := 568) hx hb dX7_saveForUndo_52 (by decide) ?_
              refine lv_icmp_ge (tgt := 85) hx hb dX7_saveForUndo_55 (by decide) (fun c_55 => ?_) (fun c_55 => ?_)
              ·
                have c_55 : 568 ≤ k := (nI_leI (a := 568) (b := k) (by omega) (by omega)).mp c_55
                refine lv_aload_n hx hb dX7_saveForUndo_85 rfl (lv_at hl 0 rfl) ?_
                refine lv_dup hx hb dX7_saveForUndo_86 rfl ?_
                refine va_get (D := G.1) (ci := 7) (v := .int (nI (ud - 1))) (C := RX7) (T := TX7) (N := 17) hx hb hts hi7 hown hK hP 0 rfl rfl 4 (by decide) (hts (.fieldLink RX7 115 "ConflictEnumeratorModel" "undoDepth" "I") (List.mem_of_getElem? (i := 1) rfl)) (fun _ h9 => h9) rfl dX7_saveForUndo_87 ?_
                refine lv_iconst (v := 1) hx hb dX7_saveForUndo_90 (by decide) ?_
                refine wn_iadd hx hb (ud - 1) (1) rfl rfl dX7_saveForUndo_91 ?_
                refine va_put (D := G.1) (ci := 7) (v := .int (nI ((ud - 1) + 1))) (ty := .int) (C := RX7) (T := TX7) (N := 17) hx hb hts hi7 tyX7 tyX7_ok nmX7 hown hK hP hD hS 0 rfl rfl 4 (by decide) (hts (.fieldLink RX7 115 "ConflictEnumeratorModel" "undoDepth" "I") (List.mem_of_getElem? (i := 1) rfl)) (fun _ h9 => h9) rfl (by decide +kernel) rfl rfl (Nat.le_of_ble_eq_true rfl) dX7_saveForUndo_92 (fun H locs hP hD hS => ?_)
                have hP : va_P G.1 vwCl [(m0, OB 7 [.int th, .ref a1, .ref a2, .ref a3, .int (nI ((ud - 1) + 1)), .ref a5, .ref a6, .ref a7, .int (nI ln), .int (nI nx), .int (nI ts), .int tk, .int vl, .int er, .ref a14, .int rq, .ref a16]), (a1, AI G 568 sf), (a3, AI G 2840 g)] H := hP
                have hD : va_D A [(m0, OB 7 [.int th, .ref a1, .ref a2, .ref a3, .int (nI ((ud - 1) + 1)), .ref a5, .ref a6, .ref a7, .int (nI ln), .int (nI nx), .int (nI ts), .int tk, .int vl, .int er, .ref a14, .int rq, .ref a16]), (a1, AI G 568 sf), (a3, AI G 2840 g)] := hD
                exact ret _ _ _ _ _ _ _ (Nat.le_of_ble_eq_true rfl) (Nat.le_of_ble_eq_true rfl) (by obtain rfl : k = 568 := (by omega); subst hg; (first | subst hf9 | skip); simp only [pushF, pushU, c_5]; rfl) (hP.sub (ws' := [(m0, OB 7 [.int th, .ref a1, .ref a2, .ref a3, .int (nI ((ud - 1) + 1)), .ref a5, .ref a6, .ref a7, .int (nI ln), .int (nI nx), .int (nI ts), .int tk, .int vl, .int er, .ref a14, .int rq, .ref a16]), (a1, AI G 568 sf), (a3, AI G 2840 g)]) [0, 1, 2] rfl) (hD.sub (ws' := [(m0, OB 7 [.int th, .ref a1, .ref a2, .ref a3, .int (nI ((ud - 1) + 1)), .ref a5, .ref a6, .ref a7, .int (nI ln), .int (nI nx), .int (nI ts), .int tk, .int vl, .int er, .ref a14, .int rq, .ref a16]), (a1, AI G 568 sf), (a3, AI G 2840 g)]) [0, 1, 2] (by decide) rfl) hS dX7_saveForUndo_95
              ·
                have c_55 : k < 568 := by have h9 := mt (nI_leI (a := 568) (b := k) (by omega) (by omega)).mpr c_55; omega
                refine lv_aload_n hx hb dX7_saveForUndo_58 rfl (lv_at hl 0 rfl) ?_
                refine va_get (D := G.1) (ci := 7) (v := .ref a3) (C := RX7) (T := TX7) (N := 17) hx hb hts hi7 hown hK hP 0 rfl rfl 3 (by decide) (hts (.fieldLink RX7 16 "ConflictEnumeratorModel" "history" "[I") (List.mem_of_getElem? (i := 2) rfl)) (fun _ h9 => h9) rfl dX7_saveForUndo_59 ?_
                refine lv_sipush (v := 568) hx hb dX7_saveForUndo_62 (by decide) ?_
                refine lv_aload_n hx hb dX7_saveForUndo_65 rfl (lv_at hl 0 rfl) ?_
                refine va_get (D := G.1) (ci := 7) (v := .int (nI (ud - 1))) (C := RX7) (T := TX7) (N := 17) hx hb hts hi7 hown hK hP 0 rfl rfl 4 (by decide) (hts (.fieldLink RX7 115 "ConflictEnumeratorModel" "undoDepth" "I") (List.mem_of_getElem? (i := 1) rfl)) (fun _ h9 => h9) rfl dX7_saveForUndo_66 ?_
                refine wn_imul hx hb (568) (ud - 1) rfl rfl dX7_saveForUndo_69 ?_
                refine lv_iload_n hx hb dX7_saveForUndo_70 rfl (lv_at hl 1 rfl) ?_
                refine wn_iadd hx hb (568 * (ud - 1)) (k) rfl rfl dX7_saveForUndo_71 ?_
                refine lv_aload_n hx hb dX7_saveForUndo_72 rfl (lv_at hl 0 rfl) ?_
                refine va_get (D := G.1) (ci := 7) (v := .ref a1) (C := RX7) (T := TX7) (N := 17) hx hb hts hi7 hown hK hP 0 rfl rfl 1 (by decide) (hts (.fieldLink RX7 7 "ConflictEnumeratorModel" "s" "[I") (List.mem_of_getElem? (i := 3) rfl)) (fun _ h9 => h9) rfl dX7_saveForUndo_73 ?_
                refine lv_iload_n hx hb dX7_saveForUndo_76 rfl (lv_at hl 1 rfl) ?_
                refine wa_iald hx hb hK hP 1 rfl (k) (rfl) (by omega) (by decide) dX7_saveForUndo_77 ?_
                refine wa_iast hx hb hK hP hD hS 2 rfl ((568 * (ud - 1)) + k) (rfl) (by omega) (by decide) dX7_saveForUndo_78 (fun H locs hP hD hS => ?_)
                have hP : va_P G.1 vwCl [(m0, OB 7 [.int th, .ref a1, .ref a2, .ref a3, .int (nI (ud - 1)), .ref a5, .ref a6, .ref a7, .int (nI ln), .int (nI nx), .int (nI ts), .int tk, .int vl, .int er, .ref a14, .int rq, .ref a16]), (a1, AI G 568 sf), (a3, AI G 2840 (va_up g ((568 * (ud - 1)) + k) (sf k)))] H := hP
                have hD : va_D A [(m0, OB 7 [.int th, .ref a1, .ref a2, .ref a3, .int (nI (ud - 1)), .ref a5, .ref a6, .ref a7, .int (nI ln), .int (nI nx), .int (nI ts), .int tk, .int vl, .int er, .ref a14, .int rq, .ref a16]), (a1, AI G 568 sf), (a3, AI G 2840 (va_up g ((568 * (ud - 1)) + k) (sf k)))] := hD
                refine lv_iinc (v := nI (k + 1)) (lv' := [(1, .int (nI (k + 1))), (0, .ref m0)]) hx hb dX7_saveForUndo_79 hl (k := 1) rfl (nI_inc (k) 1) (by decide) rfl (fun ls hl => ?_)
                refine lv_goto (tgt := 51) hx hb dX7_saveForUndo_82 (by decide) ?_
                exact ih (k + 1) (va_up g ((568 * (ud - 1)) + k) (sf k)) _ _ _ (by omega) (by omega) (by subst hg; exact putF_s _ _ _ _) (hP.sub (ws' := [(m0, OB 7 [.int th, .ref a1, .ref a2, .ref a3, .int (nI (ud - 1)), .ref a5, .ref a6, .ref a7, .int (nI ln), .int (nI nx), .int (nI ts), .int tk, .int vl, .int er, .ref a14, .int rq, .ref a16]), (a1, AI G 568 sf), (a3, AI G 2840 (va_up g ((568 * (ud - 1)) + k) (sf k)))]) [0, 1, 2] rfl) (hD.sub (ws' := [(m0, OB 7 [.int th, .ref a1, .ref a2, .ref a3, .int (nI (ud - 1)), .ref a5, .ref a6, .ref a7, .int (nI ln), .int (nI nx), .int (nI ts), .int tk, .int vl, .int er, .ref a14, .int rq, .ref a16]), (a1, AI G 568 sf), (a3, AI G 2840 (va_up g ((568 * (ud - 1)) + k) (sf k)))]) [0, 1, 2] (by decide) rfl) hS (lv_sub (l' := [(0, .ref m0), (1, .int (nI (k + 1)))]) hl [1, 0] rfl)
          exact L51 ((568 - 0) + 1) 0 f _ _ _ (Nat.lt_succ_self _) (Nat.zero_le _) (by first | (subst hf9; exact (putF_0 _ _ _).symm) | exact (putF_0 _ _ _).symm) (hP.sub (ws' := [(m0, OB 7 [.int th, .ref a1, .ref a2, .ref a3, .int (nI (ud - 1)), .ref a5, .ref a6, .ref a7, .int (nI ln), .int (nI nx), .int (nI ts), .int tk, .int vl, .int er, .ref a14, .int rq, .ref a16]), (a1, AI G 568 sf), (a3, AI G 2840 f)]) [0, 1, 2] rfl) (hD.sub (ws' := [(m0, OB 7 [.int th, .ref a1, .ref a2, .ref a3, .int (nI (ud - 1)), .ref a5, .ref a6, .ref a7, .int (nI ln), .int (nI nx), .int (nI ts), .int tk, .int vl, .int er, .ref a14, .int rq, .ref a16]), (a1, AI G 568 sf), (a3, AI G 2840 f)]) [0, 1, 2] (by decide) rfl) hS (lv_sub (l' := [(0, .ref m0), (1, .int (nI 0))]) hl [1, 0] rfl)
        ·
          have c_14 : i < 2272 := by have h9 := mt (nI_leI (a := 2272) (b := i) (by omega) (by omega)).mpr c_14; omega
          refine lv_aload_n hx hb dX7_saveForUndo_17 rfl (lv_at hl 0 rfl) ?_
          refine va_get (D := G.1) (ci := 7) (v := .ref a3) (C := RX7) (T := TX7) (N := 17) hx hb hts hi7 hown hK hP 0 rfl rfl 3 (by decide) (hts (.fieldLink RX7 16 "ConflictEnumeratorModel" "history" "[I") (List.mem_of_getElem? (i := 2) rfl)) (fun _ h9 => h9) rfl dX7_saveForUndo_18 ?_
          refine lv_iload_n hx hb dX7_saveForUndo_21 rfl (lv_at hl 1 rfl) ?_
          refine lv_aload_n hx hb dX7_saveForUndo_22 rfl (lv_at hl 0 rfl) ?_
          refine va_get (D := G.1) (ci := 7) (v := .ref a3) (C := RX7) (T := TX7) (N := 17) hx hb hts hi7 hown hK hP 0 rfl rfl 3 (by decide) (hts (.fieldLink RX7 16 "ConflictEnumeratorModel" "history" "[I") (List.mem_of_getElem? (i := 2) rfl)) (fun _ h9 => h9) rfl dX7_saveForUndo_23 ?_
          refine lv_sipush (v := 568) hx hb dX7_saveForUndo_26 (by decide) ?_
          refine lv_iload_n hx hb dX7_saveForUndo_29 rfl (lv_at hl 1 rfl) ?_
          refine wn_iadd hx hb (568) (i) rfl rfl dX7_saveForUndo_30 ?_
          refine wa_iald hx hb hK hP 2 rfl (568 + i) (rfl) (by omega) (by decide) dX7_saveForUndo_31 ?_
          refine wa_iast hx hb hK hP hD hS 2 rfl (i) (rfl) (by omega) (by decide) dX7_saveForUndo_32 (fun H locs hP hD hS => ?_)
          have hP : va_P G.1 vwCl [(m0, OB 7 [.int th, .ref a1, .ref a2, .ref a3, .int (nI ud), .ref a5, .ref a6, .ref a7, .int (nI ln), .int (nI nx), .int (nI ts), .int tk, .int vl, .int er, .ref a14, .int rq, .ref a16]), (a1, AI G 568 sf), (a3, AI G 2840 (va_up f i (f (568 + i))))] H := hP
          have hD : va_D A [(m0, OB 7 [.int th, .ref a1, .ref a2, .ref a3, .int (nI ud), .ref a5, .ref a6, .ref a7, .int (nI ln), .int (nI nx), .int (nI ts), .int tk, .int vl, .int er, .ref a14, .int rq, .ref a16]), (a1, AI G 568 sf), (a3, AI G 2840 (va_up f i (f (568 + i))))] := hD
          refine lv_iinc (v := nI (i + 1)) (lv' := [(1, .int (nI (i + 1))), (0, .ref m0)]) hx hb dX7_saveForUndo_33 hl (k := 1) rfl (nI_inc (i) 1) (by decide) rfl (fun ls hl => ?_)
          refine lv_goto (tgt := 10) hx hb dX7_saveForUndo_36 (by decide) ?_
          exact ih (i + 1) (va_up f i (f (568 + i))) _ _ _ (by omega) (by omega) (by subst hf9; exact sftF_s hf i) (hP.sub (ws' := [(m0, OB 7 [.int th, .ref a1, .ref a2, .ref a3, .int (nI ud), .ref a5, .ref a6, .ref a7, .int (nI ln), .int (nI nx), .int (nI ts), .int tk, .int vl, .int er, .ref a14, .int rq, .ref a16]), (a1, AI G 568 sf), (a3, AI G 2840 (va_up f i (f (568 + i))))]) [0, 1, 2] rfl) (hD.sub (ws' := [(m0, OB 7 [.int th, .ref a1, .ref a2, .ref a3, .int (nI ud), .ref a5, .ref a6, .ref a7, .int (nI ln), .int (nI nx), .int (nI ts), .int tk, .int vl, .int er, .ref a14, .int rq, .ref a16]), (a1, AI G 568 sf), (a3, AI G 2840 (va_up f i (f (568 + i))))]) [0, 1, 2] (by decide) rfl) hS (lv_sub (l' := [(0, .ref m0), (1, .int (nI (i + 1)))]) hl [1, 0] rfl)
    exact L10 ((2272 - 0) + 1) 0 hf _ _ _ (Nat.lt_succ_self _) (Nat.zero_le _) ((sftF_0 hf).symm) (hP.sub (ws' := [(m0, OB 7 [.int th, .ref a1, .ref a2, .ref a3, .int (nI ud), .ref a5, .ref a6, .ref a7, .int (nI ln), .int (nI nx), .int (nI ts), .int tk, .int vl, .int er, .ref a14, .int rq, .ref a16]), (a1, AI G 568 sf), (a3, AI G 2840 hf)]) [0, 1, 2] rfl) (hD.sub (ws' := [(m0, OB 7 [.int th, .ref a1, .ref a2, .ref a3, .int (nI ud), .ref a5, .ref a6, .ref a7, .int (nI ln), .int (nI nx), .int (nI ts), .int tk, .int vl, .int er, .ref a14, .int rq, .ref a16]), (a1, AI G 568 sf), (a3, AI G 2840 hf)]) [0, 1, 2] (by decide) rfl) hS (lv_sub (l' := [(0, .ref m0), (1, .int (nI 0))]) hl [1, 0] rfl)
abbrev rmX7_markSubsets : Room := { frames := 0, cells := 0, slots := 0, locals := 0 }
set_option maxHeartbeats 4000000 in
set_option maxRecDepth 100000 in
theorem c_X7_markSubsets (l : Launch) (G : GT) (m0 a1 a2 a3 a5 a6 a7 a14 a16 : Nat) (th : Int32) (ud ln nx ts : Nat) (tk vl er rq : Int32) (eg : Nat → Bool) (x : Int32)  : Cv l yX7_markSubsets wsX7_markSubsets rmX7_markSubsets G [.ref m0, .int x] [(m0, OB 7 [.int th, .ref a1, .ref a2, .ref a3, .int (nI ud), .ref a5, .ref a6, .ref a7, .int (nI ln), .int (nI nx), .int (nI ts), .int tk, .int vl, .int er, .ref a14, .int rq, .ref a16]), (a16, AZ G 1024 (fun z => bI (eg z)))] (fun u => u = [(m0, OB 7 [.int th, .ref a1, .ref a2, .ref a3, .int (nI ud), .ref a5, .ref a6, .ref a7, .int (nI ln), .int (nI nx), .int (nI ts), .int tk, .int vl, .int er, .ref a14, .int rq, .ref a16]), (a16, AZ G 1024 (fun z => bI ((mkB (fun z => subB (nI z) x) eg 1024) z)))]) := by
  refine Cv.of (cc := cX7_markSubsets) (maxL := 3) (by decide) rfl (Nat.le_of_ble_eq_true rfl) ?_
  intro p e s m below meth c A ls Q hx hb hml hts hown hin hA hS hP hK hN hSS hD hl ret
  have hown : s.vm.findClass RX7 = some m.cls := hown
  have hl : lv_has ls 3 [(0, .ref m0), (1, .int x)] := hl
  have hi7 : ∀ w ∈ wsX70, w ∈ wsX7_markSubsets := mem_places [2, 3, 4, 5, 6, 7, 8, 9, 10, 11, 12, 13, 14, 15, 16, 17, 18] (by decide +kernel)
  refine lv_iconst (v := 0) hx hb dX7_markSubsets_0 (by decide) ?_
  refine lv_istore_n (lv' := [(2, .int 0), (0, .ref m0), (1, .int x)]) hx hb dX7_markSubsets_1 rfl hl (by decide) rfl (fun ls hl => ?_)
  have L2 : ∀ (kf : Nat) (j : Nat) (g : Nat → Bool) (H : Heap) (locs : List Loc) (ls : Array Slot), 1024 - j < kf → (j ≤ 1024) → (g = mkB (fun z => subB (nI z) x) eg j) → va_P G.1 vwCl [(m0, OB 7 [.int th, .ref a1, .ref a2, .ref a3, .int (nI ud), .ref a5, .ref a6, .ref a7, .int (nI ln), .int (nI nx), .int (nI ts), .int tk, .int vl, .int er, .ref a14, .int rq, .ref a16]), (a16, AZ G 1024 (fun z => bI (g z)))] H → va_D A [(m0, OB 7 [.int th, .ref a1, .ref a2, .ref a3, .int (nI ud), .ref a5, .ref a6, .ref a7, .int (nI ln), .int (nI nx), .int (nI ts), .int tk, .int vl, .int er, .ref a14, .int rq, .ref a16]), (a16, AZ G 1024 (fun z => bI (g z)))] → va_S A s.heap H locs → lv_has ls 3 [(0, .ref m0), (1, .int x), (2, .int (nI j))] → W p l e rmX7_markSubsets s m ([.ref m0, .int x] : List Value).toArray below meth c H locs 0 0 Q (F0 m 2 ls []) := by
    intro kf
    induction kf with
    | zero => intro j g H locs ls h; exact absurd h (Nat.not_lt_zero _)
    | succ kf ih =>
      intro j g H locs ls hk hi hg hP hD hS hl
      refine lv_iload_n hx hb dX7_markSubsets_2 rfl (lv_at hl 2 rfl) ?_
      refine lv_sipush (v := 1024) hx hb dX7_markSubsets_3 (by decide) ?_
      refine lv_icmp_ge (tgt := 43) hx hb dX7_markSubsets_6 (by decide) (fun c_6 => ?_) (fun c_6 => ?_)
      ·
        have c_6 : 1024 ≤ j := (nI_leI (a := 1024) (b := j) (by omega) (by omega)).mp c_6
        exact ret _ _ _ _ _ _ _ (Nat.le_of_ble_eq_true rfl) (Nat.le_of_ble_eq_true rfl) (by obtain rfl : j = 1024 := (by omega); subst hg; rfl) (hP.sub (ws' := [(m0, OB 7 [.int th, .ref a1, .ref a2, .ref a3, .int (nI ud), .ref a5, .ref a6, .ref a7, .int (nI ln), .int (nI nx), .int (nI ts), .int tk, .int vl, .int er, .ref a14, .int rq, .ref a16]), (a16, AZ G 1024 (fun z => bI (g z)))]) [0, 1] rfl) (hD.sub (ws' := [(m0, OB 7 [.int th, .ref a1, .ref a2, .ref a3, .int (nI ud), .ref a5, .ref a6, .ref a7, .int (nI ln), .int (nI nx), .int (nI ts), .int tk, .int vl, .int er, .ref a14, .int rq, .ref a16]), (a16, AZ G 1024 (fun z => bI (g z)))]) [0, 1] (by decide) rfl) hS dX7_markSubsets_43
      ·
        have c_6 : j < 1024 := by have h9 := mt (nI_leI (a := 1024) (b := j) (by omega) (by omega)).mpr c_6; omega
        refine lv_aload_n hx hb dX7_markSubsets_9 rfl (lv_at hl 0 rfl) ?_
        refine va_get (D := G.1) (ci := 7) (v := .ref a16) (C := RX7) (T := TX7) (N := 17) hx hb hts hi7 hown hK hP 0 rfl rfl 16 (by decide) (hts (.fieldLink RX7 32 "ConflictEnumeratorModel" "isExplored" "[Z") (List.mem_of_getElem? (i := 1) rfl)) (fun _ h9 => h9) rfl dX7_markSubsets_10 ?_
        refine lv_iload_n hx hb dX7_markSubsets_13 rfl (lv_at hl 2 rfl) ?_
        refine lv_aload_n hx hb dX7_markSubsets_14 rfl (lv_at hl 0 rfl) ?_
        refine va_get (D := G.1) (ci := 7) (v := .ref a16) (C := RX7) (T := TX7) (N := 17) hx hb hts hi7 hown hK hP 0 rfl rfl 16 (by decide) (hts (.fieldLink RX7 32 "ConflictEnumeratorModel" "isExplored" "[Z") (List.mem_of_getElem? (i := 1) rfl)) (fun _ h9 => h9) rfl dX7_markSubsets_15 ?_
        refine lv_iload_n hx hb dX7_markSubsets_18 rfl (lv_at hl 2 rfl) ?_
        refine wa_zald hx hb hK hP 1 rfl (j) (rfl) (by omega) (by decide) dX7_markSubsets_19 ?_
        refine wb_ne (tgt := 31) hx hb dX7_markSubsets_20 (by decide) (fun c_20 => ?_) (fun c_20 => ?_)
        ·
          refine lv_iconst (v := 1) hx hb dX7_markSubsets_31 (by decide) ?_
          refine lv_goto (tgt := 36) hx hb dX7_markSubsets_32 (by decide) ?_
          refine wa_zast hx hb hK hP hD hS 1 rfl (j) (rfl) (by omega) (by decide) dX7_markSubsets_36 (fun H locs hP hD hS => ?_)
          have hP : va_P G.1 vwCl [(m0, OB 7 [.int th, .ref a1, .ref a2, .ref a3, .int (nI ud), .ref a5, .ref a6, .ref a7, .int (nI ln), .int (nI nx), .int (nI ts), .int tk, .int vl, .int er, .ref a14, .int rq, .ref a16]), (a16, AZ G 1024 (va_up (fun z => bI (g z)) j 1))] H := hP
          have hD : va_D A [(m0, OB 7 [.int th, .ref a1, .ref a2, .ref a3, .int (nI ud), .ref a5, .ref a6, .ref a7, .int (nI ln), .int (nI nx), .int (nI ts), .int tk, .int vl, .int er, .ref a14, .int rq, .ref a16]), (a16, AZ G 1024 (va_up (fun z => bI (g z)) j 1))] := hD
          rw [show va_up (fun z => bI (g z)) j 1 = fun z => bI (va_up g j true z) from upB g j true] at hP hD
          refine lv_iinc (v := nI (j + 1)) (lv' := [(2, .int (nI (j + 1))), (0, .ref m0), (1, .int x)]) hx hb dX7_markSubsets_37 hl (k := 2) rfl (nI_inc (j) 1) (by decide) rfl (fun ls hl => ?_)
          refine lv_goto (tgt := 2) hx hb dX7_markSubsets_40 (by decide) ?_
          exact ih (j + 1) (va_up g j true) _ _ _ (by omega) (by omega) (by have h9 : eg j = g j := (by rw [hg, mkB_at]); rw [hg]; exact mkB_s _ _ _ (by rw [h9]; simp [subB, c_6, c_20])) (hP.sub (ws' := [(m0, OB 7 [.int th, .ref a1, .ref a2, .ref a3, .int (nI ud), .ref a5, .ref a6, .ref a7, .int (nI ln), .int (nI nx), .int (nI ts), .int tk, .int vl, .int er, .ref a14, .int rq, .ref a16]), (a16, AZ G 1024 (fun z => bI ((va_up g j true) z)))]) [0, 1] rfl) (hD.sub (ws' := [(m0, OB 7 [.int th, .ref a1, .ref a2, .ref a3, .int (nI ud), .ref a5, .ref a6, .ref a7, .int (nI ln), .int (nI nx), .int (nI ts), .int tk, .int vl, .int er, .ref a14, .int rq, .ref a16]), (a16, AZ G 1024 (fun z => bI ((va_up g j true) z)))]) [0, 1] (by decide) rfl) hS (lv_sub (l' := [(0, .ref m0), (1, .int x), (2, .int (nI (j + 1)))]) hl [1, 2, 0] rfl)
        ·
          refine lv_iload_n hx hb dX7_markSubsets_23 rfl (lv_at hl 2 rfl) ?_
          refine lv_iload_n hx hb dX7_markSubsets_24 rfl (lv_at hl 1 rfl) ?_
          refine lv_iconst (v := (-1)) hx hb dX7_markSubsets_25 (by decide) ?_
          refine wn_inot hx hb rfl dX7_markSubsets_26 ?_
          refine lv_iand hx hb dX7_markSubsets_27 ?_
          refine lv_if_ne (tgt := 35) hx hb dX7_markSubsets_28 (by decide) (fun c_28 => ?_) (fun c_28 => ?_)
          ·
            refine lv_iconst (v := 0) hx hb dX7_markSubsets_35 (by decide) ?_
            refine wa_zast hx hb hK hP hD hS 1 rfl (j) (rfl) (by omega) (by decide) dX7_markSubsets_36 (fun H locs hP hD hS => ?_)
            have hP : va_P G.1 vwCl [(m0, OB 7 [.int th, .ref a1, .ref a2, .ref a3, .int (nI ud), .ref a5, .ref a6, .ref a7, .int (nI ln), .int (nI nx), .int (nI ts), .int tk, .int vl, .int er, .ref a14, .int rq, .ref a16]), (a16, AZ G 1024 (va_up (fun z => bI (g z)) j 0))] H := hP
            have hD : va_D A [(m0, OB 7 [.int th, .ref a1, .ref a2, .ref a3, .int (nI ud), .ref a5, .ref a6, .ref a7, .int (nI ln), .int (nI nx), .int (nI ts), .int tk, .int vl, .int er, .ref a14, .int rq, .ref a16]), (a16, AZ G 1024 (va_up (fun z => bI (g z)) j 0))] := hD
            rw [show va_up (fun z => bI (g z)) j 0 = fun z => bI (va_up g j false z) from upB g j false] at hP hD
            refine lv_iinc (v := nI (j + 1)) (lv' := [(2, .int (nI (j + 1))), (0, .ref m0), (1, .int x)]) hx hb dX7_markSubsets_37 hl (k := 2) rfl (nI_inc (j) 1) (by decide) rfl (fun ls hl => ?_)
            refine lv_goto (tgt := 2) hx hb dX7_markSubsets_40 (by decide) ?_
            exact ih (j + 1) (va_up g j false) _ _ _ (by omega) (by omega) (by have h9 : eg j = g j := (by rw [hg, mkB_at]); rw [hg]; exact mkB_s _ _ _ (by rw [h9]; simp [subB, c_6, c_20, c_28])) (hP.sub (ws' := [(m0, OB 7 [.int th, .ref a1, .ref a2, .ref a3, .int (nI ud), .ref a5, .ref a6, .ref a7, .int (nI ln), .int (nI nx), .int (nI ts), .int tk, .int vl, .int er, .ref a14, .int rq, .ref a16]), (a16, AZ G 1024 (fun z => bI ((va_up g j false) z)))]) [0, 1] rfl) (hD.sub (ws' := [(m0, OB 7 [.int th, .ref a1, .ref a2, .ref a3, .int (nI ud), .ref a5, .ref a6, .ref a7, .int (nI ln), .int (nI nx), .int (nI ts), .int tk, .int vl, .int er, .ref a14, .int rq, .ref a16]), (a16, AZ G 1024 (fun z => bI ((va_up g j false) z)))]) [0, 1] (by decide) rfl) hS (lv_sub (l' := [(0, .ref m0), (1, .int x), (2, .int (nI (j + 1)))]) hl [1, 2, 0] rfl)
          ·
            refine lv_iconst (v := 1) hx hb dX7_markSubsets_31 (by decide) ?_
            refine lv_goto (tgt := 36) hx hb dX7_markSubsets_32 (by decide) ?_
            refine wa_zast hx hb hK hP hD hS 1 rfl (j) (rfl) (by omega) (by decide) dX7_markSubsets_36 (fun H locs hP hD hS => ?_)
            have hP : va_P G.1 vwCl [(m0, OB 7 [.int th, .ref a1, .ref a2, .ref a3, .int (nI ud), .ref a5, .ref a6, .ref a7, .int (nI ln), .int (nI nx), .int (nI ts), .int tk, .int vl, .int er, .ref a14, .int rq, .ref a16]), (a16, AZ G 1024 (va_up (fun z => bI (g z)) j 1))] H := hP
            have hD : va_D A [(m0, OB 7 [.int th, .ref a1, .ref a2, .ref a3, .int (nI ud), .ref a5, .ref a6, .ref a7, .int (nI ln), .int (nI nx), .int (nI ts), .int tk, .int vl, .int er, .ref a14, .int rq, .ref a16]), (a16, AZ G 1024 (va_up (fun z => bI (g z)) j 1))] := hD
            rw [show va_up (fun z => bI (g z)) j 1 = fun z => bI (va_up g j true z) from upB g j true] at hP hD
            refine lv_iinc (v := nI (j + 1)) (lv' := [(2, .int (nI (j + 1))), (0, .ref m0), (1, .int x)]) hx hb dX7_markSubsets_37 hl (k := 2) rfl (nI_inc (j) 1) (by decide) rfl (fun ls hl => ?_)
            refine lv_goto (tgt := 2) hx hb dX7_markSubsets_40 (by decide) ?_
            exact ih (j + 1) (va_up g j true) _ _ _ (by omega) (by omega) (by have h9 : eg j = g j := (by rw [hg, mkB_at]); rw [hg]; exact mkB_s _ _ _ (by rw [h9]; simp [subB, c_6, c_20, c_28])) (hP.sub (ws' := [(m0, OB 7 [.int th, .ref a1, .ref a2, .ref a3, .int (nI ud), .ref a5, .ref a6, .ref a7, .int (nI ln), .int (nI nx), .int (nI ts), .int tk, .int vl, .int er, .ref a14, .int rq, .ref a16]), (a16, AZ G 1024 (fun z => bI ((va_up g j true) z)))]) [0, 1] rfl) (hD.sub (ws' := [(m0, OB 7 [.int th, .ref a1, .ref a2, .ref a3, .int (nI ud), .ref a5, .ref a6, .ref a7, .int (nI ln), .int (nI nx), .int (nI ts), .int tk, .int vl, .int er, .ref a14, .int rq, .ref a16]), (a16, AZ G 1024 (fun z => bI ((va_up g j true) z)))]) [0, 1] (by decide) rfl) hS (lv_sub (l' := [(0, .ref m0), (1, .int x), (2, .int (nI (j + 1)))]) hl [1, 2, 0] rfl)
  exact L2 ((1024 - 0) + 1) 0 eg _ _ _ (Nat.lt_succ_self _) (Nat.zero_le _) ((mkB_0 _ _).symm) (hP.sub (ws' := [(m0, OB 7 [.int th, .ref a1, .ref a2, .ref a3, .int (nI ud), .ref a5, .ref a6, .ref a7, .int (nI ln), .int (nI nx), .int (nI ts), .int tk, .int vl, .int er, .ref a14, .int rq, .ref a16]), (a16, AZ G 1024 (fun z => bI (eg z)))]) [0, 1] rfl) (hD.sub (ws' := [(m0, OB 7 [.int th, .ref a1, .ref a2, .ref a3, .int (nI ud), .ref a5, .ref a6, .ref a7, .int (nI ln), .int (nI nx), .int (nI ts), .int tk, .int vl, .int er, .ref a14, .int rq, .ref a16]), (a16, AZ G 1024 (fun z => bI (eg z)))]) [0, 1] (by decide) rfl) hS (lv_sub (l' := [(0, .ref m0), (1, .int x), (2, .int (nI 0))]) hl [1, 2, 0] rfl)
abbrev rmX7_markSupersets : Room := { frames := 0, cells := 0, slots := 0, locals := 0 }
set_option maxHeartbeats 4000000 in
set_option maxRecDepth 100000 in
theorem c_X7_markSupersets (l : Launch) (G : GT) (m0 a1 a2 a3 a5 a6 a7 a14 a16 : Nat) (th : Int32) (ud ln nx ts : Nat) (tk vl er rq : Int32) (eg : Nat → Bool) (x : Int32)  : Cv l yX7_markSupersets wsX7_markSupersets rmX7_markSupersets G [.ref m0, .int x] [(m0, OB 7 [.int th, .ref a1, .ref a2, .ref a3, .int (nI ud), .ref a5, .ref a6, .ref a7, .int (nI ln), .int (nI nx), .int (nI ts), .int tk, .int vl, .int er, .ref a14, .int rq, .ref a16]), (a16, AZ G 1024 (fun z => bI (eg z)))] (fun u => u = [(m0, OB 7 [.int th, .ref a1, .ref a2, .ref a3, .int (nI ud), .ref a5, .ref a6, .ref a7, .int (nI ln), .int (nI nx), .int (nI ts), .int tk, .int vl, .int er, .ref a14, .int rq, .ref a16]), (a16, AZ G 1024 (fun z => bI ((mkB (fun z => subB x (nI z)) eg 1024) z)))]) := by
  refine Cv.of (cc := cX7_markSupersets) (maxL := 3) (by decide) rfl (Nat.le_of_ble_eq_true rfl) ?_
  intro p e s m below meth c A ls Q hx hb hml hts hown hin hA hS hP hK hN hSS hD hl ret
  have hown : s.vm.findClass RX7 = some m.cls := hown
  have hl : lv_has ls 3 [(0, .ref m0), (1, .int x)] := hl
  have hi7 : ∀ w ∈ wsX70, w ∈ wsX7_markSupersets := mem_places [2, 3, 4, 5, 6, 7, 8, 9, 10, 11, 12, 13, 14, 15, 16, 17, 18] (by decide +kernel)
  refine lv_iconst (v := 0) hx hb dX7_markSupersets_0 (by decide) ?_
  refine lv_istore_n (lv' := [(2, .int 0), (0, .ref m0), (1, .int x)]) hx hb dX7_markSupersets_1 rfl hl (by decide) rfl (fun ls hl => ?_)
  have L2 : ∀ (kf : Nat) (j : Nat) (g : Nat → Bool) (H : Heap) (locs : List Loc) (ls : Array Slot), 1024 - j < kf → (j ≤ 1024) → (g = mkB (fun z => subB x (nI z)) eg j) → va_P G.1 vwCl [(m0, OB 7 [.int th, .ref a1, .ref a2, .ref a3, .int (nI ud), .ref a5, .ref a6, .ref a7, .int (nI ln), .int (nI nx), .int (nI ts), .int tk, .int vl, .int er, .ref a14, .int rq, .ref a16]), (a16, AZ G 1024 (fun z => bI (g z)))] H → va_D A [(m0, OB 7 [.int th, .ref a1, .ref a2, .ref a3, .int (nI ud), .ref a5, .ref a6, .ref a7, .int (nI ln), .int (nI nx), .int (nI ts), .int tk, .int vl, .int er, .ref a14, .int rq, .ref a16]), (a16, AZ G 1024 (fun z => bI (g z)))] → va_S A s.heap H locs → lv_has ls 3 [(0, .ref m0), (1, .int x), (2, .int (nI j))] → W p l e rmX7_markSupersets s m ([.ref m0, .int x] : List Value).toArray below meth c H locs 0 0 Q (F0 m 2 ls []) := by
    intro kf
    induction kf with
    | zero => intro j g H locs ls h; exact absurd h (Nat.not_lt_zero _)
    | succ kf ih =>
      intro j g H locs ls hk hi hg hP hD hS hl
      refine lv_iload_n hx hb dX7_markSupersets_2 rfl (lv_at hl 2 rfl) ?_
      refine lv_sipush (v := 1024) hx hb dX7_markSupersets_3 (by decide) ?_
      refine lv_icmp_ge (tgt := 43) hx hb dX7_markSupersets_6 (by decide) (fun c_6 => ?_) (fun c_6 => ?_)
      ·
        have c_6 : 1024 ≤ j := (nI_leI (a := 1024) (b := j) (by omega) (by omega)).mp c_6
        exact ret _ _ _ _ _ _ _ (Nat.le_of_ble_eq_true rfl) (Nat.le_of_ble_eq_true rfl) (by obtain rfl : j = 1024 := (by omega); subst hg; rfl) (hP.sub (ws' := [(m0, OB 7 [.int th, .ref a1, .ref a2, .ref a3, .int (nI ud), .ref a5, .ref a6, .ref a7, .int (nI ln), .int (nI nx), .int (nI ts), .int tk, .int vl, .int er, .ref a14, .int rq, .ref a16]), (a16, AZ G 1024 (fun z => bI (g z)))]) [0, 1] rfl) (hD.sub (ws' := [(m0, OB 7 [.int th, .ref a1, .ref a2, .ref a3, .int (nI ud), .ref a5, .ref a6, .ref a7, .int (nI ln), .int (nI nx), .int (nI ts), .int tk, .int vl, .int er, .ref a14, .int rq, .ref a16]), (a16, AZ G 1024 (fun z => bI (g z)))]) [0, 1] (by decide) rfl) hS dX7_markSupersets_43
      ·
        have c_6 : j < 1024 := by have h9 := mt (nI_leI (a := 1024) (b := j) (by omega) (by omega)).mpr c_6; omega
        refine lv_aload_n hx hb dX7_markSupersets_9 rfl (lv_at hl 0 rfl) ?_
        refine va_get (D := G.1) (ci := 7) (v := .ref a16) (C := RX7) (T := TX7) (N := 17) hx hb hts hi7 hown hK hP 0 rfl rfl 16 (by decide) (hts (.fieldLink RX7 32 "ConflictEnumeratorModel" "isExplored" "[Z") (List.mem_of_getElem? (i := 1) rfl)) (fun _ h9 => h9) rfl dX7_markSupersets_10 ?_
        refine lv_iload_n hx hb dX7_markSupersets_13 rfl (lv_at hl 2 rfl) ?_
        refine lv_aload_n hx hb dX7_markSupersets_14 rfl (lv_at hl 0 rfl) ?_
        refine va_get (D := G.1) (ci := 7) (v := .ref a16) (C := RX7) (T := TX7) (N := 17) hx hb hts hi7 hown hK hP 0 rfl rfl 16 (by decide) (hts (.fieldLink RX7 32 "ConflictEnumeratorModel" "isExplored" "[Z") (List.mem_of_getElem? (i := 1) rfl)) (fun _ h9 => h9) rfl dX7_markSupersets_15 ?_
        refine lv_iload_n hx hb dX7_markSupersets_18 rfl (lv_at hl 2 rfl) ?_
        refine wa_zald hx hb hK hP 1 rfl (j) (rfl) (by omega) (by decide) dX7_markSupersets_19 ?_
        refine wb_ne (tgt := 31) hx hb dX7_markSupersets_20 (by decide) (fun c_20 => ?_) (fun c_20 => ?_)
        ·
          refine lv_iconst (v := 1) hx hb dX7_markSupersets_31 (by decide) ?_
          refine lv_goto (tgt := 36) hx hb dX7_markSupersets_32 (by decide) ?_
          refine wa_zast hx hb hK hP hD hS 1 rfl (j) (rfl) (by omega) (by decide) dX7_markSupersets_36 (fun H locs hP hD hS => ?_)
          have hP : va_P G.1 vwCl [(m0, OB 7 [.int th, .ref a1, .ref a2, .ref a3, .int (nI ud), .ref a5, .ref a6, .ref a7, .int (nI ln), .int (nI nx), .int (nI ts), .int tk, .int vl, .int er, .ref a14, .int rq, .ref a16]), (a16, AZ G 1024 (va_up (fun z => bI (g z)) j 1))] H := hP
          have hD : va_D A [(m0, OB 7 [.int th, .ref a1, .ref a2, .ref a3, .int (nI ud), .ref a5, .ref a6, .ref a7, .int (nI ln), .int (nI nx), .int (nI ts), .int tk, .int vl, .int er, .ref a14, .int rq, .ref a16]), (a16, AZ G 1024 (va_up (fun z => bI (g z)) j 1))] := hD
          rw [show va_up (fun z => bI (g z)) j 1 = fun z => bI (va_up g j true z) from upB g j true] at hP hD
          refine lv_iinc (v := nI (j + 1)) (lv' := [(2, .int (nI (j + 1))), (0, .ref m0), (1, .int x)]) hx hb dX7_markSupersets_37 hl (k := 2) rfl (nI_inc (j) 1) (by decide) rfl (fun ls hl => ?_)
          refine lv_goto (tgt := 2) hx hb dX7_markSupersets_40 (by decide) ?_
          exact ih (j + 1) (va_up g j true) _ _ _ (by omega) (by omega) (by have h9 : eg j = g j := (by rw [hg, mkB_at]); rw [hg]; exact mkB_s _ _ _ (by rw [h9]; simp [subB, c_6, c_20])) (hP.sub (ws' := [(m0, OB 7 [.int th, .ref a1, .ref a2, .ref a3, .int (nI ud), .ref a5, .ref a6, .ref a7, .int (nI ln), .int (nI nx), .int (nI ts), .int tk, .int vl, .int er, .ref a14, .int rq, .ref a16]), (a16, AZ G 1024 (fun z => bI ((va_up g j true) z)))]) [0, 1] rfl) (hD.sub (ws' := [(m0, OB 7 [.int th, .ref a1, .ref a2, .ref a3, .int (nI ud), .ref a5, .ref a6, .ref a7, .int (nI ln), .int (nI nx), .int (nI ts), .int tk, .int vl, .int er, .ref a14, .int rq, .ref a16]), (a16, AZ G 1024 (fun z => bI ((va_up g j true) z)))]) [0, 1] (by decide) rfl) hS (lv_sub (l' := [(0, .ref m0), (1, .int x), (2, .int (nI (j + 1)))]) hl [1, 2, 0] rfl)
        ·
          refine lv_iload_n hx hb dX7_markSupersets_23 rfl (lv_at hl 1 rfl) ?_
          refine lv_iload_n hx hb dX7_markSupersets_24 rfl (lv_at hl 2 rfl) ?_
          refine lv_iconst (v := (-1)) hx hb dX7_markSupersets_25 (by decide) ?_
          refine wn_inot hx hb rfl dX7_markSupersets_26 ?_
          refine lv_iand hx hb dX7_markSupersets_27 ?_
          refine lv_if_ne (tgt := 35) hx hb dX7_markSupersets_28 (by decide) (fun c_28 => ?_) (fun c_28 => ?_)
          ·
            refine lv_iconst (v := 0) hx hb dX7_markSupersets_35 (by decide) ?_
            refine wa_zast hx hb hK hP hD hS 1 rfl (j) (rfl) (by omega) (by decide) dX7_markSupersets_36 (fun H locs hP hD hS => ?_)
            have hP : va_P G.1 vwCl [(m0, OB 7 [.int th, .ref a1, .ref a2, .ref a3, .int (nI ud), .ref a5, .ref a6, .ref a7, .int (nI ln), .int (nI nx), .int (nI ts), .int tk, .int vl, .int er, .ref a14, .int rq, .ref a16]), (a16, AZ G 1024 (va_up (fun z => bI (g z)) j 0))] H := hP
            have hD : va_D A [(m0, OB 7 [.int th, .ref a1, .ref a2, .ref a3, .int (nI ud), .ref a5, .ref a6, .ref a7, .int (nI ln), .int (nI nx), .int (nI ts), .int tk, .int vl, .int er, .ref a14, .int rq, .ref a16]), (a16, AZ G 1024 (va_up (fun z => bI (g z)) j 0))] := hD
            rw [show va_up (fun z => bI (g z)) j 0 = fun z => bI (va_up g j false z) from upB g j false] at hP hD
            refine lv_iinc (v := nI (j + 1)) (lv' := [(2, .int (nI (j + 1))), (0, .ref m0), (1, .int x)]) hx hb dX7_markSupersets_37 hl (k := 2) rfl (nI_inc (j) 1) (by decide) rfl (fun ls hl => ?_)
            refine lv_goto (tgt := 2) hx hb dX7_markSupersets_40 (by decide) ?_
            exact ih (j + 1) (va_up g j false) _ _ _ (by omega) (by omega) (by have h9 : eg j = g j := (by rw [hg, mkB_at]); rw [hg]; exact mkB_s _ _ _ (by rw [h9]; simp [subB, c_6, c_20, c_28])) (hP.sub (ws' := [(m0, OB 7 [.int th, .ref a1, .ref a2, .ref a3, .int (nI ud), .ref a5, .ref a6, .ref a7, .int (nI ln), .int (nI nx), .int (nI ts), .int tk, .int vl, .int er, .ref a14, .int rq, .ref a16]), (a16, AZ G 1024 (fun z => bI ((va_up g j false) z)))]) [0, 1] rfl) (hD.sub (ws' := [(m0, OB 7 [.int th, .ref a1, .ref a2, .ref a3, .int (nI ud), .ref a5, .ref a6, .ref a7, .int (nI ln), .int (nI nx), .int (nI ts), .int tk, .int vl, .int er, .ref a14, .int rq, .ref a16]), (a16, AZ G 1024 (fun z => bI ((va_up g j false) z)))]) [0, 1] (by decide) rfl) hS (lv_sub (l' := [(0, .ref m0), (1, .int x), (2, .int (nI (j + 1)))]) hl [1, 2, 0] rfl)
          ·
            refine lv_iconst (v := 1) hx hb dX7_markSupersets_31 (by decide) ?_
            refine lv_goto (tgt := 36) hx hb dX7_markSupersets_32 (by decide) ?_
            refine wa_zast hx hb hK hP hD hS 1 rfl (j) (rfl) (by omega) (by decide) dX7_markSupersets_36 (fun H locs hP hD hS => ?_)
            have hP : va_P G.1 vwCl [(m0, OB 7 [.int th, .ref a1, .ref a2, .ref a3, .int (nI ud), .ref a5, .ref a6, .ref a7, .int (nI ln), .int (nI nx), .int (nI ts), .int tk, .int vl, .int er, .ref a14, .int rq, .ref a16]), (a16, AZ G 1024 (va_up (fun z => bI (g z)) j 1))] H := hP
            have hD : va_D A [(m0, OB 7 [.int th, .ref a1, .ref a2, .ref a3, .int (nI ud), .ref a5, .ref a6, .ref a7, .int (nI ln), .int (nI nx), .int (nI ts), .int tk, .int vl, .int er, .ref a14, .int rq, .ref a16]), (a16, AZ G 1024 (va_up (fun z => bI (g z)) j 1))] := hD
            rw [show va_up (fun z => bI (g z)) j 1 = fun z => bI (va_up g j true z) from upB g j true] at hP hD
            refine lv_iinc (v := nI (j + 1)) (lv' := [(2, .int (nI (j + 1))), (0, .ref m0), (1, .int x)]) hx hb dX7_markSupersets_37 hl (k := 2) rfl (nI_inc (j) 1) (by decide) rfl (fun ls hl => ?_)
            refine lv_goto (tgt := 2) hx hb dX7_markSupersets_40 (by decide) ?_
            exact ih (j + 1) (va_up g j true) _ _ _ (by omega) (by omega) (by have h9 : eg j = g j := (by rw [hg, mkB_at]); rw [hg]; exact mkB_s _ _ _ (by rw [h9]; simp [subB, c_6, c_20, c_28])) (hP.sub (ws' := [(m0, OB 7 [.int th, .ref a1, .ref a2, .ref a3, .int (nI ud), .ref a5, .ref a6, .ref a7, .int (nI ln), .int (nI nx), .int (nI ts), .int tk, .int vl, .int er, .ref a14, .int rq, .ref a16]), (a16, AZ G 1024 (fun z => bI ((va_up g j true) z)))]) [0, 1] rfl) (hD.sub (ws' := [(m0, OB 7 [.int th, .ref a1, .ref a2, .ref a3, .int (nI ud), .ref a5, .ref a6, .ref a7, .int (nI ln), .int (nI nx), .int (nI ts), .int tk, .int vl, .int er, .ref a14, .int rq, .ref a16]), (a16, AZ G 1024 (fun z => bI ((va_up g j true) z)))]) [0, 1] (by decide) rfl) hS (lv_sub (l' := [(0, .ref m0), (1, .int x), (2, .int (nI (j + 1)))]) hl [1, 2, 0] rfl)
  exact L2 ((1024 - 0) + 1) 0 eg _ _ _ (Nat.lt_succ_self _) (Nat.zero_le _) ((mkB_0 _ _).symm) (hP.sub (ws' := [(m0, OB 7 [.int th, .ref a1, .ref a2, .ref a3, .int (nI ud), .ref a5, .ref a6, .ref a7, .int (nI ln), .int (nI nx), .int (nI ts), .int tk, .int vl, .int er, .ref a14, .int rq, .ref a16]), (a16, AZ G 1024 (fun z => bI (eg z)))]) [0, 1] rfl) (hD.sub (ws' := [(m0, OB 7 [.int th, .ref a1, .ref a2, .ref a3, .int (nI ud), .ref a5, .ref a6, .ref a7, .int (nI ln), .int (nI nx), .int (nI ts), .int tk, .int vl, .int er, .ref a14, .int rq, .ref a16]), (a16, AZ G 1024 (fun z => bI (eg z)))]) [0, 1] (by decide) rfl) hS (lv_sub (l' := [(0, .ref m0), (1, .int x), (2, .int (nI 0))]) hl [1, 2, 0] rfl)
abbrev rmX7_markAll : Room := { frames := 2, cells := 0, slots := 0, locals := 44 }
set_option maxHeartbeats 4000000 in
set_option maxRecDepth 100000 in
theorem c_X7_markAll (l : Launch) (G : GT) (m0 a1 a2 a3 a5 a6 a7 a14 a16 : Nat) (th : Int32) (ud ln nx ts : Nat) (tk vl er rq : Int32) (sf : Nat → Int32) (n : Nat) (un zn : Nat) (eg : Nat → Bool) (hc : sf 0 = nI n) (hn : n ≤ 10) (hu : sf 2 = nI un) (hz : sf 3 = nI zn) (hun : un ≤ 252) (hzn : zn ≤ 252) : Cv l yX7_markAll wsX7_markAll rmX7_markAll G [.ref m0] [(m0, OB 7 [.int th, .ref a1, .ref a2, .ref a3, .int (nI ud), .ref a5, .ref a6, .ref a7, .int (nI ln), .int (nI nx), .int (nI ts), .int tk, .int vl, .int er, .ref a14, .int rq, .ref a16]), (a1, AI G 568 sf), (a16, AZ G 1024 (fun z => bI (eg z)))] (fun u => u = [(m0, OB 7 [.int th, .ref a1, .ref a2, .ref a3, .int (nI ud), .ref a5, .ref a6, .ref a7, .int (nI ln), .int (nI nx), .int (nI ts), .int tk, .int vl, .int er, .ref a14, .int rq, .ref a16]), (a1, AI G 568 sf), (a16, AZ G 1024 (fun z => bI ((mkAll sf eg n un zn) z)))]) := by
  refine Cv.of (cc := cX7_markAll) (maxL := 3) (by decide) rfl (Nat.le_of_ble_eq_true rfl) ?_
  intro p e s m below meth c A ls Q hx hb hml hts hown hin hA hS hP hK hN hSS hD hl ret
  have hown : s.vm.findClass RX7 = some m.cls := hown
  have hl : lv_has ls 3 [(0, .ref m0)] := hl
  have hi7 : ∀ w ∈ wsX70, w ∈ wsX7_markAll := mem_places [20, 21, 22, 23, 24, 25, 26, 27, 28, 29, 30, 31, 32, 33, 34, 35, 36] (by decide +kernel)
  refine lv_aload_n hx hb dX7_markAll_0 rfl (lv_at hl 0 rfl) ?_
  refine call_Vi (rest := []) (As := []) (wr := [(a16, AZ G 1024 (fun z => bI (eg z)))]) (c1 := 0) (s1 := 0) ⟨hx, hb, hml, hown, hts⟩ (c_X7_softSet l G m0 a1 a2 a3 a5 a6 a7 a14 a16 th ud ln nx ts tk vl er rq sf n (by first | assumption | omega) (by first | assumption | omega)) (cwV 0 hts gX7_markAll_X7_softSet rfl rfl rfl (by decide +kernel) ⟨Nat.le_of_ble_eq_true rfl, Nat.le_of_ble_eq_true rfl⟩) hK hN hSS hP hD hS hA 0 7 rfl rfl rfl [0, 1] [2] rfl rfl (by decide) (by decide) (by decide) rfl hl.1 rfl (Nat.le_of_ble_eq_true rfl) dX7_markAll_1 ⟨Nat.le_of_ble_eq_true rfl, Nat.le_of_ble_eq_true rfl⟩ rfl rfl (fun r_1 u_1 H locs hpo hP hD hS => ?_)
  obtain ⟨hr9, rfl⟩ := hpo
  subst r_1
  have hP : va_P G.1 vwCl [(a16, AZ G 1024 (fun z => bI (eg z))), (m0, OB 7 [.int th, .ref a1, .ref a2, .ref a3, .int (nI ud), .ref a5, .ref a6, .ref a7, .int (nI ln), .int (nI nx), .int (nI ts), .int tk, .int vl, .int er, .ref a14, .int rq, .ref a16]), (a1, AI G 568 sf)] H := hP
  have hD : va_D A [(a16, AZ G 1024 (fun z => bI (eg z))), (m0, OB 7 [.int th, .ref a1, .ref a2, .ref a3, .int (nI ud), .ref a5, .ref a6, .ref a7, .int (nI ln), .int (nI nx), .int (nI ts), .int tk, .int vl, .int er, .ref a14, .int rq, .ref a16]), (a1, AI G 568 sf)] := hD
  refine lv_istore_n (lv' := [(1, .int (softS sf n)), (0, .ref m0)]) hx hb dX7_markAll_4 rfl hl (by decide) rfl (fun ls hl => ?_)
  refine lv_iconst (v := 0) hx hb dX7_markAll_5 (by decide) ?_
  refine lv_istore_n (lv' := [(2, .int 0), (1, .int (softS sf n)), (0, .ref m0)]) hx hb dX7_markAll_6 rfl hl (by decide) rfl (fun ls hl => ?_)
  have L7 : ∀ (kf : Nat) (j : Nat) (g : Nat → Bool) (H : Heap) (locs : List Loc) (ls : Array Slot), 1024 - j < kf → (j ≤ 1024) → (g = iniB (fun z => !(subB (nI z) (softS sf n))) eg j) → va_P G.1 vwCl [(a16, AZ G 1024 (fun z => bI (g z))), (m0, OB 7 [.int th, .ref a1, .ref a2, .ref a3, .int (nI ud), .ref a5, .ref a6, .ref a7, .int (nI ln), .int (nI nx), .int (nI ts), .int tk, .int vl, .int er, .ref a14, .int rq, .ref a16]), (a1, AI G 568 sf)] H → va_D A [(a16, AZ G 1024 (fun z => bI (g z))), (m0, OB 7 [.int th, .ref a1, .ref a2, .ref a3, .int (nI ud), .ref a5, .ref a6, .ref a7, .int (nI ln), .int (nI nx), .int (nI ts), .int tk, .int vl, .int er, .ref a14, .int rq, .ref a16]), (a1, AI G 568 sf)] → va_S A s.heap H locs → lv_has ls 3 [(0, .ref m0), (1, .int (softS sf n)), (2, .int (nI j))] → W p l e rmX7_markAll s m ([.ref m0] : List Value).toArray below meth c H locs 0 0 Q (F0 m 7 ls []) := by
    intro kf
    induction kf with
    | zero => intro j g H locs ls h; exact absurd h (Nat.not_lt_zero _)
    | succ kf ih =>
      intro j g H locs ls hk hi hg hP hD hS hl
      refine lv_iload_n hx hb dX7_markAll_7 rfl (lv_at hl 2 rfl) ?_
      refine lv_sipush (v := 1024) hx hb dX7_markAll_8 (by decide) ?_
      refine lv_icmp_ge (tgt := 39) hx hb dX7_markAll_11 (by decide) (fun c_11 => ?_) (fun c_11 => ?_)
      ·
        have c_11 : 1024 ≤ j := (nI_leI (a := 1024) (b := j) (by omega) (by omega)).mp c_11
        obtain rfl : j = 1024 := by omega
        refine lv_iconst (v := 0) hx hb dX7_markAll_39 (by decide) ?_
        refine lv_istore_n (lv' := [(2, .int 0), (0, .ref m0), (1, .int (softS sf n))]) hx hb dX7_markAll_40 rfl hl (by decide) rfl (fun ls hl => ?_)
        have L41 : ∀ (kf : Nat) (k1 : Nat) (g2 : Nat → Bool) (H : Heap) (locs : List Loc) (ls : Array Slot), un - k1 < kf → (k1 ≤ un) → (g2 = mAll (supP fun k => sf (64 + k)) (iniB (fun z => !(subB (nI z) (softS sf n))) eg 1024) k1) → va_P G.1 vwCl [(a16, AZ G 1024 (fun z => bI (g2 z))), (m0, OB 7 [.int th, .ref a1, .ref a2, .ref a3, .int (nI ud), .ref a5, .ref a6, .ref a7, .int (nI ln), .int (nI nx), .int (nI ts), .int tk, .int vl, .int er, .ref a14, .int rq, .ref a16]), (a1, AI G 568 sf)] H → va_D A [(a16, AZ G 1024 (fun z => bI (g2 z))), (m0, OB 7 [.int th, .ref a1, .ref a2, .ref a3, .int (nI ud), .ref a5, .ref a6, .ref a7, .int (nI ln), .int (nI nx), .int (nI ts), .int tk, .int vl, .int er, .ref a14, .int rq, .ref a16]), (a1, AI G 568 sf)] → va_S A s.heap H locs → lv_has ls 3 [(0, .ref m0), (1, .int (softS sf n)), (2, .int (nI k1))] → W p l e rmX7_markAll s m ([.ref m0] : List Value).toArray below meth c H locs 0 0 Q (F0 m 41 ls []) := by
          intro kf
          induction kf with
          | zero => intro k1 g2 H locs ls h; exact absurd h (Nat.not_lt_zero _)
          | succ kf ih =>
            intro k1 g2 H locs ls hk hi1 hg2 hP hD hS hl
            refine lv_iload_n hx hb dX7_markAll_41 rfl (lv_at hl 2 rfl) ?_
            refine lv_aload_n hx hb dX7_markAll_42 rfl (lv_at hl 0 rfl) ?_
            refine va_get (D := G.1) (ci := 7) (v := .ref a1) (C := RX7) (T := TX7) (N := 17) hx hb hts hi7 hown hK hP 1 rfl rfl 1 (by decide) (hts (.fieldLink RX7 7 "ConflictEnumeratorModel" "s" "[I") (List.mem_of_getElem? (i := 2) rfl)) (fun _ h9 => h9) rfl dX7_markAll_43 ?_
            refine lv_iconst (v := 2) hx hb dX7_markAll_46 (by decide) ?_
            refine wa_iald hx hb hK hP 2 rfl (2) (rfl) (by omega) (by decide) dX7_markAll_47 ?_
            rw [show sf 2 = nI un from hu]
            refine lv_icmp_ge (tgt := 70) hx hb dX7_markAll_48 (by decide) (fun c_48 => ?_) (fun c_48 => ?_)
            ·
              have c_48 : un ≤ k1 := (nI_leI (a := un) (b := k1) (by omega) (by omega)).mp c_48
              obtain rfl : un = k1 := by omega
              refine lv_iconst (v := 0) hx hb dX7_markAll_70 (by decide) ?_
              refine lv_istore_n (lv' := [(2, .int 0), (0, .ref m0), (1, .int (softS sf n))]) hx hb dX7_markAll_71 rfl hl (by decide) rfl (fun ls hl => ?_)
              have L72 : ∀ (kf : Nat) (k2 : Nat) (g3 : Nat → Bool) (H : Heap) (locs : List Loc) (ls : Array Slot), zn - k2 < kf → (k2 ≤ zn) → (g3 = mAll (subP fun k => sf (316 + k)) (mAll (supP fun k => sf (64 + k)) (iniB (fun z => !(subB (nI z) (softS sf n))) eg 1024) un) k2) → va_P G.1 vwCl [(a16, AZ G 1024 (fun z => bI (g3 z))), (m0, OB 7 [.int th, .ref a1, .ref a2, .ref a3, .int (nI ud), .ref a5, .ref a6, .ref a7, .int (nI ln), .int (nI nx), .int (nI ts), .int tk, .int vl, .int er, .ref a14, .int rq, .ref a16]), (a1, AI G 568 sf)] H → va_D A [(a16, AZ G 1024 (fun z => bI (g3 z))), (m0, OB 7 [.int th, .ref a1, .ref a2, .ref a3, .int (nI ud), .ref a5, .ref a6, .ref a7, .int (nI ln), .int (nI nx), .int (nI ts), .int tk, .int vl, .int er, .ref a14, .int rq, .ref a16]), (a1, AI G 568 sf)] → va_S A s.heap H locs → lv_has ls 3 [(0, .ref m0), (1, .int (softS sf n)), (2, .int (nI k2))] → W p l e rmX7_markAll s m ([.ref m0] : List Value).toArray below meth c H locs 0 0 Q (F0 m 72 ls []) := by
                intro kf
                induction kf with
                | zero => intro k2 g3 H locs ls h; exact absurd h (Nat.not_lt_zero _)
                | succ kf ih =>
                  intro k2 g3 H locs ls hk hi2 hg3 hP hD hS hl
                  refine lv_iload_n hx hb dX7_markAll_72 rfl (lv_at hl 2 rfl) ?_
                  refine lv_aload_n hx hb dX7_markAll_73 rfl (lv_at hl 0 rfl) ?_
                  refine va_get (D := G.1) (ci := 7) (v := .ref a1) (C := RX7) (T := TX7) (N := 17) hx hb hts hi7 hown hK hP 1 rfl rfl 1 (by decide) (hts (.fieldLink RX7 7 "ConflictEnumeratorModel" "s" "[I") (List.mem_of_getElem? (i := 2) rfl)) (fun _ h9 => h9) rfl dX7_markAll_74 ?_
                  refine lv_iconst (v := 3) hx hb dX7_markAll_77 (by decide) ?_
                  refine wa_iald hx hb hK hP 2 rfl (3) (rfl) (by omega) (by decide) dX7_markAll_78 ?_
                  rw [show sf 3 = nI zn from hz]
                  refine lv_icmp_ge (tgt := 102) hx hb dX7_markAll_79 (by decide) (fun c_79 => ?_) (fun c_79 => ?_)
                  ·
                    have c_79 : zn ≤ k2 := (nI_leI (a := zn) (b := k2) (by omega) (by omega)).mp c_79
                    exact ret _ _ _ _ _ _ _ (Nat.le_of_ble_eq_true rfl) (Nat.le_of_ble_eq_true rfl) (by obtain rfl : k2 = zn := (by omega); subst hg3; rfl) (hP.sub (ws' := [(m0, OB 7 [.int th, .ref a1, .ref a2, .ref a3, .int (nI ud), .ref a5, .ref a6, .ref a7, .int (nI ln), .int (nI nx), .int (nI ts), .int tk, .int vl, .int er, .ref a14, .int rq, .ref a16]), (a1, AI G 568 sf), (a16, AZ G 1024 (fun z => bI (g3 z)))]) [1, 2, 0] rfl) (hD.sub (ws' := [(m0, OB 7 [.int th, .ref a1, .ref a2, .ref a3, .int (nI ud), .ref a5, .ref a6, .ref a7, .int (nI ln), .int (nI nx), .int (nI ts), .int tk, .int vl, .int er, .ref a14, .int rq, .ref a16]), (a1, AI G 568 sf), (a16, AZ G 1024 (fun z => bI (g3 z)))]) [1, 2, 0] (by decide) rfl) hS dX7_markAll_102
                  ·
                    have c_79 : k2 < zn := by have h9 := mt (nI_leI (a := zn) (b := k2) (by omega) (by omega)).mpr c_79; omega
                    refine lv_aload_n hx hb dX7_markAll_82 rfl (lv_at hl 0 rfl) ?_
                    refine lv_aload_n hx hb dX7_markAll_83 rfl (lv_at hl 0 rfl) ?_
                    refine va_get (D := G.1) (ci := 7) (v := .ref a1) (C := RX7) (T := TX7) (N := 17) hx hb hts hi7 hown hK hP 1 rfl rfl 1 (by decide) (hts (.fieldLink RX7 7 "ConflictEnumeratorModel" "s" "[I") (List.mem_of_getElem? (i := 2) rfl)) (fun _ h9 => h9) rfl dX7_markAll_84 ?_
                    refine lv_sipush (v := 316) hx hb dX7_markAll_87 (by decide) ?_
                    refine lv_iload_n hx hb dX7_markAll_90 rfl (lv_at hl 2 rfl) ?_
                    refine wn_iadd hx hb (316) (k2) rfl rfl dX7_markAll_91 ?_
                    refine wa_iald hx hb hK hP 2 rfl (316 + k2) (rfl) (by omega) (by decide) dX7_markAll_92 ?_
                    refine call_Vv (rest := []) (As := [.int (sf (316 + k2))]) (wr := [(a1, AI G 568 sf)]) (c1 := 0) (s1 := 0) ⟨hx, hb, hml, hown, hts⟩ (c_X7_markSubsets l G m0 a1 a2 a3 a5 a6 a7 a14 a16 th ud ln nx ts tk vl er rq g3 (sf (316 + k2)) ) (cwV 1 hts gX7_markAll_X7_markSubsets rfl rfl rfl (by decide +kernel) ⟨Nat.le_of_ble_eq_true rfl, Nat.le_of_ble_eq_true rfl⟩) hK hN hSS hP hD hS hA 0 7 rfl rfl rfl [1, 0] [2] rfl rfl (by decide) (by decide) (by decide) rfl hl.1 rfl (Nat.le_of_ble_eq_true rfl) dX7_markAll_93 ⟨Nat.le_of_ble_eq_true rfl, Nat.le_of_ble_eq_true rfl⟩ rfl rfl (fun u_93 H locs hpo hP hD hS => ?_)
                    subst hpo
                    have hP : va_P G.1 vwCl [(a1, AI G 568 sf), (m0, OB 7 [.int th, .ref a1, .ref a2, .ref a3, .int (nI ud), .ref a5, .ref a6, .ref a7, .int (nI ln), .int (nI nx), .int (nI ts), .int tk, .int vl, .int er, .ref a14, .int rq, .ref a16]), (a16, AZ G 1024 (fun z => bI ((mkB (fun z => subB (nI z) (sf (316 + k2))) g3 1024) z)))] H := hP
                    have hD : va_D A [(a1, AI G 568 sf), (m0, OB 7 [.int th, .ref a1, .ref a2, .ref a3, .int (nI ud), .ref a5, .ref a6, .ref a7, .int (nI ln), .int (nI nx), .int (nI ts), .int tk, .int vl, .int er, .ref a14, .int rq, .ref a16]), (a16, AZ G 1024 (fun z => bI ((mkB (fun z => subB (nI z) (sf (316 + k2))) g3 1024) z)))] := hD
                    refine lv_iinc (v := nI (k2 + 1)) (lv' := [(2, .int (nI (k2 + 1))), (0, .ref m0), (1, .int (softS sf n))]) hx hb dX7_markAll_96 hl (k := 2) rfl (nI_inc (k2) 1) (by decide) rfl (fun ls hl => ?_)
                    refine lv_goto (tgt := 72) hx hb dX7_markAll_99 (by decide) ?_
                    exact ih (k2 + 1) (mkB (fun z => subB (nI z) (sf (316 + k2))) g3 1024) _ _ _ (by omega) (by omega) (by rw [hg3]; rfl) (hP.sub (ws' := [(a16, AZ G 1024 (fun z => bI ((mkB (fun z => subB (nI z) (sf (316 + k2))) g3 1024) z))), (m0, OB 7 [.int th, .ref a1, .ref a2, .ref a3, .int (nI ud), .ref a5, .ref a6, .ref a7, .int (nI ln), .int (nI nx), .int (nI ts), .int tk, .int vl, .int er, .ref a14, .int rq, .ref a16]), (a1, AI G 568 sf)]) [2, 1, 0] rfl) (hD.sub (ws' := [(a16, AZ G 1024 (fun z => bI ((mkB (fun z => subB (nI z) (sf (316 + k2))) g3 1024) z))), (m0, OB 7 [.int th, .ref a1, .ref a2, .ref a3, .int (nI ud), .ref a5, .ref a6, .ref a7, .int (nI ln), .int (nI nx), .int (nI ts), .int tk, .int vl, .int er, .ref a14, .int rq, .ref a16]), (a1, AI G 568 sf)]) [2, 1, 0] (by decide) rfl) hS (lv_sub (l' := [(0, .ref m0), (1, .int (softS sf n)), (2, .int (nI (k2 + 1)))]) hl [1, 2, 0] rfl)
              exact L72 ((zn - 0) + 1) 0 g2 _ _ _ (Nat.lt_succ_self _) (Nat.zero_le _) (by rw [hg2]; rfl) (hP.sub (ws' := [(a16, AZ G 1024 (fun z => bI (g2 z))), (m0, OB 7 [.int th, .ref a1, .ref a2, .ref a3, .int (nI ud), .ref a5, .ref a6, .ref a7, .int (nI ln), .int (nI nx), .int (nI ts), .int tk, .int vl, .int er, .ref a14, .int rq, .ref a16]), (a1, AI G 568 sf)]) [0, 1, 2] rfl) (hD.sub (ws' := [(a16, AZ G 1024 (fun z => bI (g2 z))), (m0, OB 7 [.int th, .ref a1, .ref a2, .ref a3, .int (nI ud), .ref a5, .ref a6, .ref a7, .int (nI ln), .int (nI nx), .int (nI ts), .int tk, .int vl, .int er, .ref a14, .int rq, .ref a16]), (a1, AI G 568 sf)]) [0, 1, 2] (by decide) rfl) hS (lv_sub (l' := [(0, .ref m0), (1, .int (softS sf n)), (2, .int (nI 0))]) hl [1, 2, 0] rfl)
            ·
              have c_48 : k1 < un := by have h9 := mt (nI_leI (a := un) (b := k1) (by omega) (by omega)).mpr c_48; omega
              refine lv_aload_n hx hb dX7_markAll_51 rfl (lv_at hl 0 rfl) ?_
              refine lv_aload_n hx hb dX7_markAll_52 rfl (lv_at hl 0 rfl) ?_
              refine va_get (D := G.1) (ci := 7) (v := .ref a1) (C := RX7) (T := TX7) (N := 17) hx hb hts hi7 hown hK hP 1 rfl rfl 1 (by decide) (hts (.fieldLink RX7 7 "ConflictEnumeratorModel" "s" "[I") (List.mem_of_getElem? (i := 2) rfl)) (fun _ h9 => h9) rfl dX7_markAll_53 ?_
              refine lv_bipush (v := 64) hx hb dX7_markAll_56 (by decide) ?_
              refine lv_iload_n hx hb dX7_markAll_58 rfl (lv_at hl 2 rfl) ?_
              refine wn_iadd hx hb (64) (k1) rfl rfl dX7_markAll_59 ?_
              refine wa_iald hx hb hK hP 2 rfl (64 + k1) (rfl) (by omega) (by decide) dX7_markAll_60 ?_
              refine call_Vv (rest := []) (As := [.int (sf (64 + k1))]) (wr := [(a1, AI G 568 sf)]) (c1 := 0) (s1 := 0) ⟨hx, hb, hml, hown, hts⟩ (c_X7_markSupersets l G m0 a1 a2 a3 a5 a6 a7 a14 a16 th ud ln nx ts tk vl er rq g2 (sf (64 + k1)) ) (cwV 1 hts gX7_markAll_X7_markSupersets rfl rfl rfl (by decide +kernel) ⟨Nat.le_of_ble_eq_true rfl, Nat.le_of_ble_eq_true rfl⟩) hK hN hSS hP hD hS hA 0 7 rfl rfl rfl [1, 0] [2] rfl rfl (by decide) (by decide) (by decide) rfl hl.1 rfl (Nat.le_of_ble_eq_true rfl) dX7_markAll_61 ⟨Nat.le_of_ble_eq_true rfl, Nat.le_of_ble_eq_true rfl⟩ rfl rfl (fun u_61 H locs hpo hP hD hS => ?_)
              subst hpo
              have hP : va_P G.1 vwCl [(a1, AI G 568 sf), (m0, OB 7 [.int th, .ref a1, .ref a2, .ref a3, .int (nI ud), .ref a5, .ref a6, .ref a7, .int (nI ln), .int (nI nx), .int (nI ts), .int tk, .int vl, .int er, .ref a14, .int rq, .ref a16]), (a16, AZ G 1024 (fun z => bI ((mkB (fun z => subB (sf (64 + k1)) (nI z)) g2 1024) z)))] H := hP
              have hD : va_D A [(a1, AI G 568 sf), (m0, OB 7 [.int th, .ref a1, .ref a2, .ref a3, .int (nI ud), .ref a5, .ref a6, .ref a7, .int (nI ln), .int (nI nx), .int (nI ts), .int tk, .int vl, .int er, .ref a14, .int rq, .ref a16]), (a16, AZ G 1024 (fun z => bI ((mkB (fun z => subB (sf (64 + k1)) (nI z)) g2 1024) z)))] := hD
              refine lv_iinc (v := nI (k1 + 1)) (lv' := [(2, .int (nI (k1 + 1))), (0, .ref m0), (1, .int (softS sf n))]) hx hb dX7_markAll_64 hl (k := 2) rfl (nI_inc (k1) 1) (by decide) rfl (fun ls hl => ?_)
              refine lv_goto (tgt := 41) hx hb dX7_markAll_67 (by decide) ?_
              exact ih (k1 + 1) (mkB (fun z => subB (sf (64 + k1)) (nI z)) g2 1024) _ _ _ (by omega) (by omega) (by rw [hg2]; rfl) (hP.sub (ws' := [(a16, AZ G 1024 (fun z => bI ((mkB (fun z => subB (sf (64 + k1)) (nI z)) g2 1024) z))), (m0, OB 7 [.int th, .ref a1, .ref a2, .ref a3, .int (nI ud), .ref a5, .ref a6, .ref a7, .int (nI ln), .int (nI nx), .int (nI ts), .int tk, .int vl, .int er, .ref a14, .int rq, .ref a16]), (a1, AI G 568 sf)]) [2, 1, 0] rfl) (hD.sub (ws' := [(a16, AZ G 1024 (fun z => bI ((mkB (fun z => subB (sf (64 + k1)) (nI z)) g2 1024) z))), (m0, OB 7 [.int th, .ref a1, .ref a2, .ref a3, .int (nI ud), .ref a5, .ref a6, .ref a7, .int (nI ln), .int (nI nx), .int (nI ts), .int tk, .int vl, .int er, .ref a14, .int rq, .ref a16]), (a1, AI G 568 sf)]) [2, 1, 0] (by decide) rfl) hS (lv_sub (l' := [(0, .ref m0), (1, .int (softS sf n)), (2, .int (nI (k1 + 1)))]) hl [1, 2, 0] rfl)
        exact L41 ((un - 0) + 1) 0 g _ _ _ (Nat.lt_succ_self _) (Nat.zero_le _) (by rw [hg]; rfl) (hP.sub (ws' := [(a16, AZ G 1024 (fun z => bI (g z))), (m0, OB 7 [.int th, .ref a1, .ref a2, .ref a3, .int (nI ud), .ref a5, .ref a6, .ref a7, .int (nI ln), .int (nI nx), .int (nI ts), .int tk, .int vl, .int er, .ref a14, .int rq, .ref a16]), (a1, AI G 568 sf)]) [0, 1, 2] rfl) (hD.sub (ws' := [(a16, AZ G 1024 (fun z => bI (g z))), (m0, OB 7 [.int th, .ref a1, .ref a2, .ref a3, .int (nI ud), .ref a5, .ref a6, .ref a7, .int (nI ln), .int (nI nx), .int (nI ts), .int tk, .int vl, .int er, .ref a14, .int rq, .ref a16]), (a1, AI G 568 sf)]) [0, 1, 2] (by decide) rfl) hS (lv_sub (l' := [(0, .ref m0), (1, .int (softS sf n)), (2, .int (nI 0))]) hl [1, 2, 0] rfl)
      ·
        have c_11 : j < 1024 := by have h9 := mt (nI_leI (a := 1024) (b := j) (by omega) (by omega)).mpr c_11; omega
        refine lv_aload_n hx hb dX7_markAll_14 rfl (lv_at hl 0 rfl) ?_
        refine va_get (D := G.1) (ci := 7) (v := .ref a16) (C := RX7) (T := TX7) (N := 17) hx hb hts hi7 hown hK hP 1 rfl rfl 16 (by decide) (hts (.fieldLink RX7 32 "ConflictEnumeratorModel" "isExplored" "[Z") (List.mem_of_getElem? (i := 1) rfl)) (fun _ h9 => h9) rfl dX7_markAll_15 ?_
        refine lv_iload_n hx hb dX7_markAll_18 rfl (lv_at hl 2 rfl) ?_
        refine lv_iload_n hx hb dX7_markAll_19 rfl (lv_at hl 2 rfl) ?_
        refine lv_iload_n hx hb dX7_markAll_20 rfl (lv_at hl 1 rfl) ?_
        refine lv_iconst (v := (-1)) hx hb dX7_markAll_21 (by decide) ?_
        refine wn_inot hx hb rfl dX7_markAll_22 ?_
        refine lv_iand hx hb dX7_markAll_23 ?_
        refine lv_if_eq (tgt := 31) hx hb dX7_markAll_24 (by decide) (fun c_24 => ?_) (fun c_24 => ?_)
        ·
          refine lv_iconst (v := 0) hx hb dX7_markAll_31 (by decide) ?_
          refine wa_zast hx hb hK hP hD hS 0 rfl (j) (rfl) (by omega) (by decide) dX7_markAll_32 (fun H locs hP hD hS => ?_)
          have hP : va_P G.1 vwCl [(a16, AZ G 1024 (va_up (fun z => bI (g z)) j 0)), (m0, OB 7 [.int th, .ref a1, .ref a2, .ref a3, .int (nI ud), .ref a5, .ref a6, .ref a7, .int (nI ln), .int (nI nx), .int (nI ts), .int tk, .int vl, .int er, .ref a14, .int rq, .ref a16]), (a1, AI G 568 sf)] H := hP
          have hD : va_D A [(a16, AZ G 1024 (va_up (fun z => bI (g z)) j 0)), (m0, OB 7 [.int th, .ref a1, .ref a2, .ref a3, .int (nI ud), .ref a5, .ref a6, .ref a7, .int (nI ln), .int (nI nx), .int (nI ts), .int tk, .int vl, .int er, .ref a14, .int rq, .ref a16]), (a1, AI G 568 sf)] := hD
          rw [show va_up (fun z => bI (g z)) j 0 = fun z => bI (va_up g j false z) from upB g j false] at hP hD
          refine lv_iinc (v := nI (j + 1)) (lv' := [(2, .int (nI (j + 1))), (0, .ref m0), (1, .int (softS sf n))]) hx hb dX7_markAll_33 hl (k := 2) rfl (nI_inc (j) 1) (by decide) rfl (fun ls hl => ?_)
          refine lv_goto (tgt := 7) hx hb dX7_markAll_36 (by decide) ?_
          exact ih (j + 1) (va_up g j false) _ _ _ (by omega) (by omega) (by rw [hg]; exact iniB_s _ _ _ (by simp [subB, c_11, c_24])) (hP.sub (ws' := [(a16, AZ G 1024 (fun z => bI ((va_up g j false) z))), (m0, OB 7 [.int th, .ref a1, .ref a2, .ref a3, .int (nI ud), .ref a5, .ref a6, .ref a7, .int (nI ln), .int (nI nx), .int (nI ts), .int tk, .int vl, .int er, .ref a14, .int rq, .ref a16]), (a1, AI G 568 sf)]) [0, 1, 2] rfl) (hD.sub (ws' := [(a16, AZ G 1024 (fun z => bI ((va_up g j false) z))), (m0, OB 7 [.int th, .ref a1, .ref a2, .ref a3, .int (nI ud), .ref a5, .ref a6, .ref a7, .int (nI ln), .int (nI nx), .int (nI ts), .int tk, .int vl, .int er, .ref a14, .int rq, .ref a16]), (a1, AI G 568 sf)]) [0, 1, 2] (by decide) rfl) hS (lv_sub (l' := [(0, .ref m0), (1, .int (softS sf n)), (2, .int (nI (j + 1)))]) hl [1, 2, 0] rfl)
        ·
          refine lv_iconst (v := 1) hx hb dX7_markAll_27 (by decide) ?_
          refine lv_goto (tgt := 32) hx hb dX7_markAll_28 (by decide) ?_
          refine wa_zast hx hb hK hP hD hS 0 rfl (j) (rfl) (by omega) (by decide) dX7_markAll_32 (fun H locs hP hD hS => ?_)
          have hP : va_P G.1 vwCl [(a16, AZ G 1024 (va_up (fun z => bI (g z)) j 1)), (m0, OB 7 [.int th, .ref a1, .ref a2, .ref a3, .int (nI ud), .ref a5, .ref a6, .ref a7, .int (nI ln), .int (nI nx), .int (nI ts), .int tk, .int vl, .int er, .ref a14, .int rq, .ref a16]), (a1, AI G 568 sf)] H := hP
          have hD : va_D A [(a16, AZ G 1024 (va_up (fun z => bI (g z)) j 1)), (m0, OB 7 [.int th, .ref a1, .ref a2, .ref a3, .int (nI ud), .ref a5, .ref a6, .ref a7, .int (nI ln), .int (nI nx), .int (nI ts), .int tk, .int vl, .int er, .ref a14, .int rq, .ref a16]), (a1, AI G 568 sf)] := hD
          rw [show va_up (fun z => bI (g z)) j 1 = fun z => bI (va_up g j true z) from upB g j true] at hP hD
          refine lv_iinc (v := nI (j + 1)) (lv' := [(2, .int (nI (j + 1))), (0, .ref m0), (1, .int (softS sf n))]) hx hb dX7_markAll_33 hl (k := 2) rfl (nI_inc (j) 1) (by decide) rfl (fun ls hl => ?_)
          refine lv_goto (tgt := 7) hx hb dX7_markAll_36 (by decide) ?_
          exact ih (j + 1) (va_up g j true) _ _ _ (by omega) (by omega) (by rw [hg]; exact iniB_s _ _ _ (by simp [subB, c_11, c_24])) (hP.sub (ws' := [(a16, AZ G 1024 (fun z => bI ((va_up g j true) z))), (m0, OB 7 [.int th, .ref a1, .ref a2, .ref a3, .int (nI ud), .ref a5, .ref a6, .ref a7, .int (nI ln), .int (nI nx), .int (nI ts), .int tk, .int vl, .int er, .ref a14, .int rq, .ref a16]), (a1, AI G 568 sf)]) [0, 1, 2] rfl) (hD.sub (ws' := [(a16, AZ G 1024 (fun z => bI ((va_up g j true) z))), (m0, OB 7 [.int th, .ref a1, .ref a2, .ref a3, .int (nI ud), .ref a5, .ref a6, .ref a7, .int (nI ln), .int (nI nx), .int (nI ts), .int tk, .int vl, .int er, .ref a14, .int rq, .ref a16]), (a1, AI G 568 sf)]) [0, 1, 2] (by decide) rfl) hS (lv_sub (l' := [(0, .ref m0), (1, .int (softS sf n)), (2, .int (nI (j + 1)))]) hl [1, 2, 0] rfl)
  exact L7 ((1024 - 0) + 1) 0 eg _ _ _ (Nat.lt_succ_self _) (Nat.zero_le _) ((iniB_0 _ _).symm) (hP.sub (ws' := [(a16, AZ G 1024 (fun z => bI (eg z))), (m0, OB 7 [.int th, .ref a1, .ref a2, .ref a3, .int (nI ud), .ref a5, .ref a6, .ref a7, .int (nI ln), .int (nI nx), .int (nI ts), .int tk, .int vl, .int er, .ref a14, .int rq, .ref a16]), (a1, AI G 568 sf)]) [0, 1, 2] rfl) (hD.sub (ws' := [(a16, AZ G 1024 (fun z => bI (eg z))), (m0, OB 7 [.int th, .ref a1, .ref a2, .ref a3, .int (nI ud), .ref a5, .ref a6, .ref a7, .int (nI ln), .int (nI nx), .int (nI ts), .int tk, .int vl, .int er, .ref a14, .int rq, .ref a16]), (a1, AI G 568 sf)]) [0, 1, 2] (by decide) rfl) hS (lv_sub (l' := [(0, .ref m0), (1, .int (softS sf n)), (2, .int (nI 0))]) hl [2, 1, 0] rfl)
abbrev rmX7_findSeed : Room := { frames := 1, cells := 0, slots := 0, locals := 22 }
set_option maxHeartbeats 4000000 in
set_option maxRecDepth 100000 in
theorem c_X7_findSeed (l : Launch) (G : GT) (m0 a1 a2 a3 a5 a6 a7 a14 a16 : Nat) (th : Int32) (ud ln nx ts : Nat) (tk vl er rq : Int32) (sf : Nat → Int32) (eg : Nat → Bool)  : Ci l yX7_findSeed wsX7_findSeed rmX7_findSeed G [.ref m0] [(m0, OB 7 [.int th, .ref a1, .ref a2, .ref a3, .int (nI ud), .ref a5, .ref a6, .ref a7, .int (nI ln), .int (nI nx), .int (nI ts), .int tk, .int vl, .int er, .ref a14, .int rq, .ref a16]), (a1, AI G 568 sf), (a16, AZ G 1024 (fun z => bI (eg z)))] (fun r u => r = sdM (sf 1) eg 1024 ∧ u = [(m0, OB 7 [.int th, .ref a1, .ref a2, .ref a3, .int (nI ud), .ref a5, .ref a6, .ref a7, .int (nI ln), .int (nI nx), .int (nI ts), .int tk, .int vl, .int er, .ref a14, .int rq, .ref a16]), (a1, AI G 568 sf), (a16, AZ G 1024 (fun z => bI (eg z)))]) := by
  refine Ci.of (cc := cX7_findSeed) (maxL := 5) (ty := .int) (by decide) rfl (Nat.le_of_ble_eq_true rfl) ?_
  intro p e s m below meth c A ls Q hx hb hml hts hown hA hS hP hK hN hSS hD hl ret
  have hown : s.vm.findClass RX7 = some m.cls := hown
  have hl : lv_has ls 5 [(0, .ref m0)] := hl
  have hi7 : ∀ w ∈ wsX70, w ∈ wsX7_findSeed := mem_places [7, 8, 9, 10, 11, 12, 13, 14, 15, 16, 17, 18, 19, 20, 21, 22, 23] (by decide +kernel)
  refine lv_bipush (v := (-9)) hx hb dX7_findSeed_0 (by decide) ?_
  refine lv_istore_n (lv' := [(1, .int (-9)), (0, .ref m0)]) hx hb dX7_findSeed_2 rfl hl (by decide) rfl (fun ls hl => ?_)
  refine lv_iconst (v := 0) hx hb dX7_findSeed_3 (by decide) ?_
  refine lv_istore_n (lv' := [(2, .int 0), (1, .int (-9)), (0, .ref m0)]) hx hb dX7_findSeed_4 rfl hl (by decide) rfl (fun ls hl => ?_)
  have L5 : ∀ (kf : Nat) (j : Nat) (fd : Int32) (H : Heap) (locs : List Loc) (ls : Array Slot), 1024 - j < kf → (j ≤ 1024) → (fd = sdM (sf 1) eg j) → va_P G.1 vwCl [(m0, OB 7 [.int th, .ref a1, .ref a2, .ref a3, .int (nI ud), .ref a5, .ref a6, .ref a7, .int (nI ln), .int (nI nx), .int (nI ts), .int tk, .int vl, .int er, .ref a14, .int rq, .ref a16]), (a1, AI G 568 sf), (a16, AZ G 1024 (fun z => bI (eg z)))] H → va_D A [(m0, OB 7 [.int th, .ref a1, .ref a2, .ref a3, .int (nI ud), .ref a5, .ref a6, .ref a7, .int (nI ln), .int (nI nx), .int (nI ts), .int tk, .int vl, .int er, .ref a14, .int rq, .ref a16]), (a1, AI G 568 sf), (a16, AZ G 1024 (fun z => bI (eg z)))] → va_S A s.heap H locs → lv_has ls 5 [(0, .ref m0), (1, .int fd), (2, .int (nI j))] → W p l e rmX7_findSeed s m ([.ref m0] : List Value).toArray below meth c H locs 0 0 Q (F0 m 5 ls []) := by
    intro kf
    induction kf with
    | zero => intro j fd H locs ls h; exact absurd h (Nat.not_lt_zero _)
    | succ kf ih =>
      intro j fd H locs ls hk hi ha hP hD hS hl
      refine lv_iload_n hx hb dX7_findSeed_5 rfl (lv_at hl 2 rfl) ?_
      refine lv_sipush (v := 1024) hx hb dX7_findSeed_6 (by decide) ?_
      refine lv_icmp_ge (tgt := 101) hx hb dX7_findSeed_9 (by decide) (fun c_9 => ?_) (fun c_9 => ?_)
      ·
        have c_9 : 1024 ≤ j := (nI_leI (a := 1024) (b := j) (by omega) (by omega)).mp c_9
        refine lv_iload_n hx hb dX7_findSeed_101 rfl (lv_at hl 1 rfl) ?_
        exact ret fd _ _ _ _ _ _ _ (Nat.le_of_ble_eq_true rfl) (Nat.le_of_ble_eq_true rfl) (rfl) (⟨by rw [ha, show j = 1024 by omega], rfl⟩) (hP.sub (ws' := [(m0, OB 7 [.int th, .ref a1, .ref a2, .ref a3, .int (nI ud), .ref a5, .ref a6, .ref a7, .int (nI ln), .int (nI nx), .int (nI ts), .int tk, .int vl, .int er, .ref a14, .int rq, .ref a16]), (a1, AI G 568 sf), (a16, AZ G 1024 (fun z => bI (eg z)))]) [0, 1, 2] rfl) (hD.sub (ws' := [(m0, OB 7 [.int th, .ref a1, .ref a2, .ref a3, .int (nI ud), .ref a5, .ref a6, .ref a7, .int (nI ln), .int (nI nx), .int (nI ts), .int tk, .int vl, .int er, .ref a14, .int rq, .ref a16]), (a1, AI G 568 sf), (a16, AZ G 1024 (fun z => bI (eg z)))]) [0, 1, 2] (by decide) rfl) hS dX7_findSeed_102
      ·
        have c_9 : j < 1024 := by have h9 := mt (nI_leI (a := 1024) (b := j) (by omega) (by omega)).mpr c_9; omega
        refine lv_aload_n hx hb dX7_findSeed_12 rfl (lv_at hl 0 rfl) ?_
        refine va_get (D := G.1) (ci := 7) (v := .ref a16) (C := RX7) (T := TX7) (N := 17) hx hb hts hi7 hown hK hP 0 rfl rfl 16 (by decide) (hts (.fieldLink RX7 32 "ConflictEnumeratorModel" "isExplored" "[Z") (List.mem_of_getElem? (i := 1) rfl)) (fun _ h9 => h9) rfl dX7_findSeed_13 ?_
        refine lv_iload_n hx hb dX7_findSeed_16 rfl (lv_at hl 2 rfl) ?_
        refine wa_zald hx hb hK hP 2 rfl (j) (rfl) (by omega) (by decide) dX7_findSeed_17 ?_
        refine wb_ne (tgt := 95) hx hb dX7_findSeed_18 (by decide) (fun c_18 => ?_) (fun c_18 => ?_)
        ·
          refine lv_iinc (v := nI (j + 1)) (lv' := [(2, .int (nI (j + 1))), (0, .ref m0), (1, .int fd)]) hx hb dX7_findSeed_95 hl (k := 2) rfl (nI_inc (j) 1) (by decide) rfl (fun ls hl => ?_)
          refine lv_goto (tgt := 5) hx hb dX7_findSeed_98 (by decide) ?_
          exact ih (j + 1) fd _ _ _ (by omega) (by omega) (by first | exact absurd c_46 c_80 | exact absurd c_80 c_46 | exact absurd c_60 c_27 | exact absurd c_27 c_60 | (simp only [sdM, szM, ← ha]; simp only [c_9, c_18, eq_self_iff_true, if_true, if_false, true_or, or_true, false_or, or_false, true_and, and_true, false_and, and_false, Bool.true_eq_false, Bool.false_eq_true, not_true, not_false_eq_true, reduceIte, Bool.not_true, Bool.not_false])) (hP.sub (ws' := [(m0, OB 7 [.int th, .ref a1, .ref a2, .ref a3, .int (nI ud), .ref a5, .ref a6, .ref a7, .int (nI ln), .int (nI nx), .int (nI ts), .int tk, .int vl, .int er, .ref a14, .int rq, .ref a16]), (a1, AI G 568 sf), (a16, AZ G 1024 (fun z => bI (eg z)))]) [0, 1, 2] rfl) (hD.sub (ws' := [(m0, OB 7 [.int th, .ref a1, .ref a2, .ref a3, .int (nI ud), .ref a5, .ref a6, .ref a7, .int (nI ln), .int (nI nx), .int (nI ts), .int tk, .int vl, .int er, .ref a14, .int rq, .ref a16]), (a1, AI G 568 sf), (a16, AZ G 1024 (fun z => bI (eg z)))]) [0, 1, 2] (by decide) rfl) hS (lv_sub (l' := [(0, .ref m0), (1, .int fd), (2, .int (nI (j + 1)))]) hl [1, 2, 0] rfl)
        ·
          refine lv_aload_n hx hb dX7_findSeed_21 rfl (lv_at hl 0 rfl) ?_
          refine va_get (D := G.1) (ci := 7) (v := .ref a1) (C := RX7) (T := TX7) (N := 17) hx hb hts hi7 hown hK hP 0 rfl rfl 1 (by decide) (hts (.fieldLink RX7 7 "ConflictEnumeratorModel" "s" "[I") (List.mem_of_getElem? (i := 2) rfl)) (fun _ h9 => h9) rfl dX7_findSeed_22 ?_
          refine lv_iconst (v := 1) hx hb dX7_findSeed_25 (by decide) ?_
          refine wa_iald hx hb hK hP 1 rfl (1) (rfl) (by omega) (by decide) dX7_findSeed_26 ?_
          refine lv_if_ne (tgt := 37) hx hb dX7_findSeed_27 (by decide) (fun c_27 => ?_) (fun c_27 => ?_)
          ·
            refine lv_iload_n hx hb dX7_findSeed_37 rfl (lv_at hl 2 rfl) ?_
            refine call_Si (rest := []) (As := [.int (nI j)]) (wr := [(m0, OB 7 [.int th, .ref a1, .ref a2, .ref a3, .int (nI ud), .ref a5, .ref a6, .ref a7, .int (nI ln), .int (nI nx), .int (nI ts), .int tk, .int vl, .int er, .ref a14, .int rq, .ref a16]), (a1, AI G 568 sf), (a16, AZ G 1024 (fun z => bI (eg z)))]) (c1 := 0) (s1 := 0) ⟨hx, hb, hml, hown, hts⟩ (c_X7_bitCount l G (nI j) ) (va_cwS 1 hts gX7_findSeed_X7_bitCount rfl rfl rfl (by decide +kernel) ⟨Nat.le_of_ble_eq_true rfl, Nat.le_of_ble_eq_true rfl⟩) hK hN hSS hP hD hS hA [] [0, 1, 2] rfl rfl (by decide) (by decide) (by decide) rfl hl.1 rfl (Nat.le_of_ble_eq_true rfl) dX7_findSeed_38 ⟨Nat.le_of_ble_eq_true rfl, Nat.le_of_ble_eq_true rfl⟩ rfl rfl (fun r_38 u_38 H locs hpo hP hD hS => ?_)
            obtain ⟨hr9, rfl⟩ := hpo
            subst r_38
            have hP : va_P G.1 vwCl [(m0, OB 7 [.int th, .ref a1, .ref a2, .ref a3, .int (nI ud), .ref a5, .ref a6, .ref a7, .int (nI ln), .int (nI nx), .int (nI ts), .int tk, .int vl, .int er, .ref a14, .int rq, .ref a16]), (a1, AI G 568 sf), (a16, AZ G 1024 (fun z => bI (eg z)))] H := hP
            have hD : va_D A [(m0, OB 7 [.int th, .ref a1, .ref a2, .ref a3, .int (nI ud), .ref a5, .ref a6, .ref a7, .int (nI ln), .int (nI nx), .int (nI ts), .int tk, .int vl, .int er, .ref a14, .int rq, .ref a16]), (a1, AI G 568 sf), (a16, AZ G 1024 (fun z => bI (eg z)))] := hD
            refine lv_ineg hx hb dX7_findSeed_41 ?_
            refine lv_istore_n (lv' := [(3, .int (-(bcM (nI j) 10))), (0, .ref m0), (1, .int fd), (2, .int (nI j))]) hx hb dX7_findSeed_42 rfl hl (by decide) rfl (fun ls hl => ?_)
            refine lv_iload_n hx hb dX7_findSeed_43 rfl (lv_at hl 2 rfl) ?_
            refine lv_bipush (v := (-9)) hx hb dX7_findSeed_44 (by decide) ?_
            refine lv_icmp_ne (tgt := 54) hx hb dX7_findSeed_46 (by decide) (fun c_46 => ?_) (fun c_46 => ?_)
            ·
              refine lv_aload_n hx hb dX7_findSeed_54 rfl (lv_at hl 1 rfl) ?_
              refine va_get (D := G.1) (ci := 7) (v := .ref a1) (C := RX7) (T := TX7) (N := 17) hx hb hts hi7 hown hK hP 0 rfl rfl 1 (by decide) (hts (.fieldLink RX7 7 "ConflictEnumeratorModel" "s" "[I") (List.mem_of_getElem? (i := 2) rfl)) (fun _ h9 => h9) rfl dX7_findSeed_55 ?_
              refine lv_iconst (v := 1) hx hb dX7_findSeed_58 (by decide) ?_
              refine wa_iald hx hb hK hP 1 rfl (1) (rfl) (by omega) (by decide) dX7_findSeed_59 ?_
              refine lv_if_ne (tgt := 70) hx hb dX7_findSeed_60 (by decide) (fun c_60 => ?_) (fun c_60 => ?_)
              ·
                refine lv_iload_n hx hb dX7_findSeed_70 rfl (lv_at hl 2 rfl) ?_
                refine call_Si (rest := []) (As := [.int fd]) (wr := [(m0, OB 7 [.int th, .ref a1, .ref a2, .ref a3, .int (nI ud), .ref a5, .ref a6, .ref a7, .int (nI ln), .int (nI nx), .int (nI ts), .int tk, .int vl, .int er, .ref a14, .int rq, .ref a16]), (a1, AI G 568 sf), (a16, AZ G 1024 (fun z => bI (eg z)))]) (c1 := 0) (s1 := 0) ⟨hx, hb, hml, hown, hts⟩ (c_X7_bitCount l G fd ) (va_cwS 1 hts gX7_findSeed_X7_bitCount rfl rfl rfl (by decide +kernel) ⟨Nat.le_of_ble_eq_true rfl, Nat.le_of_ble_eq_true rfl⟩) hK hN hSS hP hD hS hA [] [0, 1, 2] rfl rfl (by decide) (by decide) (by decide) rfl hl.1 rfl (Nat.le_of_ble_eq_true rfl) dX7_findSeed_71 ⟨Nat.le_of_ble_eq_true rfl, Nat.le_of_ble_eq_true rfl⟩ rfl rfl (fun r_71 u_71 H locs hpo hP hD hS => ?_)
                obtain ⟨hr9, rfl⟩ := hpo
                subst r_71
                have hP : va_P G.1 vwCl [(m0, OB 7 [.int th, .ref a1, .ref a2, .ref a3, .int (nI ud), .ref a5, .ref a6, .ref a7, .int (nI ln), .int (nI nx), .int (nI ts), .int tk, .int vl, .int er, .ref a14, .int rq, .ref a16]), (a1, AI G 568 sf), (a16, AZ G 1024 (fun z => bI (eg z)))] H := hP
                have hD : va_D A [(m0, OB 7 [.int th, .ref a1, .ref a2, .ref a3, .int (nI ud), .ref a5, .ref a6, .ref a7, .int (nI ln), .int (nI nx), .int (nI ts), .int tk, .int vl, .int er, .ref a14, .int rq, .ref a16]), (a1, AI G 568 sf), (a16, AZ G 1024 (fun z => bI (eg z)))] := hD
                refine lv_ineg hx hb dX7_findSeed_74 ?_
                refine lv_istore (lv' := [(4, .int (-(bcM fd 10))), (3, .int (-(bcM (nI j) 10))), (0, .ref m0), (1, .int fd), (2, .int (nI j))]) hx hb dX7_findSeed_75 hl (by decide) rfl (fun ls hl => ?_)
                refine lv_iload_n hx hb dX7_findSeed_77 rfl (lv_at hl 3 rfl) ?_
                refine lv_bipush (v := (-9)) hx hb dX7_findSeed_78 (by decide) ?_
                refine lv_icmp_eq (tgt := 89) hx hb dX7_findSeed_80 (by decide) (fun c_80 => ?_) (fun c_80 => ?_)
                ·
                  refine lv_iload_n hx hb dX7_findSeed_89 rfl (lv_at hl 4 rfl) ?_
                  refine lv_goto (tgt := 94) hx hb dX7_findSeed_90 (by decide) ?_
                  refine lv_istore_n (lv' := [(1, .int (nI j)), (4, .int (-(bcM fd 10))), (3, .int (-(bcM (nI j) 10))), (0, .ref m0), (2, .int (nI j))]) hx hb dX7_findSeed_94 rfl hl (by decide) rfl (fun ls hl => ?_)
                  refine lv_iinc (v := nI (j + 1)) (lv' := [(2, .int (nI (j + 1))), (1, .int (nI j)), (4, .int (-(bcM fd 10))), (3, .int (-(bcM (nI j) 10))), (0, .ref m0)]) hx hb dX7_findSeed_95 hl (k := 4) rfl (nI_inc (j) 1) (by decide) rfl (fun ls hl => ?_)
                  refine lv_goto (tgt := 5) hx hb dX7_findSeed_98 (by decide) ?_
                  exact ih (j + 1) (nI j) _ _ _ (by omega) (by omega) (by first | exact absurd c_46 c_80 | exact absurd c_80 c_46 | exact absurd c_60 c_27 | exact absurd c_27 c_60 | (simp only [sdM, szM, ← ha]; simp only [c_9, c_18, c_27, c_46, c_60, c_80, eq_self_iff_true, if_true, if_false, true_or, or_true, false_or, or_false, true_and, and_true, false_and, and_false, Bool.true_eq_false, Bool.false_eq_true, not_true, not_false_eq_true, reduceIte, Bool.not_true, Bool.not_false])) (hP.sub (ws' := [(m0, OB 7 [.int th, .ref a1, .ref a2, .ref a3, .int (nI ud), .ref a5, .ref a6, .ref a7, .int (nI ln), .int (nI nx), .int (nI ts), .int tk, .int vl, .int er, .ref a14, .int rq, .ref a16]), (a1, AI G 568 sf), (a16, AZ G 1024 (fun z => bI (eg z)))]) [0, 1, 2] rfl) (hD.sub (ws' := [(m0, OB 7 [.int th, .ref a1, .ref a2, .ref a3, .int (nI ud), .ref a5, .ref a6, .ref a7, .int (nI ln), .int (nI nx), .int (nI ts), .int tk, .int vl, .int er, .ref a14, .int rq, .ref a16]), (a1, AI G 568 sf), (a16, AZ G 1024 (fun z => bI (eg z)))]) [0, 1, 2] (by decide) rfl) hS (lv_sub (l' := [(0, .ref m0), (1, .int (nI j)), (2, .int (nI (j + 1)))]) hl [4, 1, 0] rfl)
                ·
                  refine lv_iload_n hx hb dX7_findSeed_83 rfl (lv_at hl 1 rfl) ?_
                  refine lv_iload hx hb dX7_findSeed_84 (lv_at hl 0 rfl) ?_
                  refine lv_icmp_le (tgt := 93) hx hb dX7_findSeed_86 (by decide) (fun c_86 => ?_) (fun c_86 => ?_)
                  ·
                    have c_86 : ¬ (-(bcM fd 10)) < (-(bcM (nI j) 10)) := Int32.not_lt.mpr c_86
                    refine lv_iload_n hx hb dX7_findSeed_93 rfl (lv_at hl 3 rfl) ?_
                    refine lv_istore_n (lv' := [(1, .int fd), (4, .int (-(bcM fd 10))), (3, .int (-(bcM (nI j) 10))), (0, .ref m0), (2, .int (nI j))]) hx hb dX7_findSeed_94 rfl hl (by decide) rfl (fun ls hl => ?_)
                    refine lv_iinc (v := nI (j + 1)) (lv' := [(2, .int (nI (j + 1))), (1, .int fd), (4, .int (-(bcM fd 10))), (3, .int (-(bcM (nI j) 10))), (0, .ref m0)]) hx hb dX7_findSeed_95 hl (k := 4) rfl (nI_inc (j) 1) (by decide) rfl (fun ls hl => ?_)
                    refine lv_goto (tgt := 5) hx hb dX7_findSeed_98 (by decide) ?_
                    exact ih (j + 1) fd _ _ _ (by omega) (by omega) (by first | exact absurd c_46 c_80 | exact absurd c_80 c_46 | exact absurd c_60 c_27 | exact absurd c_27 c_60 | (simp only [sdM, szM, ← ha]; simp only [c_9, c_18, c_27, c_46, c_60, c_80, c_86, eq_self_iff_true, if_true, if_false, true_or, or_true, false_or, or_false, true_and, and_true, false_and, and_false, Bool.true_eq_false, Bool.false_eq_true, not_true, not_false_eq_true, reduceIte, Bool.not_true, Bool.not_false])) (hP.sub (ws' := [(m0, OB 7 [.int th, .ref a1, .ref a2, .ref a3, .int (nI ud), .ref a5, .ref a6, .ref a7, .int (nI ln), .int (nI nx), .int (nI ts), .int tk, .int vl, .int er, .ref a14, .int rq, .ref a16]), (a1, AI G 568 sf), (a16, AZ G 1024 (fun z => bI (eg z)))]) [0, 1, 2] rfl) (hD.sub (ws' := [(m0, OB 7 [.int th, .ref a1, .ref a2, .ref a3, .int (nI ud), .ref a5, .ref a6, .ref a7, .int (nI ln), .int (nI nx), .int (nI ts), .int tk, .int vl, .int er, .ref a14, .int rq, .ref a16]), (a1, AI G 568 sf), (a16, AZ G 1024 (fun z => bI (eg z)))]) [0, 1, 2] (by decide) rfl) hS (lv_sub (l' := [(0, .ref m0), (1, .int fd), (2, .int (nI (j + 1)))]) hl [4, 1, 0] rfl)
                  ·
                    have c_86 : (-(bcM fd 10)) < (-(bcM (nI j) 10)) := Int32.not_le.mp c_86
                    refine lv_iload_n hx hb dX7_findSeed_89 rfl (lv_at hl 4 rfl) ?_
                    refine lv_goto (tgt := 94) hx hb dX7_findSeed_90 (by decide) ?_
                    refine lv_istore_n (lv' := [(1, .int (nI j)), (4, .int (-(bcM fd 10))), (3, .int (-(bcM (nI j) 10))), (0, .ref m0), (2, .int (nI j))]) hx hb dX7_findSeed_94 rfl hl (by decide) rfl (fun ls hl => ?_)
                    refine lv_iinc (v := nI (j + 1)) (lv' := [(2, .int (nI (j + 1))), (1, .int (nI j)), (4, .int (-(bcM fd 10))), (3, .int (-(bcM (nI j) 10))), (0, .ref m0)]) hx hb dX7_findSeed_95 hl (k := 4) rfl (nI_inc (j) 1) (by decide) rfl (fun ls hl => ?_)
                    refine lv_goto (tgt := 5) hx hb dX7_findSeed_98 (by decide) ?_
                    exact ih (j + 1) (nI j) _ _ _ (by omega) (by omega) (by first | exact absurd c_46 c_80 | exact absurd c_80 c_46 | exact absurd c_60 c_27 | exact absurd c_27 c_60 | (simp only [sdM, szM, ← ha]; simp only [c_9, c_18, c_27, c_46, c_60, c_80, c_86, eq_self_iff_true, if_true, if_false, true_or, or_true, false_or, or_false, true_and, and_true, false_and, and_false, Bool.true_eq_false, Bool.false_eq_true, not_true, not_false_eq_true, reduceIte, Bool.not_true, Bool.not_false])) (hP.sub (ws' := [(m0, OB 7 [.int th, .ref a1, .ref a2, .ref a3, .int (nI ud), .ref a5, .ref a6, .ref a7, .int (nI ln), .int (nI nx), .int (nI ts), .int tk, .int vl, .int er, .ref a14, .int rq, .ref a16]), (a1, AI G 568 sf), (a16, AZ G 1024 (fun z => bI (eg z)))]) [0, 1, 2] rfl) (hD.sub (ws' := [(m0, OB 7 [.int th, .ref a1, .ref a2, .ref a3, .int (nI ud), .ref a5, .ref a6, .ref a7, .int (nI ln), .int (nI nx), .int (nI ts), .int tk, .int vl, .int er, .ref a14, .int rq, .ref a16]), (a1, AI G 568 sf), (a16, AZ G 1024 (fun z => bI (eg z)))]) [0, 1, 2] (by decide) rfl) hS (lv_sub (l' := [(0, .ref m0), (1, .int (nI j)), (2, .int (nI (j + 1)))]) hl [4, 1, 0] rfl)
              ·
                refine lv_iload_n hx hb dX7_findSeed_63 rfl (lv_at hl 2 rfl) ?_
                refine call_Si (rest := []) (As := [.int fd]) (wr := [(m0, OB 7 [.int th, .ref a1, .ref a2, .ref a3, .int (nI ud), .ref a5, .ref a6, .ref a7, .int (nI ln), .int (nI nx), .int (nI ts), .int tk, .int vl, .int er, .ref a14, .int rq, .ref a16]), (a1, AI G 568 sf), (a16, AZ G 1024 (fun z => bI (eg z)))]) (c1 := 0) (s1 := 0) ⟨hx, hb, hml, hown, hts⟩ (c_X7_bitCount l G fd ) (va_cwS 1 hts gX7_findSeed_X7_bitCount rfl rfl rfl (by decide +kernel) ⟨Nat.le_of_ble_eq_true rfl, Nat.le_of_ble_eq_true rfl⟩) hK hN hSS hP hD hS hA [] [0, 1, 2] rfl rfl (by decide) (by decide) (by decide) rfl hl.1 rfl (Nat.le_of_ble_eq_true rfl) dX7_findSeed_64 ⟨Nat.le_of_ble_eq_true rfl, Nat.le_of_ble_eq_true rfl⟩ rfl rfl (fun r_64 u_64 H locs hpo hP hD hS => ?_)
                obtain ⟨hr9, rfl⟩ := hpo
                subst r_64
                have hP : va_P G.1 vwCl [(m0, OB 7 [.int th, .ref a1, .ref a2, .ref a3, .int (nI ud), .ref a5, .ref a6, .ref a7, .int (nI ln), .int (nI nx), .int (nI ts), .int tk, .int vl, .int er, .ref a14, .int rq, .ref a16]), (a1, AI G 568 sf), (a16, AZ G 1024 (fun z => bI (eg z)))] H := hP
                have hD : va_D A [(m0, OB 7 [.int th, .ref a1, .ref a2, .ref a3, .int (nI ud), .ref a5, .ref a6, .ref a7, .int (nI ln), .int (nI nx), .int (nI ts), .int tk, .int vl, .int er, .ref a14, .int rq, .ref a16]), (a1, AI G 568 sf), (a16, AZ G 1024 (fun z => bI (eg z)))] := hD
                refine lv_goto (tgt := 75) hx hb dX7_findSeed_67 (by decide) ?_
                refine lv_istore (lv' := [(4, .int (bcM fd 10)), (3, .int (-(bcM (nI j) 10))), (0, .ref m0), (1, .int fd), (2, .int (nI j))]) hx hb dX7_findSeed_75 hl (by decide) rfl (fun ls hl => ?_)
                refine lv_iload_n hx hb dX7_findSeed_77 rfl (lv_at hl 3 rfl) ?_
                refine lv_bipush (v := (-9)) hx hb dX7_findSeed_78 (by decide) ?_
                refine lv_icmp_eq (tgt := 89) hx hb dX7_findSeed_80 (by decide) (fun c_80 => ?_) (fun c_80 => ?_)
                ·
                  refine lv_iload_n hx hb dX7_findSeed_89 rfl (lv_at hl 4 rfl) ?_
                  refine lv_goto (tgt := 94) hx hb dX7_findSeed_90 (by decide) ?_
                  refine lv_istore_n (lv' := [(1, .int (nI j)), (4, .int (bcM fd 10)), (3, .int (-(bcM (nI j) 10))), (0, .ref m0), (2, .int (nI j))]) hx hb dX7_findSeed_94 rfl hl (by decide) rfl (fun ls hl => ?_)
                  refine lv_iinc (v := nI (j + 1)) (lv' := [(2, .int (nI (j + 1))), (1, .int (nI j)), (4, .int (bcM fd 10)), (3, .int (-(bcM (nI j) 10))), (0, .ref m0)]) hx hb dX7_findSeed_95 hl (k := 4) rfl (nI_inc (j) 1) (by decide) rfl (fun ls hl => ?_)
                  refine lv_goto (tgt := 5) hx hb dX7_findSeed_98 (by decide) ?_
                  exact ih (j + 1) (nI j) _ _ _ (by omega) (by omega) (by first | exact absurd c_46 c_80 | exact absurd c_80 c_46 | exact absurd c_60 c_27 | exact absurd c_27 c_60 | (simp only [sdM, szM, ← ha]; simp only [c_9, c_18, c_27, c_46, c_60, c_80, eq_self_iff_true, if_true, if_false, true_or, or_true, false_or, or_false, true_and, and_true, false_and, and_false, Bool.true_eq_false, Bool.false_eq_true, not_true, not_false_eq_true, reduceIte, Bool.not_true, Bool.not_false])) (hP.sub (ws' := [(m0, OB 7 [.int th, .ref a1, .ref a2, .ref a3, .int (nI ud), .ref a5, .ref a6, .ref a7, .int (nI ln), .int (nI nx), .int (nI ts), .int tk, .int vl, .int er, .ref a14, .int rq, .ref a16]), (a1, AI G 568 sf), (a16, AZ G 1024 (fun z => bI (eg z)))]) [0, 1, 2] rfl) (hD.sub (ws' := [(m0, OB 7 [.int th, .ref a1, .ref a2, .ref a3, .int (nI ud), .ref a5, .ref a6, .ref a7, .int (nI ln), .int (nI nx), .int (nI ts), .int tk, .int vl, .int er, .ref a14, .int rq, .ref a16]), (a1, AI G 568 sf), (a16, AZ G 1024 (fun z => bI (eg z)))]) [0, 1, 2] (by decide) rfl) hS (lv_sub (l' := [(0, .ref m0), (1, .int (nI j)), (2, .int (nI (j + 1)))]) hl [4, 1, 0] rfl)
                ·
                  refine lv_iload_n hx hb dX7_findSeed_83 rfl (lv_at hl 1 rfl) ?_
                  refine lv_iload hx hb dX7_findSeed_84 (lv_at hl 0 rfl) ?_
                  refine lv_icmp_le (tgt := 93) hx hb dX7_findSeed_86 (by decide) (fun c_86 => ?_) (fun c_86 => ?_)
                  ·
                    have c_86 : ¬ (bcM fd 10) < (-(bcM (nI j) 10)) := Int32.not_lt.mpr c_86
                    refine lv_iload_n hx hb dX7_findSeed_93 rfl (lv_at hl 3 rfl) ?_
                    refine lv_istore_n (lv' := [(1, .int fd), (4, .int (bcM fd 10)), (3, .int (-(bcM (nI j) 10))), (0, .ref m0), (2, .int (nI j))]) hx hb dX7_findSeed_94 rfl hl (by decide) rfl (fun ls hl => ?_)
                    refine lv_iinc (v := nI (j + 1)) (lv' := [(2, .int (nI (j + 1))), (1, .int fd), (4, .int (bcM fd 10)), (3, .int (-(bcM (nI j) 10))), (0, .ref m0)]) hx hb dX7_findSeed_95 hl (k := 4) rfl (nI_inc (j) 1) (by decide) rfl (fun ls hl => ?_)
                    refine lv_goto (tgt := 5) hx hb dX7_findSeed_98 (by decide) ?_
                    exact ih (j + 1) fd _ _ _ (by omega) (by omega) (by first | exact absurd c_46 c_80 | exact absurd c_80 c_46 | exact absurd c_60 c_27 | exact absurd c_27 c_60 | (simp only [sdM, szM, ← ha]; simp only [c_9, c_18, c_27, c_46, c_60, c_80, c_86, eq_self_iff_true, if_true, if_false, true_or, or_true, false_or, or_false, true_and, and_true, false_and, and_false, Bool.true_eq_false, Bool.false_eq_true, not_true, not_false_eq_true, reduceIte, Bool.not_true, Bool.not_false])) (hP.sub (ws' := [(m0, OB 7 [.int th, .ref a1, .ref a2, .ref a3, .int (nI ud), .ref a5, .ref a6, .ref a7, .int (nI ln), .int (nI nx), .int (nI ts), .int tk, .int vl, .int er, .ref a14, .int rq, .ref a16]), (a1, AI G 568 sf), (a16, AZ G 1024 (fun z => bI (eg z)))]) [0, 1, 2] rfl) (hD.sub (ws' := [(m0, OB 7 [.int th, .ref a1, .ref a2, .ref a3, .int (nI ud), .ref a5, .ref a6, .ref a7, .int (nI ln), .int (nI nx), .int (nI ts), .int tk, .int vl, .int er, .ref a14, .int rq, .ref a16]), (a1, AI G 568 sf), (a16, AZ G 1024 (fun z => bI (eg z)))]) [0, 1, 2] (by decide) rfl) hS (lv_sub (l' := [(0, .ref m0), (1, .int fd), (2, .int (nI (j + 1)))]) hl [4, 1, 0] rfl)
                  ·
                    have c_86 : (bcM fd 10) < (-(bcM (nI j) 10)) := Int32.not_le.mp c_86
                    refine lv_iload_n hx hb dX7_findSeed_89 rfl (lv_at hl 4 rfl) ?_
                    refine lv_goto (tgt := 94) hx hb dX7_findSeed_90 (by decide) ?_
                    refine lv_istore_n (lv' := [(1, .int (nI j)), (4, .int (bcM fd 10)), (3, .int (-(bcM (nI j) 10))), (0, .ref m0), (2, .int (nI j))]) hx hb dX7_findSeed_94 rfl hl (by decide) rfl (fun ls hl => ?_)
                    refine lv_iinc (v := nI (j + 1)) (lv' := [(2, .int (nI (j + 1))), (1, .int (nI j)), (4, .int (bcM fd 10)), (3, .int (-(bcM (nI j) 10))), (0, .ref m0)]) hx hb dX7_findSeed_95 hl (k := 4) rfl (nI_inc (j) 1) (by decide) rfl (fun ls hl => ?_)
                    refine lv_goto (tgt := 5) hx hb dX7_findSeed_98 (by decide) ?_
                    exact ih (j + 1) (nI j) _ _ _ (by omega) (by omega) (by first | exact absurd c_46 c_80 | exact absurd c_80 c_46 | exact absurd c_60 c_27 | exact absurd c_27 c_60 | (simp only [sdM, szM, ← ha]; simp only [c_9, c_18, c_27, c_46, c_60, c_80, c_86, eq_self_iff_true, if_true, if_false, true_or, or_true, false_or, or_false, true_and, and_true, false_and, and_false, Bool.true_eq_false, Bool.false_eq_true, not_true, not_false_eq_true, reduceIte, Bool.not_true, Bool.not_false])) (hP.sub (ws' := [(m0, OB 7 [.int th, .ref a1, .ref a2, .ref a3, .int (nI ud), .ref a5, .ref a6, .ref a7, .int (nI ln), .int (nI nx), .int (nI ts), .int tk, .int vl, .int er, .ref a14, .int rq, .ref a16]), (a1, AI G 568 sf), (a16, AZ G 1024 (fun z => bI (eg z)))]) [0, 1, 2] rfl) (hD.sub (ws' := [(m0, OB 7 [.int th, .ref a1, .ref a2, .ref a3, .int (nI ud), .ref a5, .ref a6, .ref a7, .int (nI ln), .int (nI nx), .int (nI ts), .int tk, .int vl, .int er, .ref a14, .int rq, .ref a16]), (a1, AI G 568 sf), (a16, AZ G 1024 (fun z => bI (eg z)))]) [0, 1, 2] (by decide) rfl) hS (lv_sub (l' := [(0, .ref m0), (1, .int (nI j)), (2, .int (nI (j + 1)))]) hl [4, 1, 0] rfl)
            ·
              refine lv_bipush (v := (-9)) hx hb dX7_findSeed_49 (by decide) ?_
              refine lv_goto (tgt := 75) hx hb dX7_findSeed_51 (by decide) ?_
              refine lv_istore (lv' := [(4, .int (-9)), (3, .int (-(bcM (nI j) 10))), (0, .ref m0), (1, .int fd), (2, .int (nI j))]) hx hb dX7_findSeed_75 hl (by decide) rfl (fun ls hl => ?_)
              refine lv_iload_n hx hb dX7_findSeed_77 rfl (lv_at hl 3 rfl) ?_
              refine lv_bipush (v := (-9)) hx hb dX7_findSeed_78 (by decide) ?_
              refine lv_icmp_eq (tgt := 89) hx hb dX7_findSeed_80 (by decide) (fun c_80 => ?_) (fun c_80 => ?_)
              ·
                refine lv_iload_n hx hb dX7_findSeed_89 rfl (lv_at hl 4 rfl) ?_
                refine lv_goto (tgt := 94) hx hb dX7_findSeed_90 (by decide) ?_
                refine lv_istore_n (lv' := [(1, .int (nI j)), (4, .int (-9)), (3, .int (-(bcM (nI j) 10))), (0, .ref m0), (2, .int (nI j))]) hx hb dX7_findSeed_94 rfl hl (by decide) rfl (fun ls hl => ?_)
                refine lv_iinc (v := nI (j + 1)) (lv' := [(2, .int (nI (j + 1))), (1, .int (nI j)), (4, .int (-9)), (3, .int (-(bcM (nI j) 10))), (0, .ref m0)]) hx hb dX7_findSeed_95 hl (k := 4) rfl (nI_inc (j) 1) (by decide) rfl (fun ls hl => ?_)
                refine lv_goto (tgt := 5) hx hb dX7_findSeed_98 (by decide) ?_
                exact ih (j + 1) (nI j) _ _ _ (by omega) (by omega) (by first | exact absurd c_46 c_80 | exact absurd c_80 c_46 | exact absurd c_60 c_27 | exact absurd c_27 c_60 | (simp only [sdM, szM, ← ha]; simp only [c_9, c_18, c_27, c_46, c_80, eq_self_iff_true, if_true, if_false, true_or, or_true, false_or, or_false, true_and, and_true, false_and, and_false, Bool.true_eq_false, Bool.false_eq_true, not_true, not_false_eq_true, reduceIte, Bool.not_true, Bool.not_false])) (hP.sub (ws' := [(m0, OB 7 [.int th, .ref a1, .ref a2, .ref a3, .int (nI ud), .ref a5, .ref a6, .ref a7, .int (nI ln), .int (nI nx), .int (nI ts), .int tk, .int vl, .int er, .ref a14, .int rq, .ref a16]), (a1, AI G 568 sf), (a16, AZ G 1024 (fun z => bI (eg z)))]) [0, 1, 2] rfl) (hD.sub (ws' := [(m0, OB 7 [.int th, .ref a1, .ref a2, .ref a3, .int (nI ud), .ref a5, .ref a6, .ref a7, .int (nI ln), .int (nI nx), .int (nI ts), .int tk, .int vl, .int er, .ref a14, .int rq, .ref a16]), (a1, AI G 568 sf), (a16, AZ G 1024 (fun z => bI (eg z)))]) [0, 1, 2] (by decide) rfl) hS (lv_sub (l' := [(0, .ref m0), (1, .int (nI j)), (2, .int (nI (j + 1)))]) hl [4, 1, 0] rfl)
              ·
                refine lv_iload_n hx hb dX7_findSeed_83 rfl (lv_at hl 1 rfl) ?_
                refine lv_iload hx hb dX7_findSeed_84 (lv_at hl 0 rfl) ?_
                refine lv_icmp_le (tgt := 93) hx hb dX7_findSeed_86 (by decide) (fun c_86 => ?_) (fun c_86 => ?_)
                ·
                  have c_86 : ¬ (-9) < (-(bcM (nI j) 10)) := Int32.not_lt.mpr c_86
                  refine lv_iload_n hx hb dX7_findSeed_93 rfl (lv_at hl 3 rfl) ?_
                  refine lv_istore_n (lv' := [(1, .int fd), (4, .int (-9)), (3, .int (-(bcM (nI j) 10))), (0, .ref m0), (2, .int (nI j))]) hx hb dX7_findSeed_94 rfl hl (by decide) rfl (fun ls hl => ?_)
                  refine lv_iinc (v := nI (j + 1)) (lv' := [(2, .int (nI (j + 1))), (1, .int fd), (4, .int (-9)), (3, .int (-(bcM (nI j) 10))), (0, .ref m0)]) hx hb dX7_findSeed_95 hl (k := 4) rfl (nI_inc (j) 1) (by decide) rfl (fun ls hl => ?_)
                  refine lv_goto (tgt := 5) hx hb dX7_findSeed_98 (by decide) ?_
                  exact ih (j + 1) fd _ _ _ (by omega) (by omega) (by first | exact absurd c_46 c_80 | exact absurd c_80 c_46 | exact absurd c_60 c_27 | exact absurd c_27 c_60 | (simp only [sdM, szM, ← ha]; simp only [c_9, c_18, c_27, c_46, c_80, c_86, eq_self_iff_true, if_true, if_false, true_or, or_true, false_or, or_false, true_and, and_true, false_and, and_false, Bool.true_eq_false, Bool.false_eq_true, not_true, not_false_eq_true, reduceIte, Bool.not_true, Bool.not_false])) (hP.sub (ws' := [(m0, OB 7 [.int th, .ref a1, .ref a2, .ref a3, .int (nI ud), .ref a5, .ref a6, .ref a7, .int (nI ln), .int (nI nx), .int (nI ts), .int tk, .int vl, .int er, .ref a14, .int rq, .ref a16]), (a1, AI G 568 sf), (a16, AZ G 1024 (fun z => bI (eg z)))]) [0, 1, 2] rfl) (hD.sub (ws' := [(m0, OB 7 [.int th, .ref a1, .ref a2, .ref a3, .int (nI ud), .ref a5, .ref a6, .ref a7, .int (nI ln), .int (nI nx), .int (nI ts), .int tk, .int vl, .int er, .ref a14, .int rq, .ref a16]), (a1, AI G 568 sf), (a16, AZ G 1024 (fun z => bI (eg z)))]) [0, 1, 2] (by decide) rfl) hS (lv_sub (l' := [(0, .ref m0), (1, .int fd), (2, .int (nI (j + 1)))]) hl [4, 1, 0] rfl)
                ·
                  have c_86 : (-9) < (-(bcM (nI j) 10)) := Int32.not_le.mp c_86
                  refine lv_iload_n hx hb dX7_findSeed_89 rfl (lv_at hl 4 rfl) ?_
                  refine lv_goto (tgt := 94) hx hb dX7_findSeed_90 (by decide) ?_
                  refine lv_istore_n (lv' := [(1, .int (nI j)), (4, .int (-9)), (3, .int (-(bcM (nI j) 10))), (0, .ref m0), (2, .int (nI j))]) hx hb dX7_findSeed_94 rfl hl (by decide) rfl (fun ls hl => ?_)
                  refine lv_iinc (v := nI (j + 1)) (lv' := [(2, .int (nI (j + 1))), (1, .int (nI j)), (4, .int (-9)), (3, .int (-(bcM (nI j) 10))), (0, .ref m0)]) hx hb dX7_findSeed_95 hl (k := 4) rfl (nI_inc (j) 1) (by decide) rfl (fun ls hl => ?_)
                  refine lv_goto (tgt := 5) hx hb dX7_findSeed_98 (by decide) ?_
                  exact ih (j + 1) (nI j) _ _ _ (by omega) (by omega) (by first | exact absurd c_46 c_80 | exact absurd c_80 c_46 | exact absurd c_60 c_27 | exact absurd c_27 c_60 | (simp only [sdM, szM, ← ha]; simp only [c_9, c_18, c_27, c_46, c_80, c_86, eq_self_iff_true, if_true, if_false, true_or, or_true, false_or, or_false, true_and, and_true, false_and, and_false, Bool.true_eq_false, Bool.false_eq_true, not_true, not_false_eq_true, reduceIte, Bool.not_true, Bool.not_false])) (hP.sub (ws' := [(m0, OB 7 [.int th, .ref a1, .ref a2, .ref a3, .int (nI ud), .ref a5, .ref a6, .ref a7, .int (nI ln), .int (nI nx), .int (nI ts), .int tk, .int vl, .int er, .ref a14, .int rq, .ref a16]), (a1, AI G 568 sf), (a16, AZ G 1024 (fun z => bI (eg z)))]) [0, 1, 2] rfl) (hD.sub (ws' := [(m0, OB 7 [.int th, .ref a1, .ref a2, .ref a3, .int (nI ud), .ref a5, .ref a6, .ref a7, .int (nI ln), .int (nI nx), .int (nI ts), .int tk, .int vl, .int er, .ref a14, .int rq, .ref a16]), (a1, AI G 568 sf), (a16, AZ G 1024 (fun z => bI (eg z)))]) [0, 1, 2] (by decide) rfl) hS (lv_sub (l' := [(0, .ref m0), (1, .int (nI j)), (2, .int (nI (j + 1)))]) hl [4, 1, 0] rfl)
          ·
            refine lv_iload_n hx hb dX7_findSeed_30 rfl (lv_at hl 2 rfl) ?_
            refine call_Si (rest := []) (As := [.int (nI j)]) (wr := [(m0, OB 7 [.int th, .ref a1, .ref a2, .ref a3, .int (nI ud), .ref a5, .ref a6, .ref a7, .int (nI ln), .int (nI nx), .int (nI ts), .int tk, .int vl, .int er, .ref a14, .int rq, .ref a16]), (a1, AI G 568 sf), (a16, AZ G 1024 (fun z => bI (eg z)))]) (c1 := 0) (s1 := 0) ⟨hx, hb, hml, hown, hts⟩ (c_X7_bitCount l G (nI j) ) (va_cwS 1 hts gX7_findSeed_X7_bitCount rfl rfl rfl (by decide +kernel) ⟨Nat.le_of_ble_eq_true rfl, Nat.le_of_ble_eq_true rfl⟩) hK hN hSS hP hD hS hA [] [0, 1, 2] rfl rfl (by decide) (by decide) (by decide) rfl hl.1 rfl (Nat.le_of_ble_eq_true rfl) dX7_findSeed_31 ⟨Nat.le_of_ble_eq_true rfl, Nat.le_of_ble_eq_true rfl⟩ rfl rfl (fun r_31 u_31 H locs hpo hP hD hS => ?_)
            obtain ⟨hr9, rfl⟩ := hpo
            subst r_31
            have hP : va_P G.1 vwCl [(m0, OB 7 [.int th, .ref a1, .ref a2, .ref a3, .int (nI ud), .ref a5, .ref a6, .ref a7, .int (nI ln), .int (nI nx), .int (nI ts), .int tk, .int vl, .int er, .ref a14, .int rq, .ref a16]), (a1, AI G 568 sf), (a16, AZ G 1024 (fun z => bI (eg z)))] H := hP
            have hD : va_D A [(m0, OB 7 [.int th, .ref a1, .ref a2, .ref a3, .int (nI ud), .ref a5, .ref a6, .ref a7, .int (nI ln), .int (nI nx), .int (nI ts), .int tk, .int vl, .int er, .ref a14, .int rq, .ref a16]), (a1, AI G 568 sf), (a16, AZ G 1024 (fun z => bI (eg z)))] := hD
            refine lv_goto (tgt := 42) hx hb dX7_findSeed_34 (by decide) ?_
            refine lv_istore_n (lv' := [(3, .int (bcM (nI j) 10)), (0, .ref m0), (1, .int fd), (2, .int (nI j))]) hx hb dX7_findSeed_42 rfl hl (by decide) rfl (fun ls hl => ?_)
            refine lv_iload_n hx hb dX7_findSeed_43 rfl (lv_at hl 2 rfl) ?_
            refine lv_bipush (v := (-9)) hx hb dX7_findSeed_44 (by decide) ?_
            refine lv_icmp_ne (tgt := 54) hx hb dX7_findSeed_46 (by decide) (fun c_46 => ?_) (fun c_46 => ?_)
            ·
              refine lv_aload_n hx hb dX7_findSeed_54 rfl (lv_at hl 1 rfl) ?_
              refine va_get (D := G.1) (ci := 7) (v := .ref a1) (C := RX7) (T := TX7) (N := 17) hx hb hts hi7 hown hK hP 0 rfl rfl 1 (by decide) (hts (.fieldLink RX7 7 "ConflictEnumeratorModel" "s" "[I") (List.mem_of_getElem? (i := 2) rfl)) (fun _ h9 => h9) rfl dX7_findSeed_55 ?_
              refine lv_iconst (v := 1) hx hb dX7_findSeed_58 (by decide) ?_
              refine wa_iald hx hb hK hP 1 rfl (1) (rfl) (by omega) (by decide) dX7_findSeed_59 ?_
              refine lv_if_ne (tgt := 70) hx hb dX7_findSeed_60 (by decide) (fun c_60 => ?_) (fun c_60 => ?_)
              ·
                refine lv_iload_n hx hb dX7_findSeed_70 rfl (lv_at hl 2 rfl) ?_
                refine call_Si (rest := []) (As := [.int fd]) (wr := [(m0, OB 7 [.int th, .ref a1, .ref a2, .ref a3, .int (nI ud), .ref a5, .ref a6, .ref a7, .int (nI ln), .int (nI nx), .int (nI ts), .int tk, .int vl, .int er, .ref a14, .int rq, .ref a16]), (a1, AI G 568 sf), (a16, AZ G 1024 (fun z => bI (eg z)))]) (c1 := 0) (s1 := 0) ⟨hx, hb, hml, hown, hts⟩ (c_X7_bitCount l G fd ) (va_cwS 1 hts gX7_findSeed_X7_bitCount rfl rfl rfl (by decide +kernel) ⟨Nat.le_of_ble_eq_true rfl, Nat.le_of_ble_eq_true rfl⟩) hK hN hSS hP hD hS hA [] [0, 1, 2] rfl rfl (by decide) (by decide) (by decide) rfl hl.1 rfl (Nat.le_of_ble_eq_true rfl) dX7_findSeed_71 ⟨Nat.le_of_ble_eq_true rfl, Nat.le_of_ble_eq_true rfl⟩ rfl rfl (fun r_71 u_71 H locs hpo hP hD hS => ?_)
                obtain ⟨hr9, rfl⟩ := hpo
                subst r_71
                have hP : va_P G.1 vwCl [(m0, OB 7 [.int th, .ref a1, .ref a2, .ref a3, .int (nI ud), .ref a5, .ref a6, .ref a7, .int (nI ln), .int (nI nx), .int (nI ts), .int tk, .int vl, .int er, .ref a14, .int rq, .ref a16]), (a1, AI G 568 sf), (a16, AZ G 1024 (fun z => bI (eg z)))] H := hP
                have hD : va_D A [(m0, OB 7 [.int th, .ref a1, .ref a2, .ref a3, .int (nI ud), .ref a5, .ref a6, .ref a7, .int (nI ln), .int (nI nx), .int (nI ts), .int tk, .int vl, .int er, .ref a14, .int rq, .ref a16]), (a1, AI G 568 sf), (a16, AZ G 1024 (fun z => bI (eg z)))] := hD
                refine lv_ineg hx hb dX7_findSeed_74 ?_
                refine lv_istore (lv' := [(4, .int (-(bcM fd 10))), (3, .int (bcM (nI j) 10)), (0, .ref m0), (1, .int fd), (2, .int (nI j))]) hx hb dX7_findSeed_75 hl (by decide) rfl (fun ls hl => ?_)
                refine lv_iload_n hx hb dX7_findSeed_77 rfl (lv_at hl 3 rfl) ?_
                refine lv_bipush (v := (-9)) hx hb dX7_findSeed_78 (by decide) ?_
                refine lv_icmp_eq (tgt := 89) hx hb dX7_findSeed_80 (by decide) (fun c_80 => ?_) (fun c_80 => ?_)
                ·
                  refine lv_iload_n hx hb dX7_findSeed_89 rfl (lv_at hl 4 rfl) ?_
                  refine lv_goto (tgt := 94) hx hb dX7_findSeed_90 (by decide) ?_
                  refine lv_istore_n (lv' := [(1, .int (nI j)), (4, .int (-(bcM fd 10))), (3, .int (bcM (nI j) 10)), (0, .ref m0), (2, .int (nI j))]) hx hb dX7_findSeed_94 rfl hl (by decide) rfl (fun ls hl => ?_)
                  refine lv_iinc (v := nI (j + 1)) (lv' := [(2, .int (nI (j + 1))), (1, .int (nI j)), (4, .int (-(bcM fd 10))), (3, .int (bcM (nI j) 10)), (0, .ref m0)]) hx hb dX7_findSeed_95 hl (k := 4) rfl (nI_inc (j) 1) (by decide) rfl (fun ls hl => ?_)
                  refine lv_goto (tgt := 5) hx hb dX7_findSeed_98 (by decide) ?_
                  exact ih (j + 1) (nI j) _ _ _ (by omega) (by omega) (by first | exact absurd c_46 c_80 | exact absurd c_80 c_46 | exact absurd c_60 c_27 | exact absurd c_27 c_60 | (simp only [sdM, szM, ← ha]; simp only [c_9, c_18, c_27, c_46, c_60, c_80, eq_self_iff_true, if_true, if_false, true_or, or_true, false_or, or_false, true_and, and_true, false_and, and_false, Bool.true_eq_false, Bool.false_eq_true, not_true, not_false_eq_true, reduceIte, Bool.not_true, Bool.not_false])) (hP.sub (ws' := [(m0, OB 7 [.int th, .ref a1, .ref a2, .ref a3, .int (nI ud), .ref a5, .ref a6, .ref a7, .int (nI ln), .int (nI nx), .int (nI ts), .int tk, .int vl, .int er, .ref a14, .int rq, .ref a16]), (a1, AI G 568 sf), (a16, AZ G 1024 (fun z => bI (eg z)))]) [0, 1, 2] rfl) (hD.sub (ws' := [(m0, OB 7 [.int th, .ref a1, .ref a2, .ref a3, .int (nI ud), .ref a5, .ref a6, .ref a7, .int (nI ln), .int (nI nx), .int (nI ts), .int tk, .int vl, .int er, .ref a14, .int rq, .ref a16]), (a1, AI G 568 sf), (a16, AZ G 1024 (fun z => bI (eg z)))]) [0, 1, 2] (by decide) rfl) hS (lv_sub (l' := [(0, .ref m0), (1, .int (nI j)), (2, .int (nI (j + 1)))]) hl [4, 1, 0] rfl)
                ·
                  refine lv_iload_n hx hb dX7_findSeed_83 rfl (lv_at hl 1 rfl) ?_
                  refine lv_iload hx hb dX7_findSeed_84 (lv_at hl 0 rfl) ?_
                  refine lv_icmp_le (tgt := 93) hx hb dX7_findSeed_86 (by decide) (fun c_86 => ?_) (fun c_86 => ?_)
                  ·
                    have c_86 : ¬ (-(bcM fd 10)) < (bcM (nI j) 10) := Int32.not_lt.mpr c_86
                    refine lv_iload_n hx hb dX7_findSeed_93 rfl (lv_at hl 3 rfl) ?_
                    refine lv_istore_n (lv' := [(1, .int fd), (4, .int (-(bcM fd 10))), (3, .int (bcM (nI j) 10)), (0, .ref m0), (2, .int (nI j))]) hx hb dX7_findSeed_94 rfl hl (by decide) rfl (fun ls hl => ?_)
                    refine lv_iinc (v := nI (j + 1)) (lv' := [(2, .int (nI (j + 1))), (1, .int fd), (4, .int (-(bcM fd 10))), (3, .int (bcM (nI j) 10)), (0, .ref m0)]) hx hb dX7_findSeed_95 hl (k := 4) rfl (nI_inc (j) 1) (by decide) rfl (fun ls hl => ?_)
                    refine lv_goto (tgt := 5) hx hb dX7_findSeed_98 (by decide) ?_
                    exact ih (j + 1) fd _ _ _ (by omega) (by omega) (by first | exact absurd c_46 c_80 | exact absurd c_80 c_46 | exact absurd c_60 c_27 | exact absurd c_27 c_60 | (simp only [sdM, szM, ← ha]; simp only [c_9, c_18, c_27, c_46, c_60, c_80, c_86, eq_self_iff_true, if_true, if_false, true_or, or_true, false_or, or_false, true_and, and_true, false_and, and_false, Bool.true_eq_false, Bool.false_eq_true, not_true, not_false_eq_true, reduceIte, Bool.not_true, Bool.not_false])) (hP.sub (ws' := [(m0, OB 7 [.int th, .ref a1, .ref a2, .ref a3, .int (nI ud), .ref a5, .ref a6, .ref a7, .int (nI ln), .int (nI nx), .int (nI ts), .int tk, .int vl, .int er, .ref a14, .int rq, .ref a16]), (a1, AI G 568 sf), (a16, AZ G 1024 (fun z => bI (eg z)))]) [0, 1, 2] rfl) (hD.sub (ws' := [(m0, OB 7 [.int th, .ref a1, .ref a2, .ref a3, .int (nI ud), .ref a5, .ref a6, .ref a7, .int (nI ln), .int (nI nx), .int (nI ts), .int tk, .int vl, .int er, .ref a14, .int rq, .ref a16]), (a1, AI G 568 sf), (a16, AZ G 1024 (fun z => bI (eg z)))]) [0, 1, 2] (by decide) rfl) hS (lv_sub (l' := [(0, .ref m0), (1, .int fd), (2, .int (nI (j + 1)))]) hl [4, 1, 0] rfl)
                  ·
                    have c_86 : (-(bcM fd 10)) < (bcM (nI j) 10) := Int32.not_le.mp c_86
                    refine lv_iload_n hx hb dX7_findSeed_89 rfl (lv_at hl 4 rfl) ?_
                    refine lv_goto (tgt := 94) hx hb dX7_findSeed_90 (by decide) ?_
                    refine lv_istore_n (lv' := [(1, .int (nI j)), (4, .int (-(bcM fd 10))), (3, .int (bcM (nI j) 10)), (0, .ref m0), (2, .int (nI j))]) hx hb dX7_findSeed_94 rfl hl (by decide) rfl (fun ls hl => ?_)
                    refine lv_iinc (v := nI (j + 1)) (lv' := [(2, .int (nI (j + 1))), (1, .int (nI j)), (4, .int (-(bcM fd 10))), (3, .int (bcM (nI j) 10)), (0, .ref m0)]) hx hb dX7_findSeed_95 hl (k := 4) rfl (nI_inc (j) 1) (by decide) rfl (fun ls hl => ?_)
                    refine lv_goto (tgt := 5) hx hb dX7_findSeed_98 (by decide) ?_
                    exact ih (j + 1) (nI j) _ _ _ (by omega) (by omega) (by first | exact absurd c_46 c_80 | exact absurd c_80 c_46 | exact absurd c_60 c_27 | exact absurd c_27 c_60 | (simp only [sdM, szM, ← ha]; simp only [c_9, c_18, c_27, c_46, c_60, c_80, c_86, eq_self_iff_true, if_true, if_false, true_or, or_true, false_or, or_false, true_and, and_true, false_and, and_false, Bool.true_eq_false, Bool.false_eq_true, not_true, not_false_eq_true, reduceIte, Bool.not_true, Bool.not_false])) (hP.sub (ws' := [(m0, OB 7 [.int th, .ref a1, .ref a2, .ref a3, .int (nI ud), .ref a5, .ref a6, .ref a7, .int (nI ln), .int (nI nx), .int (nI ts), .int tk, .int vl, .int er, .ref a14, .int rq, .ref a16]), (a1, AI G 568 sf), (a16, AZ G 1024 (fun z => bI (eg z)))]) [0, 1, 2] rfl) (hD.sub (ws' := [(m0, OB 7 [.int th, .ref a1, .ref a2, .ref a3, .int (nI ud), .ref a5, .ref a6, .ref a7, .int (nI ln), .int (nI nx), .int (nI ts), .int tk, .int vl, .int er, .ref a14, .int rq, .ref a16]), (a1, AI G 568 sf), (a16, AZ G 1024 (fun z => bI (eg z)))]) [0, 1, 2] (by decide) rfl) hS (lv_sub (l' := [(0, .ref m0), (1, .int (nI j)), (2, .int (nI (j + 1)))]) hl [4, 1, 0] rfl)
              ·
                refine lv_iload_n hx hb dX7_findSeed_63 rfl (lv_at hl 2 rfl) ?_
                refine call_Si (rest := []) (As := [.int fd]) (wr := [(m0, OB 7 [.int th, .ref a1, .ref a2, .ref a3, .int (nI ud), .ref a5, .ref a6, .ref a7, .int (nI ln), .int (nI nx), .int (nI ts), .int tk, .int vl, .int er, .ref a14, .int rq, .ref a16]), (a1, AI G 568 sf), (a16, AZ G 1024 (fun z => bI (eg z)))]) (c1 := 0) (s1 := 0) ⟨hx, hb, hml, hown, hts⟩ (c_X7_bitCount l G fd ) (va_cwS 1 hts gX7_findSeed_X7_bitCount rfl rfl rfl (by decide +kernel) ⟨Nat.le_of_ble_eq_true rfl, Nat.le_of_ble_eq_true rfl⟩) hK hN hSS hP hD hS hA [] [0, 1, 2] rfl rfl (by decide) (by decide) (by decide) rfl hl.1 rfl (Nat.le_of_ble_eq_true rfl) dX7_findSeed_64 ⟨Nat.le_of_ble_eq_true rfl, Nat.le_of_ble_eq_true rfl⟩ rfl rfl (fun r_64 u_64 H locs hpo hP hD hS => ?_)
                obtain ⟨hr9, rfl⟩ := hpo
                subst r_64
                have hP : va_P G.1 vwCl [(m0, OB 7 [.int th, .ref a1, .ref a2, .ref a3, .int (nI ud), .ref a5, .ref a6, .ref a7, .int (nI ln), .int (nI nx), .int (nI ts), .int tk, .int vl, .int er, .ref a14, .int rq, .ref a16]), (a1, AI G 568 sf), (a16, AZ G 1024 (fun z => bI (eg z)))] H := hP
                have hD : va_D A [(m0, OB 7 [.int th, .ref a1, .ref a2, .ref a3, .int (nI ud), .ref a5, .ref a6, .ref a7, .int (nI ln), .int (nI nx), .int (nI ts), .int tk, .int vl, .int er, .ref a14, .int rq, .ref a16]), (a1, AI G 568 sf), (a16, AZ G 1024 (fun z => bI (eg z)))] := hD
                refine lv_goto (tgt := 75) hx hb dX7_findSeed_67 (by decide) ?_
                refine lv_istore (lv' := [(4, .int (bcM fd 10)), (3, .int (bcM (nI j) 10)), (0, .ref m0), (1, .int fd), (2, .int (nI j))]) hx hb dX7_findSeed_75 hl (by decide) rfl (fun ls hl => ?_)
                refine lv_iload_n hx hb dX7_findSeed_77 rfl (lv_at hl 3 rfl) ?_
                refine lv_bipush (v := (-9)) hx hb dX7_findSeed_78 (by decide) ?_
                refine lv_icmp_eq (tgt := 89) hx hb dX7_findSeed_80 (by decide) (fun c_80 => ?_) (fun c_80 => ?_)
                ·
                  refine lv_iload_n hx hb dX7_findSeed_89 rfl (lv_at hl 4 rfl) ?_
                  refine lv_goto (tgt := 94) hx hb dX7_findSeed_90 (by decide) ?_
                  refine lv_istore_n (lv' := [(1, .int (nI j)), (4, .int (bcM fd 10)), (3, .int (bcM (nI j) 10)), (0, .ref m0), (2, .int (nI j))]) hx hb dX7_findSeed_94 rfl hl (by decide) rfl (fun ls hl => ?_)
                  refine lv_iinc (v := nI (j + 1)) (lv' := [(2, .int (nI (j + 1))), (1, .int (nI j)), (4, .int (bcM fd 10)), (3, .int (bcM (nI j) 10)), (0, .ref m0)]) hx hb dX7_findSeed_95 hl (k := 4) rfl (nI_inc (j) 1) (by decide) rfl (fun ls hl => ?_)
                  refine lv_goto (tgt := 5) hx hb dX7_findSeed_98 (by decide) ?_
                  exact ih (j + 1) (nI j) _ _ _ (by omega) (by omega) (by first | exact absurd c_46 c_80 | exact absurd c_80 c_46 | exact absurd c_60 c_27 | exact absurd c_27 c_60 | (simp only [sdM, szM, ← ha]; simp only [c_9, c_18, c_27, c_46, c_60, c_80, eq_self_iff_true, if_true, if_false, true_or, or_true, false_or, or_false, true_and, and_true, false_and, and_false, Bool.true_eq_false, Bool.false_eq_true, not_true, not_false_eq_true, reduceIte, Bool.not_true, Bool.not_false])) (hP.sub (ws' := [(m0, OB 7 [.int th, .ref a1, .ref a2, .ref a3, .int (nI ud), .ref a5, .ref a6, .ref a7, .int (nI ln), .int (nI nx), .int (nI ts), .int tk, .int vl, .int er, .ref a14, .int rq, .ref a16]), (a1, AI G 568 sf), (a16, AZ G 1024 (fun z => bI (eg z)))]) [0, 1, 2] rfl) (hD.sub (ws' := [(m0, OB 7 [.int th, .ref a1, .ref a2, .ref a3, .int (nI ud), .ref a5, .ref a6, .ref a7, .int (nI ln), .int (nI nx), .int (nI ts), .int tk, .int vl, .int er, .ref a14, .int rq, .ref a16]), (a1, AI G 568 sf), (a16, AZ G 1024 (fun z => bI (eg z)))]) [0, 1, 2] (by decide) rfl) hS (lv_sub (l' := [(0, .ref m0), (1, .int (nI j)), (2, .int (nI (j + 1)))]) hl [4, 1, 0] rfl)
                ·
                  refine lv_iload_n hx hb dX7_findSeed_83 rfl (lv_at hl 1 rfl) ?_
                  refine lv_iload hx hb dX7_findSeed_84 (lv_at hl 0 rfl) ?_
                  refine lv_icmp_le (tgt := 93) hx hb dX7_findSeed_86 (by decide) (fun c_86 => ?_) (fun c_86 => ?_)
                  ·
                    have c_86 : ¬ (bcM fd 10) < (bcM (nI j) 10) := Int32.not_lt.mpr c_86
                    refine lv_iload_n hx hb dX7_findSeed_93 rfl (lv_at hl 3 rfl) ?_
                    refine lv_istore_n (lv' := [(1, .int fd), (4, .int (bcM fd 10)), (3, .int (bcM (nI j) 10)), (0, .ref m0), (2, .int (nI j))]) hx hb dX7_findSeed_94 rfl hl (by decide) rfl (fun ls hl => ?_)
                    refine lv_iinc (v := nI (j + 1)) (lv' := [(2, .int (nI (j + 1))), (1, .int fd), (4, .int (bcM fd 10)), (3, .int (bcM (nI j) 10)), (0, .ref m0)]) hx hb dX7_findSeed_95 hl (k := 4) rfl (nI_inc (j) 1) (by decide) rfl (fun ls hl => ?_)
                    refine lv_goto (tgt := 5) hx hb dX7_findSeed_98 (by decide) ?_
                    exact ih (j + 1) fd _ _ _ (by omega) (by omega) (by first | exact absurd c_46 c_80 | exact absurd c_80 c_46 | exact absurd c_60 c_27 | exact absurd c_27 c_60 | (simp only [sdM, szM, ← ha]; simp only [c_9, c_18, c_27, c_46, c_60, c_80, c_86, eq_self_iff_true, if_true, if_false, true_or, or_true, false_or, or_false, true_and, and_true, false_and, and_false, Bool.true_eq_false, Bool.false_eq_true, not_true, not_false_eq_true, reduceIte, Bool.not_true, Bool.not_false])) (hP.sub (ws' := [(m0, OB 7 [.int th, .ref a1, .ref a2, .ref a3, .int (nI ud), .ref a5, .ref a6, .ref a7, .int (nI ln), .int (nI nx), .int (nI ts), .int tk, .int vl, .int er, .ref a14, .int rq, .ref a16]), (a1, AI G 568 sf), (a16, AZ G 1024 (fun z => bI (eg z)))]) [0, 1, 2] rfl) (hD.sub (ws' := [(m0, OB 7 [.int th, .ref a1, .ref a2, .ref a3, .int (nI ud), .ref a5, .ref a6, .ref a7, .int (nI ln), .int (nI nx), .int (nI ts), .int tk, .int vl, .int er, .ref a14, .int rq, .ref a16]), (a1, AI G 568 sf), (a16, AZ G 1024 (fun z => bI (eg z)))]) [0, 1, 2] (by decide) rfl) hS (lv_sub (l' := [(0, .ref m0), (1, .int fd), (2, .int (nI (j + 1)))]) hl [4, 1, 0] rfl)
                  ·
                    have c_86 : (bcM fd 10) < (bcM (nI j) 10) := Int32.not_le.mp c_86
                    refine lv_iload_n hx hb dX7_findSeed_89 rfl (lv_at hl 4 rfl) ?_
                    refine lv_goto (tgt := 94) hx hb dX7_findSeed_90 (by decide) ?_
                    refine lv_istore_n (lv' := [(1, .int (nI j)), (4, .int (bcM fd 10)), (3, .int (bcM (nI j) 10)), (0, .ref m0), (2, .int (nI j))]) hx hb dX7_findSeed_94 rfl hl (by decide) rfl (fun ls hl => ?_)
                    refine lv_iinc (v := nI (j + 1)) (lv' := [(2, .int (nI (j + 1))), (1, .int (nI j)), (4, .int (bcM fd 10)), (3, .int (bcM (nI j) 10)), (0, .ref m0)]) hx hb dX7_findSeed_95 hl (k := 4) rfl (nI_inc (j) 1) (by decide) rfl (fun ls hl => ?_)
                    refine lv_goto (tgt := 5) hx hb dX7_findSeed_98 (by decide) ?_
                    exact ih (j + 1) (nI j) _ _ _ (by omega) (by omega) (by first | exact absurd c_46 c_80 | exact absurd c_80 c_46 | exact absurd c_60 c_27 | exact absurd c_27 c_60 | (simp only [sdM, szM, ← ha]; simp only [c_9, c_18, c_27, c_46, c_60, c_80, c_86, eq_self_iff_true, if_true, if_false, true_or, or_true, false_or, or_false, true_and, and_true, false_and, and_false, Bool.true_eq_false, Bool.false_eq_true, not_true, not_false_eq_true, reduceIte, Bool.not_true, Bool.not_false])) (hP.sub (ws' := [(m0, OB 7 [.int th, .ref a1, .ref a2, .ref a3, .int (nI ud), .ref a5, .ref a6, .ref a7, .int (nI ln), .int (nI nx), .int (nI ts), .int tk, .int vl, .int er, .ref a14, .int rq, .ref a16]), (a1, AI G 568 sf), (a16, AZ G 1024 (fun z => bI (eg z)))]) [0, 1, 2] rfl) (hD.sub (ws' := [(m0, OB 7 [.int th, .ref a1, .ref a2, .ref a3, .int (nI ud), .ref a5, .ref a6, .ref a7, .int (nI ln), .int (nI nx), .int (nI ts), .int tk, .int vl, .int er, .ref a14, .int rq, .ref a16]), (a1, AI G 568 sf), (a16, AZ G 1024 (fun z => bI (eg z)))]) [0, 1, 2] (by decide) rfl) hS (lv_sub (l' := [(0, .ref m0), (1, .int (nI j)), (2, .int (nI (j + 1)))]) hl [4, 1, 0] rfl)
            ·
              refine lv_bipush (v := (-9)) hx hb dX7_findSeed_49 (by decide) ?_
              refine lv_goto (tgt := 75) hx hb dX7_findSeed_51 (by decide) ?_
              refine lv_istore (lv' := [(4, .int (-9)), (3, .int (bcM (nI j) 10)), (0, .ref m0), (1, .int fd), (2, .int (nI j))]) hx hb dX7_findSeed_75 hl (by decide) rfl (fun ls hl => ?_)
              refine lv_iload_n hx hb dX7_findSeed_77 rfl (lv_at hl 3 rfl) ?_
              refine lv_bipush (v := (-9)) hx hb dX7_findSeed_78 (by decide) ?_
              refine lv_icmp_eq (tgt := 89) hx hb dX7_findSeed_80 (by decide) (fun c_80 => ?_) (fun c_80 => ?_)
              ·
                refine lv_iload_n hx hb dX7_findSeed_89 rfl (lv_at hl 4 rfl) ?_
                refine lv_goto (tgt := 94) hx hb dX7_findSeed_90 (by decide) ?_
                refine lv_istore_n (lv' := [(1, .int (nI j)), (4, .int (-9)), (3, .int (bcM (nI j) 10)), (0, .ref m0), (2, .int (nI j))]) hx hb dX7_findSeed_94 rfl hl (by decide) rfl (fun ls hl => ?_)
                refine lv_iinc (v := nI (j + 1)) (lv' := [(2, .int (nI (j + 1))), (1, .int (nI j)), (4, .int (-9)), (3, .int (bcM (nI j) 10)), (0, .ref m0)]) hx hb dX7_findSeed_95 hl (k := 4) rfl (nI_inc (j) 1) (by decide) rfl (fun ls hl => ?_)
                refine lv_goto (tgt := 5) hx hb dX7_findSeed_98 (by decide) ?_
                exact ih (j + 1) (nI j) _ _ _ (by omega) (by omega) (by first | exact absurd c_46 c_80 | exact absurd c_80 c_46 | exact absurd c_60 c_27 | exact absurd c_27 c_60 | (simp only [sdM, szM, ← ha]; simp only [c_9, c_18, c_27, c_46, c_80, eq_self_iff_true, if_true, if_false, true_or, or_true, false_or, or_false, true_and, and_true, false_and, and_false, Bool.true_eq_false, Bool.false_eq_true, not_true, not_false_eq_true, reduceIte, Bool.not_true, Bool.not_false])) (hP.sub (ws' := [(m0, OB 7 [.int th, .ref a1, .ref a2, .ref a3, .int (nI ud), .ref a5, .ref a6, .ref a7, .int (nI ln), .int (nI nx), .int (nI ts), .int tk, .int vl, .int er, .ref a14, .int rq, .ref a16]), (a1, AI G 568 sf), (a16, AZ G 1024 (fun z => bI (eg z)))]) [0, 1, 2] rfl) (hD.sub (ws' := [(m0, OB 7 [.int th, .ref a1, .ref a2, .ref a3, .int (nI ud), .ref a5, .ref a6, .ref a7, .int (nI ln), .int (nI nx), .int (nI ts), .int tk, .int vl, .int er, .ref a14, .int rq, .ref a16]), (a1, AI G 568 sf), (a16, AZ G 1024 (fun z => bI (eg z)))]) [0, 1, 2] (by decide) rfl) hS (lv_sub (l' := [(0, .ref m0), (1, .int (nI j)), (2, .int (nI (j + 1)))]) hl [4, 1, 0] rfl)
              ·
                refine lv_iload_n hx hb dX7_findSeed_83 rfl (lv_at hl 1 rfl) ?_
                refine lv_iload hx hb dX7_findSeed_84 (lv_at hl 0 rfl) ?_
                refine lv_icmp_le (tgt := 93) hx hb dX7_findSeed_86 (by decide) (fun c_86 => ?_) (fun c_86 => ?_)
                ·
                  have c_86 : ¬ (-9) < (bcM (nI j) 10) := Int32.not_lt.mpr c_86
                  refine lv_iload_n hx hb dX7_findSeed_93 rfl (lv_at hl 3 rfl) ?_
                  refine lv_istore_n (lv' := [(1, .int fd), (4, .int (-9)), (3, .int (bcM (nI j) 10)), (0, .ref m0), (2, .int (nI j))]) hx hb dX7_findSeed_94 rfl hl (by decide) rfl (fun ls hl => ?_)
                  refine lv_iinc (v := nI (j + 1)) (lv' := [(2, .int (nI (j + 1))), (1, .int fd), (4, .int (-9)), (3, .int (bcM (nI j) 10)), (0, .ref m0)]) hx hb dX7_findSeed_95 hl (k := 4) rfl (nI_inc (j) 1) (by decide) rfl (fun ls hl => ?_)
                  refine lv_goto (tgt := 5) hx hb dX7_findSeed_98 (by decide) ?_
                  exact ih (j + 1) fd _ _ _ (by omega) (by omega) (by first | exact absurd c_46 c_80 | exact absurd c_80 c_46 | exact absurd c_60 c_27 | exact absurd c_27 c_60 | (simp only [sdM, szM, ← ha]; simp only [c_9, c_18, c_27, c_46, c_80, c_86, eq_self_iff_true, if_true, if_false, true_or, or_true, false_or, or_false, true_and, and_true, false_and, and_false, Bool.true_eq_false, Bool.false_eq_true, not_true, not_false_eq_true, reduceIte, Bool.not_true, Bool.not_false])) (hP.sub (ws' := [(m0, OB 7 [.int th, .ref a1, .ref a2, .ref a3, .int (nI ud), .ref a5, .ref a6, .ref a7, .int (nI ln), .int (nI nx), .int (nI ts), .int tk, .int vl, .int er, .ref a14, .int rq, .ref a16]), (a1, AI G 568 sf), (a16, AZ G 1024 (fun z => bI (eg z)))]) [0, 1, 2] rfl) (hD.sub (ws' := [(m0, OB 7 [.int th, .ref a1, .ref a2, .ref a3, .int (nI ud), .ref a5, .ref a6, .ref a7, .int (nI ln), .int (nI nx), .int (nI ts), .int tk, .int vl, .int er, .ref a14, .int rq, .ref a16]), (a1, AI G 568 sf), (a16, AZ G 1024 (fun z => bI (eg z)))]) [0, 1, 2] (by decide) rfl) hS (lv_sub (l' := [(0, .ref m0), (1, .int fd), (2, .int (nI (j + 1)))]) hl [4, 1, 0] rfl)
                ·
                  have c_86 : (-9) < (bcM (nI j) 10) := Int32.not_le.mp c_86
                  refine lv_iload_n hx hb dX7_findSeed_89 rfl (lv_at hl 4 rfl) ?_
                  refine lv_goto (tgt := 94) hx hb dX7_findSeed_90 (by decide) ?_
                  refine lv_istore_n (lv' := [(1, .int (nI j)), (4, .int (-9)), (3, .int (bcM (nI j) 10)), (0, .ref m0), (2, .int (nI j))]) hx hb dX7_findSeed_94 rfl hl (by decide) rfl (fun ls hl => ?_)
                  refine lv_iinc (v := nI (j + 1)) (lv' := [(2, .int (nI (j + 1))), (1, .int (nI j)), (4, .int (-9)), (3, .int (bcM (nI j) 10)), (0, .ref m0)]) hx hb dX7_findSeed_95 hl (k := 4) rfl (nI_inc (j) 1) (by decide) rfl (fun ls hl => ?_)
                  refine lv_goto (tgt := 5) hx hb dX7_findSeed_98 (by decide) ?_
                  exact ih (j + 1) (nI j) _ _ _ (by omega) (by omega) (by first | exact absurd c_46 c_80 | exact absurd c_80 c_46 | exact absurd c_60 c_27 | exact absurd c_27 c_60 | (simp only [sdM, szM, ← ha]; simp only [c_9, c_18, c_27, c_46, c_80, c_86, eq_self_iff_true, if_true, if_false, true_or, or_true, false_or, or_false, true_and, and_true, false_and, and_false, Bool.true_eq_false, Bool.false_eq_true, not_true, not_false_eq_true, reduceIte, Bool.not_true, Bool.not_false])) (hP.sub (ws' := [(m0, OB 7 [.int th, .ref a1, .ref a2, .ref a3, .int (nI ud), .ref a5, .ref a6, .ref a7, .int (nI ln), .int (nI nx), .int (nI ts), .int tk, .int vl, .int er, .ref a14, .int rq, .ref a16]), (a1, AI G 568 sf), (a16, AZ G 1024 (fun z => bI (eg z)))]) [0, 1, 2] rfl) (hD.sub (ws' := [(m0, OB 7 [.int th, .ref a1, .ref a2, .ref a3, .int (nI ud), .ref a5, .ref a6, .ref a7, .int (nI ln), .int (nI nx), .int (nI ts), .int tk, .int vl, .int er, .ref a14, .int rq, .ref a16]), (a1, AI G 568 sf), (a16, AZ G 1024 (fun z => bI (eg z)))]) [0, 1, 2] (by decide) rfl) hS (lv_sub (l' := [(0, .ref m0), (1, .int (nI j)), (2, .int (nI (j + 1)))]) hl [4, 1, 0] rfl)
  exact L5 ((1024 - 0) + 1) 0 (-9) _ _ _ (Nat.lt_succ_self _) (Nat.zero_le _) (rfl) (hP.sub (ws' := [(m0, OB 7 [.int th, .ref a1, .ref a2, .ref a3, .int (nI ud), .ref a5, .ref a6, .ref a7, .int (nI ln), .int (nI nx), .int (nI ts), .int tk, .int vl, .int er, .ref a14, .int rq, .ref a16]), (a1, AI G 568 sf), (a16, AZ G 1024 (fun z => bI (eg z)))]) [0, 1, 2] rfl) (hD.sub (ws' := [(m0, OB 7 [.int th, .ref a1, .ref a2, .ref a3, .int (nI ud), .ref a5, .ref a6, .ref a7, .int (nI ln), .int (nI nx), .int (nI ts), .int tk, .int vl, .int er, .ref a14, .int rq, .ref a16]), (a1, AI G 568 sf), (a16, AZ G 1024 (fun z => bI (eg z)))]) [0, 1, 2] (by decide) rfl) hS (lv_sub (l' := [(0, .ref m0), (1, .int (-9)), (2, .int (nI 0))]) hl [2, 1, 0] rfl)
abbrev rmX7_weightOf : Room := { frames := 1, cells := 0, slots := 0, locals := 22 }
set_option maxHeartbeats 4000000 in
set_option maxRecDepth 100000 in
theorem c_X7_weightOf (l : Launch) (G : GT) (m0 a1 a2 a3 a5 a6 a7 a14 a16 : Nat) (th : Int32) (ud ln nx ts : Nat) (tk vl er rq : Int32) (sf : Nat → Int32) (n : Nat) (sel : Int32) (hc : sf 0 = nI n) (hn : n ≤ 10) : Ci l yX7_weightOf wsX7_weightOf rmX7_weightOf G [.ref m0, .int sel] [(m0, OB 7 [.int th, .ref a1, .ref a2, .ref a3, .int (nI ud), .ref a5, .ref a6, .ref a7, .int (nI ln), .int (nI nx), .int (nI ts), .int tk, .int vl, .int er, .ref a14, .int rq, .ref a16]), (a1, AI G 568 sf)] (fun r u => r = wtM (fun c => cA sf c 5) sel n ∧ u = [(m0, OB 7 [.int th, .ref a1, .ref a2, .ref a3, .int (nI ud), .ref a5, .ref a6, .ref a7, .int (nI ln), .int (nI nx), .int (nI ts), .int tk, .int vl, .int er, .ref a14, .int rq, .ref a16]), (a1, AI G 568 sf)]) := by
  refine Ci.of (cc := cX7_weightOf) (maxL := 4) (ty := .int) (by decide) rfl (Nat.le_of_ble_eq_true rfl) ?_
  intro p e s m below meth c A ls Q hx hb hml hts hown hA hS hP hK hN hSS hD hl ret
  have hown : s.vm.findClass RX7 = some m.cls := hown
  have hl : lv_has ls 4 [(0, .ref m0), (1, .int sel)] := hl
  have hi7 : ∀ w ∈ wsX70, w ∈ wsX7_weightOf := mem_places [10, 11, 12, 13, 14, 15, 16, 17, 18, 19, 20, 21, 22, 23, 24, 25, 26] (by decide +kernel)
  refine lv_iconst (v := 0) hx hb dX7_weightOf_0 (by decide) ?_
  refine lv_istore_n (lv' := [(2, .int 0), (0, .ref m0), (1, .int sel)]) hx hb dX7_weightOf_1 rfl hl (by decide) rfl (fun ls hl => ?_)
  refine lv_iconst (v := 0) hx hb dX7_weightOf_2 (by decide) ?_
  refine lv_istore_n (lv' := [(3, .int 0), (2, .int 0), (0, .ref m0), (1, .int sel)]) hx hb dX7_weightOf_3 rfl hl (by decide) rfl (fun ls hl => ?_)
  have L4 : ∀ (kf : Nat) (q : Nat) (acc : Int32) (H : Heap) (locs : List Loc) (ls : Array Slot), n - q < kf → (q ≤ n) → (acc = wtM (fun c => cA sf c 5) sel q) → va_P G.1 vwCl [(m0, OB 7 [.int th, .ref a1, .ref a2, .ref a3, .int (nI ud), .ref a5, .ref a6, .ref a7, .int (nI ln), .int (nI nx), .int (nI ts), .int tk, .int vl, .int er, .ref a14, .int rq, .ref a16]), (a1, AI G 568 sf)] H → va_D A [(m0, OB 7 [.int th, .ref a1, .ref a2, .ref a3, .int (nI ud), .ref a5, .ref a6, .ref a7, .int (nI ln), .int (nI nx), .int (nI ts), .int tk, .int vl, .int er, .ref a14, .int rq, .ref a16]), (a1, AI G 568 sf)] → va_S A s.heap H locs → lv_has ls 4 [(0, .ref m0), (1, .int sel), (2, .int acc), (3, .int (nI q))] → W p l e rmX7_weightOf s m ([.ref m0, .int sel] : List Value).toArray below meth c H locs 0 0 Q (F0 m 4 ls []) := by
    intro kf
    induction kf with
    | zero => intro q acc H locs ls h; exact absurd h (Nat.not_lt_zero _)
    | succ kf ih =>
      intro q acc H locs ls hk hi ha hP hD hS hl
      refine lv_iload_n hx hb dX7_weightOf_4 rfl (lv_at hl 3 rfl) ?_
      refine lv_aload_n hx hb dX7_weightOf_5 rfl (lv_at hl 0 rfl) ?_
      refine va_get (D := G.1) (ci := 7) (v := .ref a1) (C := RX7) (T := TX7) (N := 17) hx hb hts hi7 hown hK hP 0 rfl rfl 1 (by decide) (hts (.fieldLink RX7 7 "ConflictEnumeratorModel" "s" "[I") (List.mem_of_getElem? (i := 1) rfl)) (fun _ h9 => h9) rfl dX7_weightOf_6 ?_
      refine lv_iconst (v := 0) hx hb dX7_weightOf_9 (by decide) ?_
      refine wa_iald hx hb hK hP 1 rfl (0) (rfl) (by omega) (by decide) dX7_weightOf_10 ?_
      rw [show sf 0 = nI n from hc]
      refine lv_icmp_ge (tgt := 41) hx hb dX7_weightOf_11 (by decide) (fun c_11 => ?_) (fun c_11 => ?_)
      ·
        have c_11 : n ≤ q := (nI_leI (a := n) (b := q) (by omega) (by omega)).mp c_11
        refine lv_iload_n hx hb dX7_weightOf_41 rfl (lv_at hl 2 rfl) ?_
        exact ret acc _ _ _ _ _ _ _ (Nat.le_of_ble_eq_true rfl) (Nat.le_of_ble_eq_true rfl) (rfl) (⟨by rw [ha, show q = n by omega], rfl⟩) (hP.sub (ws' := [(m0, OB 7 [.int th, .ref a1, .ref a2, .ref a3, .int (nI ud), .ref a5, .ref a6, .ref a7, .int (nI ln), .int (nI nx), .int (nI ts), .int tk, .int vl, .int er, .ref a14, .int rq, .ref a16]), (a1, AI G 568 sf)]) [0, 1] rfl) (hD.sub (ws' := [(m0, OB 7 [.int th, .ref a1, .ref a2, .ref a3, .int (nI ud), .ref a5, .ref a6, .ref a7, .int (nI ln), .int (nI nx), .int (nI ts), .int tk, .int vl, .int er, .ref a14, .int rq, .ref a16]), (a1, AI G 568 sf)]) [0, 1] (by decide) rfl) hS dX7_weightOf_42
      ·
        have c_11 : q < n := by have h9 := mt (nI_leI (a := n) (b := q) (by omega) (by omega)).mpr c_11; omega
        refine lv_iload_n hx hb dX7_weightOf_14 rfl (lv_at hl 2 rfl) ?_
        refine lv_iload_n hx hb dX7_weightOf_15 rfl (lv_at hl 1 rfl) ?_
        refine lv_iload_n hx hb dX7_weightOf_16 rfl (lv_at hl 3 rfl) ?_
        refine call_Si (rest := [.int acc]) (As := [.int sel, .int (nI q)]) (wr := [(m0, OB 7 [.int th, .ref a1, .ref a2, .ref a3, .int (nI ud), .ref a5, .ref a6, .ref a7, .int (nI ln), .int (nI nx), .int (nI ts), .int tk, .int vl, .int er, .ref a14, .int rq, .ref a16]), (a1, AI G 568 sf)]) (c1 := 0) (s1 := 0) ⟨hx, hb, hml, hown, hts⟩ (c_X7_has l G sel (nI q) ) (va_cwS 2 hts gX7_weightOf_X7_has rfl rfl rfl (by decide +kernel) ⟨Nat.le_of_ble_eq_true rfl, Nat.le_of_ble_eq_true rfl⟩) hK hN hSS hP hD hS hA [] [0, 1] rfl rfl (by decide) (by decide) (by decide) rfl hl.1 rfl (Nat.le_of_ble_eq_true rfl) dX7_weightOf_17 ⟨Nat.le_of_ble_eq_true rfl, Nat.le_of_ble_eq_true rfl⟩ rfl rfl (fun r_17 u_17 H locs hpo hP hD hS => ?_)
        obtain ⟨hr9, rfl⟩ := hpo
        subst r_17
        have hP : va_P G.1 vwCl [(m0, OB 7 [.int th, .ref a1, .ref a2, .ref a3, .int (nI ud), .ref a5, .ref a6, .ref a7, .int (nI ln), .int (nI nx), .int (nI ts), .int tk, .int vl, .int er, .ref a14, .int rq, .ref a16]), (a1, AI G 568 sf)] H := hP
        have hD : va_D A [(m0, OB 7 [.int th, .ref a1, .ref a2, .ref a3, .int (nI ud), .ref a5, .ref a6, .ref a7, .int (nI ln), .int (nI nx), .int (nI ts), .int tk, .int vl, .int er, .ref a14, .int rq, .ref a16]), (a1, AI G 568 sf)] := hD
        refine wb_eq (tgt := 32) hx hb dX7_weightOf_20 (by decide) (fun c_20 => ?_) (fun c_20 => ?_)
        ·
          refine lv_iconst (v := 0) hx hb dX7_weightOf_32 (by decide) ?_
          refine lv_iadd hx hb dX7_weightOf_33 ?_
          refine lv_istore_n (lv' := [(2, .int (acc + 0)), (0, .ref m0), (1, .int sel), (3, .int (nI q))]) hx hb dX7_weightOf_34 rfl hl (by decide) rfl (fun ls hl => ?_)
          refine lv_iinc (v := nI (q + 1)) (lv' := [(3, .int (nI (q + 1))), (2, .int (acc + 0)), (0, .ref m0), (1, .int sel)]) hx hb dX7_weightOf_35 hl (k := 3) rfl (nI_inc (q) 1) (by decide) rfl (fun ls hl => ?_)
          refine lv_goto (tgt := 4) hx hb dX7_weightOf_38 (by decide) ?_
          exact ih (q + 1) (acc + 0) _ _ _ (by omega) (by omega) (by simp [wtM, ha, c_11, c_20]) (hP.sub (ws' := [(m0, OB 7 [.int th, .ref a1, .ref a2, .ref a3, .int (nI ud), .ref a5, .ref a6, .ref a7, .int (nI ln), .int (nI nx), .int (nI ts), .int tk, .int vl, .int er, .ref a14, .int rq, .ref a16]), (a1, AI G 568 sf)]) [0, 1] rfl) (hD.sub (ws' := [(m0, OB 7 [.int th, .ref a1, .ref a2, .ref a3, .int (nI ud), .ref a5, .ref a6, .ref a7, .int (nI ln), .int (nI nx), .int (nI ts), .int tk, .int vl, .int er, .ref a14, .int rq, .ref a16]), (a1, AI G 568 sf)]) [0, 1] (by decide) rfl) hS (lv_sub (l' := [(0, .ref m0), (1, .int sel), (2, .int (acc + 0)), (3, .int (nI (q + 1)))]) hl [2, 3, 1, 0] rfl)
        ·
          refine lv_aload_n hx hb dX7_weightOf_23 rfl (lv_at hl 0 rfl) ?_
          refine lv_iload_n hx hb dX7_weightOf_24 rfl (lv_at hl 3 rfl) ?_
          refine lv_iconst (v := 5) hx hb dX7_weightOf_25 (by decide) ?_
          refine call_Vi (rest := [.int acc]) (As := [.int (nI q), .int 5]) (wr := []) (c1 := 0) (s1 := 0) ⟨hx, hb, hml, hown, hts⟩ (c_X7_of l G m0 a1 a2 a3 a5 a6 a7 a14 a16 th ud ln nx ts tk vl er rq sf q 5 (by first | assumption | omega)) (cwV 2 hts gX7_weightOf_X7_of rfl rfl rfl (by decide +kernel) ⟨Nat.le_of_ble_eq_true rfl, Nat.le_of_ble_eq_true rfl⟩) hK hN hSS hP hD hS hA 0 7 rfl rfl rfl [0, 1] [] rfl rfl (by decide) (by decide) (by decide) rfl hl.1 rfl (Nat.le_of_ble_eq_true rfl) dX7_weightOf_26 ⟨Nat.le_of_ble_eq_true rfl, Nat.le_of_ble_eq_true rfl⟩ rfl rfl (fun r_26 u_26 H locs hpo hP hD hS => ?_)
          obtain ⟨hr9, rfl⟩ := hpo
          subst r_26
          have hP : va_P G.1 vwCl [(m0, OB 7 [.int th, .ref a1, .ref a2, .ref a3, .int (nI ud), .ref a5, .ref a6, .ref a7, .int (nI ln), .int (nI nx), .int (nI ts), .int tk, .int vl, .int er, .ref a14, .int rq, .ref a16]), (a1, AI G 568 sf)] H := hP
          have hD : va_D A [(m0, OB 7 [.int th, .ref a1, .ref a2, .ref a3, .int (nI ud), .ref a5, .ref a6, .ref a7, .int (nI ln), .int (nI nx), .int (nI ts), .int tk, .int vl, .int er, .ref a14, .int rq, .ref a16]), (a1, AI G 568 sf)] := hD
          refine lv_goto (tgt := 33) hx hb dX7_weightOf_29 (by decide) ?_
          refine lv_iadd hx hb dX7_weightOf_33 ?_
          refine lv_istore_n (lv' := [(2, .int (acc + (cA sf q 5))), (0, .ref m0), (1, .int sel), (3, .int (nI q))]) hx hb dX7_weightOf_34 rfl hl (by decide) rfl (fun ls hl => ?_)
          refine lv_iinc (v := nI (q + 1)) (lv' := [(3, .int (nI (q + 1))), (2, .int (acc + (cA sf q 5))), (0, .ref m0), (1, .int sel)]) hx hb dX7_weightOf_35 hl (k := 3) rfl (nI_inc (q) 1) (by decide) rfl (fun ls hl => ?_)
          refine lv_goto (tgt := 4) hx hb dX7_weightOf_38 (by decide) ?_
          exact ih (q + 1) (acc + (cA sf q 5)) _ _ _ (by omega) (by omega) (by simp [wtM, ha, c_11, c_20]) (hP.sub (ws' := [(m0, OB 7 [.int th, .ref a1, .ref a2, .ref a3, .int (nI ud), .ref a5, .ref a6, .ref a7, .int (nI ln), .int (nI nx), .int (nI ts), .int tk, .int vl, .int er, .ref a14, .int rq, .ref a16]), (a1, AI G 568 sf)]) [0, 1] rfl) (hD.sub (ws' := [(m0, OB 7 [.int th, .ref a1, .ref a2, .ref a3, .int (nI ud), .ref a5, .ref a6, .ref a7, .int (nI ln), .int (nI nx), .int (nI ts), .int tk, .int vl, .int er, .ref a14, .int rq, .ref a16]), (a1, AI G 568 sf)]) [0, 1] (by decide) rfl) hS (lv_sub (l' := [(0, .ref m0), (1, .int sel), (2, .int (acc + (cA sf q 5))), (3, .int (nI (q + 1)))]) hl [2, 3, 1, 0] rfl)
  exact L4 ((n - 0) + 1) 0 0 _ _ _ (Nat.lt_succ_self _) (Nat.zero_le _) (rfl) (hP.sub (ws' := [(m0, OB 7 [.int th, .ref a1, .ref a2, .ref a3, .int (nI ud), .ref a5, .ref a6, .ref a7, .int (nI ln), .int (nI nx), .int (nI ts), .int tk, .int vl, .int er, .ref a14, .int rq, .ref a16]), (a1, AI G 568 sf)]) [0, 1] rfl) (hD.sub (ws' := [(m0, OB 7 [.int th, .ref a1, .ref a2, .ref a3, .int (nI ud), .ref a5, .ref a6, .ref a7, .int (nI ln), .int (nI nx), .int (nI ts), .int tk, .int vl, .int er, .ref a14, .int rq, .ref a16]), (a1, AI G 568 sf)]) [0, 1] (by decide) rfl) hS (lv_sub (l' := [(0, .ref m0), (1, .int sel), (2, .int 0), (3, .int (nI 0))]) hl [2, 3, 1, 0] rfl)
abbrev rmX7_hitsAll : Room := { frames := 0, cells := 0, slots := 0, locals := 0 }
set_option maxHeartbeats 4000000 in
set_option maxRecDepth 100000 in
theorem c_X7_hitsAll (l : Launch) (G : GT) (m0 a1 a2 a3 a5 a6 a7 a14 a16 : Nat) (th : Int32) (ud ln nx ts : Nat) (tk vl er rq : Int32) (sf : Nat → Int32) (un : Nat) (sel : Int32) (hu : sf 2 = nI un) (hun : un ≤ 252) : Ci l yX7_hitsAll wsX7_hitsAll rmX7_hitsAll G [.ref m0, .int sel] [(m0, OB 7 [.int th, .ref a1, .ref a2, .ref a3, .int (nI ud), .ref a5, .ref a6, .ref a7, .int (nI ln), .int (nI nx), .int (nI ts), .int tk, .int vl, .int er, .ref a14, .int rq, .ref a16]), (a1, AI G 568 sf)] (fun r u => r = bI (hitM (fun k => sf (64 + k)) sel un) ∧ u = [(m0, OB 7 [.int th, .ref a1, .ref a2, .ref a3, .int (nI ud), .ref a5, .ref a6, .ref a7, .int (nI ln), .int (nI nx), .int (nI ts), .int tk, .int vl, .int er, .ref a14, .int rq, .ref a16]), (a1, AI G 568 sf)]) := by
  refine Ci.of (cc := cX7_hitsAll) (maxL := 4) (ty := .boolean) (by decide) rfl (Nat.le_of_ble_eq_true rfl) ?_
  intro p e s m below meth c A ls Q hx hb hml hts hown hA hS hP hK hN hSS hD hl ret
  have hown : s.vm.findClass RX7 = some m.cls := hown
  have hl : lv_has ls 4 [(0, .ref m0), (1, .int sel)] := hl
  have hi7 : ∀ w ∈ wsX70, w ∈ wsX7_hitsAll := mem_places [2, 3, 4, 5, 6, 7, 8, 9, 10, 11, 12, 13, 14, 15, 16, 17, 18] (by decide +kernel)
  refine lv_iconst (v := 1) hx hb dX7_hitsAll_0 (by decide) ?_
  refine lv_istore_n (lv' := [(2, .int 1), (0, .ref m0), (1, .int sel)]) hx hb dX7_hitsAll_1 rfl hl (by decide) rfl (fun ls hl => ?_)
  refine lv_iconst (v := 0) hx hb dX7_hitsAll_2 (by decide) ?_
  refine lv_istore_n (lv' := [(3, .int 0), (2, .int 1), (0, .ref m0), (1, .int sel)]) hx hb dX7_hitsAll_3 rfl hl (by decide) rfl (fun ls hl => ?_)
  have L4 : ∀ (kf : Nat) (k : Nat) (b : Bool) (H : Heap) (locs : List Loc) (ls : Array Slot), un - k < kf → (k ≤ un) → (b = hitM (fun k => sf (64 + k)) sel k) → va_P G.1 vwCl [(m0, OB 7 [.int th, .ref a1, .ref a2, .ref a3, .int (nI ud), .ref a5, .ref a6, .ref a7, .int (nI ln), .int (nI nx), .int (nI ts), .int tk, .int vl, .int er, .ref a14, .int rq, .ref a16]), (a1, AI G 568 sf)] H → va_D A [(m0, OB 7 [.int th, .ref a1, .ref a2, .ref a3, .int (nI ud), .ref a5, .ref a6, .ref a7, .int (nI ln), .int (nI nx), .int (nI ts), .int tk, .int vl, .int er, .ref a14, .int rq, .ref a16]), (a1, AI G 568 sf)] → va_S A s.heap H locs → lv_has ls 4 [(0, .ref m0), (1, .int sel), (2, .int (bI b)), (3, .int (nI k))] → W p l e rmX7_hitsAll s m ([.ref m0, .int sel] : List Value).toArray below meth c H locs 0 0 Q (F0 m 4 ls []) := by
    intro kf
    induction kf with
    | zero => intro k b H locs ls h; exact absurd h (Nat.not_lt_zero _)
    | succ kf ih =>
      intro k b H locs ls hk hi hb9 hP hD hS hl
      refine lv_iload_n hx hb dX7_hitsAll_4 rfl (lv_at hl 3 rfl) ?_
      refine lv_aload_n hx hb dX7_hitsAll_5 rfl (lv_at hl 0 rfl) ?_
      refine va_get (D := G.1) (ci := 7) (v := .ref a1) (C := RX7) (T := TX7) (N := 17) hx hb hts hi7 hown hK hP 0 rfl rfl 1 (by decide) (hts (.fieldLink RX7 7 "ConflictEnumeratorModel" "s" "[I") (List.mem_of_getElem? (i := 1) rfl)) (fun _ h9 => h9) rfl dX7_hitsAll_6 ?_
      refine lv_iconst (v := 2) hx hb dX7_hitsAll_9 (by decide) ?_
      refine wa_iald hx hb hK hP 1 rfl (2) (rfl) (by omega) (by decide) dX7_hitsAll_10 ?_
      rw [show sf 2 = nI un from hu]
      refine lv_icmp_ge (tgt := 44) hx hb dX7_hitsAll_11 (by decide) (fun c_11 => ?_) (fun c_11 => ?_)
      ·
        have c_11 : un ≤ k := (nI_leI (a := un) (b := k) (by omega) (by omega)).mp c_11
        refine lv_iload_n hx hb dX7_hitsAll_44 rfl (lv_at hl 2 rfl) ?_
        exact ret (bI b) _ _ _ _ _ _ _ (Nat.le_of_ble_eq_true rfl) (Nat.le_of_ble_eq_true rfl) (bI_nar _) (⟨by first | (rw [c_15, hitM_f _ sel (hb9.symm.trans c_15) (show k ≤ un by omega)]; done) | (rw [hb9, show k = un by omega]), rfl⟩) (hP.sub (ws' := [(m0, OB 7 [.int th, .ref a1, .ref a2, .ref a3, .int (nI ud), .ref a5, .ref a6, .ref a7, .int (nI ln), .int (nI nx), .int (nI ts), .int tk, .int vl, .int er, .ref a14, .int rq, .ref a16]), (a1, AI G 568 sf)]) [0, 1] rfl) (hD.sub (ws' := [(m0, OB 7 [.int th, .ref a1, .ref a2, .ref a3, .int (nI ud), .ref a5, .ref a6, .ref a7, .int (nI ln), .int (nI nx), .int (nI ts), .int tk, .int vl, .int er, .ref a14, .int rq, .ref a16]), (a1, AI G 568 sf)]) [0, 1] (by decide) rfl) hS dX7_hitsAll_45
      ·
        have c_11 : k < un := by have h9 := mt (nI_leI (a := un) (b := k) (by omega) (by omega)).mpr c_11; omega
        refine lv_iload_n hx hb dX7_hitsAll_14 rfl (lv_at hl 2 rfl) ?_
        refine wb_eq (tgt := 44) hx hb dX7_hitsAll_15 (by decide) (fun c_15 => ?_) (fun c_15 => ?_)
        ·
          refine lv_iload_n hx hb dX7_hitsAll_44 rfl (lv_at hl 2 rfl) ?_
          exact ret (bI b) _ _ _ _ _ _ _ (Nat.le_of_ble_eq_true rfl) (Nat.le_of_ble_eq_true rfl) (bI_nar _) (⟨by first | (rw [c_15, hitM_f _ sel (hb9.symm.trans c_15) (show k ≤ un by omega)]; done) | (rw [hb9, show k = un by omega]), rfl⟩) (hP.sub (ws' := [(m0, OB 7 [.int th, .ref a1, .ref a2, .ref a3, .int (nI ud), .ref a5, .ref a6, .ref a7, .int (nI ln), .int (nI nx), .int (nI ts), .int tk, .int vl, .int er, .ref a14, .int rq, .ref a16]), (a1, AI G 568 sf)]) [0, 1] rfl) (hD.sub (ws' := [(m0, OB 7 [.int th, .ref a1, .ref a2, .ref a3, .int (nI ud), .ref a5, .ref a6, .ref a7, .int (nI ln), .int (nI nx), .int (nI ts), .int tk, .int vl, .int er, .ref a14, .int rq, .ref a16]), (a1, AI G 568 sf)]) [0, 1] (by decide) rfl) hS dX7_hitsAll_45
        ·
          refine lv_iload_n hx hb dX7_hitsAll_18 rfl (lv_at hl 1 rfl) ?_
          refine lv_aload_n hx hb dX7_hitsAll_19 rfl (lv_at hl 0 rfl) ?_
          refine va_get (D := G.1) (ci := 7) (v := .ref a1) (C := RX7) (T := TX7) (N := 17) hx hb hts hi7 hown hK hP 0 rfl rfl 1 (by decide) (hts (.fieldLink RX7 7 "ConflictEnumeratorModel" "s" "[I") (List.mem_of_getElem? (i := 1) rfl)) (fun _ h9 => h9) rfl dX7_hitsAll_20 ?_
          refine lv_bipush (v := 64) hx hb dX7_hitsAll_23 (by decide) ?_
          refine lv_iload_n hx hb dX7_hitsAll_25 rfl (lv_at hl 3 rfl) ?_
          refine wn_iadd hx hb (64) (k) rfl rfl dX7_hitsAll_26 ?_
          refine wa_iald hx hb hK hP 1 rfl (64 + k) (rfl) (by omega) (by decide) dX7_hitsAll_27 ?_
          refine lv_iand hx hb dX7_hitsAll_28 ?_
          refine lv_if_eq (tgt := 36) hx hb dX7_hitsAll_29 (by decide) (fun c_29 => ?_) (fun c_29 => ?_)
          ·
            refine lv_iconst (v := 0) hx hb dX7_hitsAll_36 (by decide) ?_
            refine lv_istore_n (lv' := [(2, .int 0), (0, .ref m0), (1, .int sel), (3, .int (nI k))]) hx hb dX7_hitsAll_37 rfl hl (by decide) rfl (fun ls hl => ?_)
            refine lv_iinc (v := nI (k + 1)) (lv' := [(3, .int (nI (k + 1))), (2, .int 0), (0, .ref m0), (1, .int sel)]) hx hb dX7_hitsAll_38 hl (k := 3) rfl (nI_inc (k) 1) (by decide) rfl (fun ls hl => ?_)
            refine lv_goto (tgt := 4) hx hb dX7_hitsAll_41 (by decide) ?_
            exact ih (k + 1) false _ _ _ (by omega) (by omega) (by simp only [hitM, ← hb9]; simp [c_11, c_15, c_29]) (hP.sub (ws' := [(m0, OB 7 [.int th, .ref a1, .ref a2, .ref a3, .int (nI ud), .ref a5, .ref a6, .ref a7, .int (nI ln), .int (nI nx), .int (nI ts), .int tk, .int vl, .int er, .ref a14, .int rq, .ref a16]), (a1, AI G 568 sf)]) [0, 1] rfl) (hD.sub (ws' := [(m0, OB 7 [.int th, .ref a1, .ref a2, .ref a3, .int (nI ud), .ref a5, .ref a6, .ref a7, .int (nI ln), .int (nI nx), .int (nI ts), .int tk, .int vl, .int er, .ref a14, .int rq, .ref a16]), (a1, AI G 568 sf)]) [0, 1] (by decide) rfl) hS (lv_sub (l' := [(0, .ref m0), (1, .int sel), (2, .int (bI false)), (3, .int (nI (k + 1)))]) hl [2, 3, 1, 0] rfl)
          ·
            refine lv_iconst (v := 1) hx hb dX7_hitsAll_32 (by decide) ?_
            refine lv_goto (tgt := 37) hx hb dX7_hitsAll_33 (by decide) ?_
            refine lv_istore_n (lv' := [(2, .int 1), (0, .ref m0), (1, .int sel), (3, .int (nI k))]) hx hb dX7_hitsAll_37 rfl hl (by decide) rfl (fun ls hl => ?_)
            refine lv_iinc (v := nI (k + 1)) (lv' := [(3, .int (nI (k + 1))), (2, .int 1), (0, .ref m0), (1, .int sel)]) hx hb dX7_hitsAll_38 hl (k := 3) rfl (nI_inc (k) 1) (by decide) rfl (fun ls hl => ?_)
            refine lv_goto (tgt := 4) hx hb dX7_hitsAll_41 (by decide) ?_
            exact ih (k + 1) true _ _ _ (by omega) (by omega) (by simp only [hitM, ← hb9]; simp [c_11, c_15, c_29]) (hP.sub (ws' := [(m0, OB 7 [.int th, .ref a1, .ref a2, .ref a3, .int (nI ud), .ref a5, .ref a6, .ref a7, .int (nI ln), .int (nI nx), .int (nI ts), .int tk, .int vl, .int er, .ref a14, .int rq, .ref a16]), (a1, AI G 568 sf)]) [0, 1] rfl) (hD.sub (ws' := [(m0, OB 7 [.int th, .ref a1, .ref a2, .ref a3, .int (nI ud), .ref a5, .ref a6, .ref a7, .int (nI ln), .int (nI nx), .int (nI ts), .int tk, .int vl, .int er, .ref a14, .int rq, .ref a16]), (a1, AI G 568 sf)]) [0, 1] (by decide) rfl) hS (lv_sub (l' := [(0, .ref m0), (1, .int sel), (2, .int (bI true)), (3, .int (nI (k + 1)))]) hl [2, 3, 1, 0] rfl)
  exact L4 ((un - 0) + 1) 0 true _ _ _ (Nat.lt_succ_self _) (Nat.zero_le _) (rfl) (hP.sub (ws' := [(m0, OB 7 [.int th, .ref a1, .ref a2, .ref a3, .int (nI ud), .ref a5, .ref a6, .ref a7, .int (nI ln), .int (nI nx), .int (nI ts), .int tk, .int vl, .int er, .ref a14, .int rq, .ref a16]), (a1, AI G 568 sf)]) [0, 1] rfl) (hD.sub (ws' := [(m0, OB 7 [.int th, .ref a1, .ref a2, .ref a3, .int (nI ud), .ref a5, .ref a6, .ref a7, .int (nI ln), .int (nI nx), .int (nI ts), .int tk, .int vl, .int er, .ref a14, .int rq, .ref a16]), (a1, AI G 568 sf)]) [0, 1] (by decide) rfl) hS (lv_sub (l' := [(0, .ref m0), (1, .int sel), (2, .int (bI true)), (3, .int (nI 0))]) hl [2, 3, 1, 0] rfl)
abbrev rmX7_hittingSet : Room := { frames := 2, cells := 0, slots := 0, locals := 45 }
set_option maxHeartbeats 4000000 in
set_option maxRecDepth 100000 in
theorem c_X7_hittingSet (l : Launch) (G : GT) (m0 a1 a2 a3 a5 a6 a7 a14 a16 : Nat) (th : Int32) (ud ln nx ts : Nat) (tk vl er rq : Int32) (sf : Nat → Int32) (n : Nat) (un : Nat) (bw : Bool) (hc : sf 0 = nI n) (hn : n ≤ 10) (hu : sf 2 = nI un) (hun : un ≤ 252) : Ci l yX7_hittingSet wsX7_hittingSet rmX7_hittingSet G [.ref m0, .int (bI bw)] [(m0, OB 7 [.int th, .ref a1, .ref a2, .ref a3, .int (nI ud), .ref a5, .ref a6, .ref a7, .int (nI ln), .int (nI nx), .int (nI ts), .int tk, .int vl, .int er, .ref a14, .int rq, .ref a16]), (a1, AI G 568 sf)] (fun r u => r = (hsM (fun z => if bw = true then wtM (fun c => cA sf c 5) (nI z) n else bcM (nI z) 10) (fun z => subB (nI z) (softS sf n)) (fun z => hitM (fun k => sf (64 + k)) (nI z) un) 1024).1 ∧ u = [(m0, OB 7 [.int th, .ref a1, .ref a2, .ref a3, .int (nI ud), .ref a5, .ref a6, .ref a7, .int (nI ln), .int (nI nx), .int (nI ts), .int tk, .int vl, .int er, .ref a14, .int rq, .ref a16]), (a1, AI G 568 sf)]) := by
  refine Ci.of (cc := cX7_hittingSet) (maxL := 7) (ty := .int) (by decide) rfl (Nat.le_of_ble_eq_true rfl) ?_
  intro p e s m below meth c A ls Q hx hb hml hts hown hA hS hP hK hN hSS hD hl ret
  have hown : s.vm.findClass RX7 = some m.cls := hown
  have hl : lv_has ls 7 [(0, .ref m0), (1, .int (bI bw))] := hl
  refine lv_aload_n hx hb dX7_hittingSet_0 rfl (lv_at hl 0 rfl) ?_
  refine call_Vi (rest := []) (As := []) (wr := []) (c1 := 0) (s1 := 0) ⟨hx, hb, hml, hown, hts⟩ (c_X7_softSet l G m0 a1 a2 a3 a5 a6 a7 a14 a16 th ud ln nx ts tk vl er rq sf n (by first | assumption | omega) (by first | assumption | omega)) (cwV 0 hts gX7_hittingSet_X7_softSet rfl rfl rfl (by decide +kernel) ⟨Nat.le_of_ble_eq_true rfl, Nat.le_of_ble_eq_true rfl⟩) hK hN hSS hP hD hS hA 0 7 rfl rfl rfl [0, 1] [] rfl rfl (by decide) (by decide) (by decide) rfl hl.1 rfl (Nat.le_of_ble_eq_true rfl) dX7_hittingSet_1 ⟨Nat.le_of_ble_eq_true rfl, Nat.le_of_ble_eq_true rfl⟩ rfl rfl (fun r_1 u_1 H locs hpo hP hD hS => ?_)
  obtain ⟨hr9, rfl⟩ := hpo
  subst r_1
  have hP : va_P G.1 vwCl [(m0, OB 7 [.int th, .ref a1, .ref a2, .ref a3, .int (nI ud), .ref a5, .ref a6, .ref a7, .int (nI ln), .int (nI nx), .int (nI ts), .int tk, .int vl, .int er, .ref a14, .int rq, .ref a16]), (a1, AI G 568 sf)] H := hP
  have hD : va_D A [(m0, OB 7 [.int th, .ref a1, .ref a2, .ref a3, .int (nI ud), .ref a5, .ref a6, .ref a7, .int (nI ln), .int (nI nx), .int (nI ts), .int tk, .int vl, .int er, .ref a14, .int rq, .ref a16]), (a1, AI G 568 sf)] := hD
  refine lv_istore_n (lv' := [(2, .int (softS sf n)), (0, .ref m0), (1, .int (bI bw))]) hx hb dX7_hittingSet_4 rfl hl (by decide) rfl (fun ls hl => ?_)
  refine lv_bipush (v := (-9)) hx hb dX7_hittingSet_5 (by decide) ?_
  refine lv_istore_n (lv' := [(3, .int (-9)), (2, .int (softS sf n)), (0, .ref m0), (1, .int (bI bw))]) hx hb dX7_hittingSet_7 rfl hl (by decide) rfl (fun ls hl => ?_)
  refine lv_iconst (v := 0) hx hb dX7_hittingSet_8 (by decide) ?_
  refine lv_istore (lv' := [(4, .int 0), (3, .int (-9)), (2, .int (softS sf n)), (0, .ref m0), (1, .int (bI bw))]) hx hb dX7_hittingSet_9 hl (by decide) rfl (fun ls hl => ?_)
  refine lv_iconst (v := 0) hx hb dX7_hittingSet_11 (by decide) ?_
  refine lv_istore (lv' := [(5, .int 0), (4, .int 0), (3, .int (-9)), (2, .int (softS sf n)), (0, .ref m0), (1, .int (bI bw))]) hx hb dX7_hittingSet_12 hl (by decide) rfl (fun ls hl => ?_)
  have L14 : ∀ (kf : Nat) (j : Nat) (best bc : Int32) (H : Heap) (locs : List Loc) (ls : Array Slot), 1024 - j < kf → (j ≤ 1024) → (best = (hsM (fun z => if bw = true then wtM (fun c => cA sf c 5) (nI z) n else bcM (nI z) 10) (fun z => subB (nI z) (softS sf n)) (fun z => hitM (fun k => sf (64 + k)) (nI z) un) j).1) → (bc = (hsM (fun z => if bw = true then wtM (fun c => cA sf c 5) (nI z) n else bcM (nI z) 10) (fun z => subB (nI z) (softS sf n)) (fun z => hitM (fun k => sf (64 + k)) (nI z) un) j).2) → va_P G.1 vwCl [(m0, OB 7 [.int th, .ref a1, .ref a2, .ref a3, .int (nI ud), .ref a5, .ref a6, .ref a7, .int (nI ln), .int (nI nx), .int (nI ts), .int tk, .int vl, .int er, .ref a14, .int rq, .ref a16]), (a1, AI G 568 sf)] H → va_D A [(m0, OB 7 [.int th, .ref a1, .ref a2, .ref a3, .int (nI ud), .ref a5, .ref a6, .ref a7, .int (nI ln), .int (nI nx), .int (nI ts), .int tk, .int vl, .int er, .ref a14, .int rq, .ref a16]), (a1, AI G 568 sf)] → va_S A s.heap H locs → lv_has ls 7 [(0, .ref m0), (1, .int (bI bw)), (2, .int (softS sf n)), (3, .int best), (4, .int bc), (5, .int (nI j))] → W p l e rmX7_hittingSet s m ([.ref m0, .int (bI bw)] : List Value).toArray below meth c H locs 0 0 Q (F0 m 14 ls []) := by
    intro kf
    induction kf with
    | zero => intro j best bc H locs ls h; exact absurd h (Nat.not_lt_zero _)
    | succ kf ih =>
      intro j best bc H locs ls hk hi ha hb9 hP hD hS hl
      refine lv_iload hx hb dX7_hittingSet_14 (lv_at hl 5 rfl) ?_
      refine lv_sipush (v := 1024) hx hb dX7_hittingSet_16 (by decide) ?_
      refine lv_icmp_ge (tgt := 86) hx hb dX7_hittingSet_19 (by decide) (fun c_19 => ?_) (fun c_19 => ?_)
      ·
        have c_19 : 1024 ≤ j := (nI_leI (a := 1024) (b := j) (by omega) (by omega)).mp c_19
        refine lv_iload_n hx hb dX7_hittingSet_86 rfl (lv_at hl 3 rfl) ?_
        exact ret best _ _ _ _ _ _ _ (Nat.le_of_ble_eq_true rfl) (Nat.le_of_ble_eq_true rfl) (rfl) (⟨by rw [ha, show j = 1024 by omega], rfl⟩) (hP.sub (ws' := [(m0, OB 7 [.int th, .ref a1, .ref a2, .ref a3, .int (nI ud), .ref a5, .ref a6, .ref a7, .int (nI ln), .int (nI nx), .int (nI ts), .int tk, .int vl, .int er, .ref a14, .int rq, .ref a16]), (a1, AI G 568 sf)]) [0, 1] rfl) (hD.sub (ws' := [(m0, OB 7 [.int th, .ref a1, .ref a2, .ref a3, .int (nI ud), .ref a5, .ref a6, .ref a7, .int (nI ln), .int (nI nx), .int (nI ts), .int tk, .int vl, .int er, .ref a14, .int rq, .ref a16]), (a1, AI G 568 sf)]) [0, 1] (by decide) rfl) hS dX7_hittingSet_87
      ·
        have c_19 : j < 1024 := by have h9 := mt (nI_leI (a := 1024) (b := j) (by omega) (by omega)).mpr c_19; omega
        refine lv_iload_n hx hb dX7_hittingSet_22 rfl (lv_at hl 1 rfl) ?_
        refine wb_eq (tgt := 35) hx hb dX7_hittingSet_23 (by decide) (fun c_23 => ?_) (fun c_23 => ?_)
        ·
          refine lv_iload hx hb dX7_hittingSet_35 (lv_at hl 5 rfl) ?_
          refine call_Si (rest := []) (As := [.int (nI j)]) (wr := [(m0, OB 7 [.int th, .ref a1, .ref a2, .ref a3, .int (nI ud), .ref a5, .ref a6, .ref a7, .int (nI ln), .int (nI nx), .int (nI ts), .int tk, .int vl, .int er, .ref a14, .int rq, .ref a16]), (a1, AI G 568 sf)]) (c1 := 0) (s1 := 0) ⟨hx, hb, hml, hown, hts⟩ (c_X7_bitCount l G (nI j) ) (va_cwS 1 hts gX7_hittingSet_X7_bitCount rfl rfl rfl (by decide +kernel) ⟨Nat.le_of_ble_eq_true rfl, Nat.le_of_ble_eq_true rfl⟩) hK hN hSS hP hD hS hA [] [0, 1] rfl rfl (by decide) (by decide) (by decide) rfl hl.1 rfl (Nat.le_of_ble_eq_true rfl) dX7_hittingSet_37 ⟨Nat.le_of_ble_eq_true rfl, Nat.le_of_ble_eq_true rfl⟩ rfl rfl (fun r_37 u_37 H locs hpo hP hD hS => ?_)
          obtain ⟨hr9, rfl⟩ := hpo
          subst r_37
          have hP : va_P G.1 vwCl [(m0, OB 7 [.int th, .ref a1, .ref a2, .ref a3, .int (nI ud), .ref a5, .ref a6, .ref a7, .int (nI ln), .int (nI nx), .int (nI ts), .int tk, .int vl, .int er, .ref a14, .int rq, .ref a16]), (a1, AI G 568 sf)] H := hP
          have hD : va_D A [(m0, OB 7 [.int th, .ref a1, .ref a2, .ref a3, .int (nI ud), .ref a5, .ref a6, .ref a7, .int (nI ln), .int (nI nx), .int (nI ts), .int tk, .int vl, .int er, .ref a14, .int rq, .ref a16]), (a1, AI G 568 sf)] := hD
          refine lv_istore (lv' := [(6, .int (bcM (nI j) 10)), (0, .ref m0), (1, .int (bI bw)), (2, .int (softS sf n)), (3, .int best), (4, .int bc), (5, .int (nI j))]) hx hb dX7_hittingSet_40 hl (by decide) rfl (fun ls hl => ?_)
          refine lv_iload hx hb dX7_hittingSet_42 (lv_at hl 6 rfl) ?_
          refine lv_iload_n hx hb dX7_hittingSet_44 rfl (lv_at hl 3 rfl) ?_
          refine lv_iconst (v := (-1)) hx hb dX7_hittingSet_45 (by decide) ?_
          refine wn_inot hx hb rfl dX7_hittingSet_46 ?_
          refine lv_iand hx hb dX7_hittingSet_47 ?_
          refine lv_if_ne (tgt := 80) hx hb dX7_hittingSet_48 (by decide) (fun c_48 => ?_) (fun c_48 => ?_)
          ·
            have c_48 : subB (nI (j)) (softS sf n) = false := by simpa [subB] using c_48
            refine lv_iinc (v := nI (j + 1)) (lv' := [(5, .int (nI (j + 1))), (6, .int (bcM (nI j) 10)), (0, .ref m0), (1, .int (bI bw)), (2, .int (softS sf n)), (3, .int best), (4, .int bc)]) hx hb dX7_hittingSet_80 hl (k := 6) rfl (nI_inc (j) 1) (by decide) rfl (fun ls hl => ?_)
            refine lv_goto (tgt := 14) hx hb dX7_hittingSet_83 (by decide) ?_
            exact ih (j + 1) best bc _ _ _ (by omega) (by omega) (by simp only [hsM, ← ha, ← hb9]; simp [c_19, c_23, c_48]) (by simp only [hsM, ← ha, ← hb9]; simp [c_19, c_23, c_48]) (hP.sub (ws' := [(m0, OB 7 [.int th, .ref a1, .ref a2, .ref a3, .int (nI ud), .ref a5, .ref a6, .ref a7, .int (nI ln), .int (nI nx), .int (nI ts), .int tk, .int vl, .int er, .ref a14, .int rq, .ref a16]), (a1, AI G 568 sf)]) [0, 1] rfl) (hD.sub (ws' := [(m0, OB 7 [.int th, .ref a1, .ref a2, .ref a3, .int (nI ud), .ref a5, .ref a6, .ref a7, .int (nI ln), .int (nI nx), .int (nI ts), .int tk, .int vl, .int er, .ref a14, .int rq, .ref a16]), (a1, AI G 568 sf)]) [0, 1] (by decide) rfl) hS (lv_sub (l' := [(0, .ref m0), (1, .int (bI bw)), (2, .int (softS sf n)), (3, .int best), (4, .int bc), (5, .int (nI (j + 1)))]) hl [2, 3, 4, 5, 6, 0] rfl)
          ·
            have c_48 : subB (nI (j)) (softS sf n) = true := by simpa [subB] using c_48
            refine lv_iload_n hx hb dX7_hittingSet_51 rfl (lv_at hl 4 rfl) ?_
            refine lv_bipush (v := (-9)) hx hb dX7_hittingSet_52 (by decide) ?_
            refine lv_icmp_eq (tgt := 64) hx hb dX7_hittingSet_54 (by decide) (fun c_54 => ?_) (fun c_54 => ?_)
            ·
              refine lv_aload_n hx hb dX7_hittingSet_64 rfl (lv_at hl 1 rfl) ?_
              refine lv_iload hx hb dX7_hittingSet_65 (lv_at hl 6 rfl) ?_
              refine call_Vi (rest := []) (As := [.int (nI j)]) (wr := []) (c1 := 0) (s1 := 0) ⟨hx, hb, hml, hown, hts⟩ (c_X7_hitsAll l G m0 a1 a2 a3 a5 a6 a7 a14 a16 th ud ln nx ts tk vl er rq sf un (nI j) (by first | assumption | omega) (by first | assumption | omega)) (cwV 1 hts gX7_hittingSet_X7_hitsAll rfl rfl rfl (by decide +kernel) ⟨Nat.le_of_ble_eq_true rfl, Nat.le_of_ble_eq_true rfl⟩) hK hN hSS hP hD hS hA 0 7 rfl rfl rfl [0, 1] [] rfl rfl (by decide) (by decide) (by decide) rfl hl.1 rfl (Nat.le_of_ble_eq_true rfl) dX7_hittingSet_67 ⟨Nat.le_of_ble_eq_true rfl, Nat.le_of_ble_eq_true rfl⟩ rfl rfl (fun r_67 u_67 H locs hpo hP hD hS => ?_)
              obtain ⟨hr9, rfl⟩ := hpo
              subst r_67
              have hP : va_P G.1 vwCl [(m0, OB 7 [.int th, .ref a1, .ref a2, .ref a3, .int (nI ud), .ref a5, .ref a6, .ref a7, .int (nI ln), .int (nI nx), .int (nI ts), .int tk, .int vl, .int er, .ref a14, .int rq, .ref a16]), (a1, AI G 568 sf)] H := hP
              have hD : va_D A [(m0, OB 7 [.int th, .ref a1, .ref a2, .ref a3, .int (nI ud), .ref a5, .ref a6, .ref a7, .int (nI ln), .int (nI nx), .int (nI ts), .int tk, .int vl, .int er, .ref a14, .int rq, .ref a16]), (a1, AI G 568 sf)] := hD
              refine wb_eq (tgt := 80) hx hb dX7_hittingSet_70 (by decide) (fun c_70 => ?_) (fun c_70 => ?_)
              ·
                refine lv_iinc (v := nI (j + 1)) (lv' := [(5, .int (nI (j + 1))), (6, .int (bcM (nI j) 10)), (0, .ref m0), (1, .int (bI bw)), (2, .int (softS sf n)), (3, .int best), (4, .int bc)]) hx hb dX7_hittingSet_80 hl (k := 6) rfl (nI_inc (j) 1) (by decide) rfl (fun ls hl => ?_)
                refine lv_goto (tgt := 14) hx hb dX7_hittingSet_83 (by decide) ?_
                exact ih (j + 1) best bc _ _ _ (by omega) (by omega) (by simp only [hsM, ← ha, ← hb9]; simp [c_19, c_23, c_48, c_54, c_70]) (by simp only [hsM, ← ha, ← hb9]; simp [c_19, c_23, c_48, c_54, c_70]) (hP.sub (ws' := [(m0, OB 7 [.int th, .ref a1, .ref a2, .ref a3, .int (nI ud), .ref a5, .ref a6, .ref a7, .int (nI ln), .int (nI nx), .int (nI ts), .int tk, .int vl, .int er, .ref a14, .int rq, .ref a16]), (a1, AI G 568 sf)]) [0, 1] rfl) (hD.sub (ws' := [(m0, OB 7 [.int th, .ref a1, .ref a2, .ref a3, .int (nI ud), .ref a5, .ref a6, .ref a7, .int (nI ln), .int (nI nx), .int (nI ts), .int tk, .int vl, .int er, .ref a14, .int rq, .ref a16]), (a1, AI G 568 sf)]) [0, 1] (by decide) rfl) hS (lv_sub (l' := [(0, .ref m0), (1, .int (bI bw)), (2, .int (softS sf n)), (3, .int best), (4, .int bc), (5, .int (nI (j + 1)))]) hl [2, 3, 4, 5, 6, 0] rfl)
              ·
                refine lv_iload hx hb dX7_hittingSet_73 (lv_at hl 6 rfl) ?_
                refine lv_istore_n (lv' := [(3, .int (nI j)), (6, .int (bcM (nI j) 10)), (0, .ref m0), (1, .int (bI bw)), (2, .int (softS sf n)), (4, .int bc), (5, .int (nI j))]) hx hb dX7_hittingSet_75 rfl hl (by decide) rfl (fun ls hl => ?_)
                refine lv_iload hx hb dX7_hittingSet_76 (lv_at hl 1 rfl) ?_
                refine lv_istore (lv' := [(4, .int (bcM (nI j) 10)), (3, .int (nI j)), (6, .int (bcM (nI j) 10)), (0, .ref m0), (1, .int (bI bw)), (2, .int (softS sf n)), (5, .int (nI j))]) hx hb dX7_hittingSet_78 hl (by decide) rfl (fun ls hl => ?_)
                refine lv_iinc (v := nI (j + 1)) (lv' := [(5, .int (nI (j + 1))), (4, .int (bcM (nI j) 10)), (3, .int (nI j)), (6, .int (bcM (nI j) 10)), (0, .ref m0), (1, .int (bI bw)), (2, .int (softS sf n))]) hx hb dX7_hittingSet_80 hl (k := 6) rfl (nI_inc (j) 1) (by decide) rfl (fun ls hl => ?_)
                refine lv_goto (tgt := 14) hx hb dX7_hittingSet_83 (by decide) ?_
                exact ih (j + 1) (nI j) (bcM (nI j) 10) _ _ _ (by omega) (by omega) (by simp only [hsM, ← ha, ← hb9]; simp [c_19, c_23, c_48, c_54, c_70]) (by simp only [hsM, ← ha, ← hb9]; simp [c_19, c_23, c_48, c_54, c_70]) (hP.sub (ws' := [(m0, OB 7 [.int th, .ref a1, .ref a2, .ref a3, .int (nI ud), .ref a5, .ref a6, .ref a7, .int (nI ln), .int (nI nx), .int (nI ts), .int tk, .int vl, .int er, .ref a14, .int rq, .ref a16]), (a1, AI G 568 sf)]) [0, 1] rfl) (hD.sub (ws' := [(m0, OB 7 [.int th, .ref a1, .ref a2, .ref a3, .int (nI ud), .ref a5, .ref a6, .ref a7, .int (nI ln), .int (nI nx), .int (nI ts), .int tk, .int vl, .int er, .ref a14, .int rq, .ref a16]), (a1, AI G 568 sf)]) [0, 1] (by decide) rfl) hS (lv_sub (l' := [(0, .ref m0), (1, .int (bI bw)), (2, .int (softS sf n)), (3, .int (nI j)), (4, .int (bcM (nI j) 10)), (5, .int (nI (j + 1)))]) hl [4, 5, 6, 2, 1, 0] rfl)
            ·
              refine lv_iload hx hb dX7_hittingSet_57 (lv_at hl 0 rfl) ?_
              refine lv_iload hx hb dX7_hittingSet_59 (lv_at hl 5 rfl) ?_
              refine lv_icmp_ge (tgt := 80) hx hb dX7_hittingSet_61 (by decide) (fun c_61 => ?_) (fun c_61 => ?_)
              ·
                have c_61 : ¬ (bcM (nI j) 10) < bc := Int32.not_lt.mpr c_61
                refine lv_iinc (v := nI (j + 1)) (lv' := [(5, .int (nI (j + 1))), (6, .int (bcM (nI j) 10)), (0, .ref m0), (1, .int (bI bw)), (2, .int (softS sf n)), (3, .int best), (4, .int bc)]) hx hb dX7_hittingSet_80 hl (k := 6) rfl (nI_inc (j) 1) (by decide) rfl (fun ls hl => ?_)
                refine lv_goto (tgt := 14) hx hb dX7_hittingSet_83 (by decide) ?_
                exact ih (j + 1) best bc _ _ _ (by omega) (by omega) (by simp only [hsM, ← ha, ← hb9]; simp [c_19, c_23, c_48, c_54, c_61]) (by simp only [hsM, ← ha, ← hb9]; simp [c_19, c_23, c_48, c_54, c_61]) (hP.sub (ws' := [(m0, OB 7 [.int th, .ref a1, .ref a2, .ref a3, .int (nI ud), .ref a5, .ref a6, .ref a7, .int (nI ln), .int (nI nx), .int (nI ts), .int tk, .int vl, .int er, .ref a14, .int rq, .ref a16]), (a1, AI G 568 sf)]) [0, 1] rfl) (hD.sub (ws' := [(m0, OB 7 [.int th, .ref a1, .ref a2, .ref a3, .int (nI ud), .ref a5, .ref a6, .ref a7, .int (nI ln), .int (nI nx), .int (nI ts), .int tk, .int vl, .int er, .ref a14, .int rq, .ref a16]), (a1, AI G 568 sf)]) [0, 1] (by decide) rfl) hS (lv_sub (l' := [(0, .ref m0), (1, .int (bI bw)), (2, .int (softS sf n)), (3, .int best), (4, .int bc), (5, .int (nI (j + 1)))]) hl [2, 3, 4, 5, 6, 0] rfl)
              ·
                have c_61 : (bcM (nI j) 10) < bc := Int32.not_le.mp c_61
                refine lv_aload_n hx hb dX7_hittingSet_64 rfl (lv_at hl 1 rfl) ?_
                refine lv_iload hx hb dX7_hittingSet_65 (lv_at hl 6 rfl) ?_
                refine call_Vi (rest := []) (As := [.int (nI j)]) (wr := []) (c1 := 0) (s1 := 0) ⟨hx, hb, hml, hown, hts⟩ (c_X7_hitsAll l G m0 a1 a2 a3 a5 a6 a7 a14 a16 th ud ln nx ts tk vl er rq sf un (nI j) (by first | assumption | omega) (by first | assumption | omega)) (cwV 1 hts gX7_hittingSet_X7_hitsAll rfl rfl rfl (by decide +kernel) ⟨Nat.le_of_ble_eq_true rfl, Nat.le_of_ble_eq_true rfl⟩) hK hN hSS hP hD hS hA 0 7 rfl rfl rfl [0, 1] [] rfl rfl (by decide) (by decide) (by decide) rfl hl.1 rfl (Nat.le_of_ble_eq_true rfl) dX7_hittingSet_67 ⟨Nat.le_of_ble_eq_true rfl, Nat.le_of_ble_eq_true rfl⟩ rfl rfl (fun r_67 u_67 H locs hpo hP hD hS => ?_)
                obtain ⟨hr9, rfl⟩ := hpo
                subst r_67
                have hP : va_P G.1 vwCl [(m0, OB 7 [.int th, .ref a1, .ref a2, .ref a3, .int (nI ud), .ref a5, .ref a6, .ref a7, .int (nI ln), .int (nI nx), .int (nI ts), .int tk, .int vl, .int er, .ref a14, .int rq, .ref a16]), (a1, AI G 568 sf)] H := hP
                have hD : va_D A [(m0, OB 7 [.int th, .ref a1, .ref a2, .ref a3, .int (nI ud), .ref a5, .ref a6, .ref a7, .int (nI ln), .int (nI nx), .int (nI ts), .int tk, .int vl, .int er, .ref a14, .int rq, .ref a16]), (a1, AI G 568 sf)] := hD
                refine wb_eq (tgt := 80) hx hb dX7_hittingSet_70 (by decide) (fun c_70 => ?_) (fun c_70 => ?_)
                ·
                  refine lv_iinc (v := nI (j + 1)) (lv' := [(5, .int (nI (j + 1))), (6, .int (bcM (nI j) 10)), (0, .ref m0), (1, .int (bI bw)), (2, .int (softS sf n)), (3, .int best), (4, .int bc)]) hx hb dX7_hittingSet_80 hl (k := 6) rfl (nI_inc (j) 1) (by decide) rfl (fun ls hl => ?_)
                  refine lv_goto (tgt := 14) hx hb dX7_hittingSet_83 (by decide) ?_
                  exact ih (j + 1) best bc _ _ _ (by omega) (by omega) (by simp only [hsM, ← ha, ← hb9]; simp [c_19, c_23, c_48, c_54, c_61, c_70]) (by simp only [hsM, ← ha, ← hb9]; simp [c_19, c_23, c_48, c_54, c_61, c_70]) (hP.sub (ws' := [(m0, OB 7 [.int th, .ref a1, .ref a2, .ref a3, .int (nI ud), .ref a5, .ref a6, .ref a7, .int (nI ln), .int (nI nx), .int (nI ts), .int tk, .int vl, .int er, .ref a14, .int rq, .ref a16]), (a1, AI G 568 sf)]) [0, 1] rfl) (hD.sub (ws' := [(m0, OB 7 [.int th, .ref a1, .ref a2, .ref a3, .int (nI ud), .ref a5, .ref a6, .ref a7, .int (nI ln), .int (nI nx), .int (nI ts), .int tk, .int vl, .int er, .ref a14, .int rq, .ref a16]), (a1, AI G 568 sf)]) [0, 1] (by decide) rfl) hS (lv_sub (l' := [(0, .ref m0), (1, .int (bI bw)), (2, .int (softS sf n)), (3, .int best), (4, .int bc), (5, .int (nI (j + 1)))]) hl [2, 3, 4, 5, 6, 0] rfl)
                ·
                  refine lv_iload hx hb dX7_hittingSet_73 (lv_at hl 6 rfl) ?_
                  refine lv_istore_n (lv' := [(3, .int (nI j)), (6, .int (bcM (nI j) 10)), (0, .ref m0), (1, .int (bI bw)), (2, .int (softS sf n)), (4, .int bc), (5, .int (nI j))]) hx hb dX7_hittingSet_75 rfl hl (by decide) rfl (fun ls hl => ?_)
                  refine lv_iload hx hb dX7_hittingSet_76 (lv_at hl 1 rfl) ?_
                  refine lv_istore (lv' := [(4, .int (bcM (nI j) 10)), (3, .int (nI j)), (6, .int (bcM (nI j) 10)), (0, .ref m0), (1, .int (bI bw)), (2, .int (softS sf n)), (5, .int (nI j))]) hx hb dX7_hittingSet_78 hl (by decide) rfl (fun ls hl => ?_)
                  refine lv_iinc (v := nI (j + 1)) (lv' := [(5, .int (nI (j + 1))), (4, .int (bcM (nI j) 10)), (3, .int (nI j)), (6, .int (bcM (nI j) 10)), (0, .ref m0), (1, .int (bI bw)), (2, .int (softS sf n))]) hx hb dX7_hittingSet_80 hl (k := 6) rfl (nI_inc (j) 1) (by decide) rfl (fun ls hl => ?_)
                  refine lv_goto (tgt := 14) hx hb dX7_hittingSet_83 (by decide) ?_
                  exact ih (j + 1) (nI j) (bcM (nI j) 10) _ _ _ (by omega) (by omega) (by simp only [hsM, ← ha, ← hb9]; simp [c_19, c_23, c_48, c_54, c_61, c_70]) (by simp only [hsM, ← ha, ← hb9]; simp [c_19, c_23, c_48, c_54, c_61, c_70]) (hP.sub (ws' := [(m0, OB 7 [.int th, .ref a1, .ref a2, .ref a3, .int (nI ud), .ref a5, .ref a6, .ref a7, .int (nI ln), .int (nI nx), .int (nI ts), .int tk, .int vl, .int er, .ref a14, .int rq, .ref a16]), (a1, AI G 568 sf)]) [0, 1] rfl) (hD.sub (ws' := [(m0, OB 7 [.int th, .ref a1, .ref a2, .ref a3, .int (nI ud), .ref a5, .ref a6, .ref a7, .int (nI ln), .int (nI nx), .int (nI ts), .int tk, .int vl, .int er, .ref a14, .int rq, .ref a16]), (a1, AI G 568 sf)]) [0, 1] (by decide) rfl) hS (lv_sub (l' := [(0, .ref m0), (1, .int (bI bw)), (2, .int (softS sf n)), (3, .int (nI j)), (4, .int (bcM (nI j) 10)), (5, .int (nI (j + 1)))]) hl [4, 5, 6, 2, 1, 0] rfl)
        ·
          refine lv_aload_n hx hb dX7_hittingSet_26 rfl (lv_at hl 0 rfl) ?_
          refine lv_iload hx hb dX7_hittingSet_27 (lv_at hl 5 rfl) ?_
          refine call_Vi (rest := []) (As := [.int (nI j)]) (wr := []) (c1 := 0) (s1 := 0) ⟨hx, hb, hml, hown, hts⟩ (c_X7_weightOf l G m0 a1 a2 a3 a5 a6 a7 a14 a16 th ud ln nx ts tk vl er rq sf n (nI j) (by first | assumption | omega) (by first | assumption | omega)) (cwV 1 hts gX7_hittingSet_X7_weightOf rfl rfl rfl (by decide +kernel) ⟨Nat.le_of_ble_eq_true rfl, Nat.le_of_ble_eq_true rfl⟩) hK hN hSS hP hD hS hA 0 7 rfl rfl rfl [0, 1] [] rfl rfl (by decide) (by decide) (by decide) rfl hl.1 rfl (Nat.le_of_ble_eq_true rfl) dX7_hittingSet_29 ⟨Nat.le_of_ble_eq_true rfl, Nat.le_of_ble_eq_true rfl⟩ rfl rfl (fun r_29 u_29 H locs hpo hP hD hS => ?_)
          obtain ⟨hr9, rfl⟩ := hpo
          subst r_29
          have hP : va_P G.1 vwCl [(m0, OB 7 [.int th, .ref a1, .ref a2, .ref a3, .int (nI ud), .ref a5, .ref a6, .ref a7, .int (nI ln), .int (nI nx), .int (nI ts), .int tk, .int vl, .int er, .ref a14, .int rq, .ref a16]), (a1, AI G 568 sf)] H := hP
          have hD : va_D A [(m0, OB 7 [.int th, .ref a1, .ref a2, .ref a3, .int (nI ud), .ref a5, .ref a6, .ref a7, .int (nI ln), .int (nI nx), .int (nI ts), .int tk, .int vl, .int er, .ref a14, .int rq, .ref a16]), (a1, AI G 568 sf)] := hD
          refine lv_goto (tgt := 40) hx hb dX7_hittingSet_32 (by decide) ?_
          refine lv_istore (lv' := [(6, .int (wtM (fun c => cA sf c 5) (nI j) n)), (0, .ref m0), (1, .int (bI bw)), (2, .int (softS sf n)), (3, .int best), (4, .int bc), (5, .int (nI j))]) hx hb dX7_hittingSet_40 hl (by decide) rfl (fun ls hl => ?_)
          refine lv_iload hx hb dX7_hittingSet_42 (lv_at hl 6 rfl) ?_
          refine lv_iload_n hx hb dX7_hittingSet_44 rfl (lv_at hl 3 rfl) ?_
          refine lv_iconst (v := (-1)) hx hb dX7_hittingSet_45 (by decide) ?_
          refine wn_inot hx hb rfl dX7_hittingSet_46 ?_
          refine lv_iand hx hb dX7_hittingSet_47 ?_
          refine lv_if_ne (tgt := 80) hx hb dX7_hittingSet_48 (by decide) (fun c_48 => ?_) (fun c_48 => ?_)
          ·
            have c_48 : subB (nI (j)) (softS sf n) = false := by simpa [subB] using c_48
            refine lv_iinc (v := nI (j + 1)) (lv' := [(5, .int (nI (j + 1))), (6, .int (wtM (fun c => cA sf c 5) (nI j) n)), (0, .ref m0), (1, .int (bI bw)), (2, .int (softS sf n)), (3, .int best), (4, .int bc)]) hx hb dX7_hittingSet_80 hl (k := 6) rfl (nI_inc (j) 1) (by decide) rfl (fun ls hl => ?_)
            refine lv_goto (tgt := 14) hx hb dX7_hittingSet_83 (by decide) ?_
            exact ih (j + 1) best bc _ _ _ (by omega) (by omega) (by simp only [hsM, ← ha, ← hb9]; simp [c_19, c_23, c_48]) (by simp only [hsM, ← ha, ← hb9]; simp [c_19, c_23, c_48]) (hP.sub (ws' := [(m0, OB 7 [.int th, .ref a1, .ref a2, .ref a3, .int (nI ud), .ref a5, .ref a6, .ref a7, .int (nI ln), .int (nI nx), .int (nI ts), .int tk, .int vl, .int er, .ref a14, .int rq, .ref a16]), (a1, AI G 568 sf)]) [0, 1] rfl) (hD.sub (ws' := [(m0, OB 7 [.int th, .ref a1, .ref a2, .ref a3, .int (nI ud), .ref a5, .ref a6, .ref a7, .int (nI ln), .int (nI nx), .int (nI ts), .int tk, .int vl, .int er, .ref a14, .int rq, .ref a16]), (a1, AI G 568 sf)]) [0, 1] (by decide) rfl) hS (lv_sub (l' := [(0, .ref m0), (1, .int (bI bw)), (2, .int (softS sf n)), (3, .int best), (4, .int bc), (5, .int (nI (j + 1)))]) hl [2, 3, 4, 5, 6, 0] rfl)
          ·
            have c_48 : subB (nI (j)) (softS sf n) = true := by simpa [subB] using c_48
            refine lv_iload_n hx hb dX7_hittingSet_51 rfl (lv_at hl 4 rfl) ?_
            refine lv_bipush (v := (-9)) hx hb dX7_hittingSet_52 (by decide) ?_
            refine lv_icmp_eq (tgt := 64) hx hb dX7_hittingSet_54 (by decide) (fun c_54 => ?_) (fun c_54 => ?_)
            ·
              refine lv_aload_n hx hb dX7_hittingSet_64 rfl (lv_at hl 1 rfl) ?_
              refine lv_iload hx hb dX7_hittingSet_65 (lv_at hl 6 rfl) ?_
              refine call_Vi (rest := []) (As := [.int (nI j)]) (wr := []) (c1 := 0) (s1 := 0) ⟨hx, hb, hml, hown, hts⟩ (c_X7_hitsAll l G m0 a1 a2 a3 a5 a6 a7 a14 a16 th ud ln nx ts tk vl er rq sf un (nI j) (by first | assumption | omega) (by first | assumption | omega)) (cwV 1 hts gX7_hittingSet_X7_hitsAll rfl rfl rfl (by decide +kernel) ⟨Nat.le_of_ble_eq_true rfl, Nat.le_of_ble_eq_true rfl⟩) hK hN hSS hP hD hS hA 0 7 rfl rfl rfl [0, 1] [] rfl rfl (by decide) (by decide) (by decide) rfl hl.1 rfl (Nat.le_of_ble_eq_true rfl) dX7_hittingSet_67 ⟨Nat.le_of_ble_eq_true rfl, Nat.le_of_ble_eq_true rfl⟩ rfl rfl (fun r_67 u_67 H locs hpo hP hD hS => ?_)
              obtain ⟨hr9, rfl⟩ := hpo
              subst r_67
              have hP : va_P G.1 vwCl [(m0, OB 7 [.int th, .ref a1, .ref a2, .ref a3, .int (nI ud), .ref a5, .ref a6, .ref a7, .int (nI ln), .int (nI nx), .int (nI ts), .int tk, .int vl, .int er, .ref a14, .int rq, .ref a16]), (a1, AI G 568 sf)] H := hP
              have hD : va_D A [(m0, OB 7 [.int th, .ref a1, .ref a2, .ref a3, .int (nI ud), .ref a5, .ref a6, .ref a7, .int (nI ln), .int (nI nx), .int (nI ts), .int tk, .int vl, .int er, .ref a14, .int rq, .ref a16]), (a1, AI G 568 sf)] := hD
              refine wb_eq (tgt := 80) hx hb dX7_hittingSet_70 (by decide) (fun c_70 => ?_) (fun c_70 => ?_)
              ·
                refine lv_iinc (v := nI (j + 1)) (lv' := [(5, .int (nI (j + 1))), (6, .int (wtM (fun c => cA sf c 5) (nI j) n)), (0, .ref m0), (1, .int (bI bw)), (2, .int (softS sf n)), (3, .int best), (4, .int bc)]) hx hb dX7_hittingSet_80 hl (k := 6) rfl (nI_inc (j) 1) (by decide) rfl (fun ls hl => ?_)
                refine lv_goto (tgt := 14) hx hb dX7_hittingSet_83 (by decide) ?_
                exact ih (j + 1) best bc _ _ _ (by omega) (by omega) (by simp only [hsM, ← ha, ← hb9]; simp [c_19, c_23, c_48, c_54, c_70]) (by simp only [hsM, ← ha, ← hb9]; simp [c_19, c_23, c_48, c_54, c_70]) (hP.sub (ws' := [(m0, OB 7 [.int th, .ref a1, .ref a2, .ref a3, .int (nI ud), .ref a5, .ref a6, .ref a7, .int (nI ln), .int (nI nx), .int (nI ts), .int tk, .int vl, .int er, .ref a14, .int rq, .ref a16]), (a1, AI G 568 sf)]) [0, 1] rfl) (hD.sub (ws' := [(m0, OB 7 [.int th, .ref a1, .ref a2, .ref a3, .int (nI ud), .ref a5, .ref a6, .ref a7, .int (nI ln), .int (nI nx), .int (nI ts), .int tk, .int vl, .int er, .ref a14, .int rq, .ref a16]), (a1, AI G 568 sf)]) [0, 1] (by decide) rfl) hS (lv_sub (l' := [(0, .ref m0), (1, .int (bI bw)), (2, .int (softS sf n)), (3, .int best), (4, .int bc), (5, .int (nI (j + 1)))]) hl [2, 3, 4, 5, 6, 0] rfl)
              ·
                refine lv_iload hx hb dX7_hittingSet_73 (lv_at hl 6 rfl) ?_
                refine lv_istore_n (lv' := [(3, .int (nI j)), (6, .int (wtM (fun c => cA sf c 5) (nI j) n)), (0, .ref m0), (1, .int (bI bw)), (2, .int (softS sf n)), (4, .int bc), (5, .int (nI j))]) hx hb dX7_hittingSet_75 rfl hl (by decide) rfl (fun ls hl => ?_)
                refine lv_iload hx hb dX7_hittingSet_76 (lv_at hl 1 rfl) ?_
                refine lv_istore (lv' := [(4, .int (wtM (fun c => cA sf c 5) (nI j) n)), (3, .int (nI j)), (6, .int (wtM (fun c => cA sf c 5) (nI j) n)), (0, .ref m0), (1, .int (bI bw)), (2, .int (softS sf n)), (5, .int (nI j))]) hx hb dX7_hittingSet_78 hl (by decide) rfl (fun ls hl => ?_)
                refine lv_iinc (v := nI (j + 1)) (lv' := [(5, .int (nI (j + 1))), (4, .int (wtM (fun c => cA sf c 5) (nI j) n)), (3, .int (nI j)), (6, .int (wtM (fun c => cA sf c 5) (nI j) n)), (0, .ref m0), (1, .int (bI bw)), (2, .int (softS sf n))]) hx hb dX7_hittingSet_80 hl (k := 6) rfl (nI_inc (j) 1) (by decide) rfl (fun ls hl => ?_)
                refine lv_goto (tgt := 14) hx hb dX7_hittingSet_83 (by decide) ?_
                exact ih (j + 1) (nI j) (wtM (fun c => cA sf c 5) (nI j) n) _ _ _ (by omega) (by omega) (by simp only [hsM, ← ha, ← hb9]; simp [c_19, c_23, c_48, c_54, c_70]) (by simp only [hsM, ← ha, ← hb9]; simp [c_19, c_23, c_48, c_54, c_70]) (hP.sub (ws' := [(m0, OB 7 [.int th, .ref a1, .ref a2, .ref a3, .int (nI ud), .ref a5, .ref a6, .ref a7, .int (nI ln), .int (nI nx), .int (nI ts), .int tk, .int vl, .int er, .ref a14, .int rq, .ref a16]), (a1, AI G 568 sf)]) [0, 1] rfl) (hD.sub (ws' := [(m0, OB 7 [.int th, .ref a1, .ref a2, .ref a3, .int (nI ud), .ref a5, .ref a6, .ref a7, .int (nI ln), .int (nI nx), .int (nI ts), .int tk, .int vl, .int er, .ref a14, .int rq, .ref a16]), (a1, AI G 568 sf)]) [0, 1] (by decide) rfl) hS (lv_sub (l' := [(0, .ref m0), (1, .int (bI bw)), (2, .int (softS sf n)), (3, .int (nI j)), (4, .int (wtM (fun c => cA sf c 5) (nI j) n)), (5, .int (nI (j + 1)))]) hl [4, 5, 6, 2, 1, 0] rfl)
            ·
              refine lv_iload hx hb dX7_hittingSet_57 (lv_at hl 0 rfl) ?_
              refine lv_iload hx hb dX7_hittingSet_59 (lv_at hl 5 rfl) ?_
              refine lv_icmp_ge (tgt := 80) hx hb dX7_hittingSet_61 (by decide) (fun c_61 => ?_) (fun c_61 => ?_)
              ·
                have c_61 : ¬ (wtM (fun c => cA sf c 5) (nI j) n) < bc := Int32.not_lt.mpr c_61
                refine lv_iinc (v := nI (j + 1)) (lv' := [(5, .int (nI (j + 1))), (6, .int (wtM (fun c => cA sf c 5) (nI j) n)), (0, .ref m0), (1, .int (bI bw)), (2, .int (softS sf n)), (3, .int best), (4, .int bc)]) hx hb dX7_hittingSet_80 hl (k := 6) rfl (nI_inc (j) 1) (by decide) rfl (fun ls hl => ?_)
                refine lv_goto (tgt := 14) hx hb dX7_hittingSet_83 (by decide) ?_
                exact ih (j + 1) best bc _ _ _ (by omega) (by omega) (by simp only [hsM, ← ha, ← hb9]; simp [c_19, c_23, c_48, c_54, c_61]) (by simp only [hsM, ← ha, ← hb9]; simp [c_19, c_23, c_48, c_54, c_61]) (hP.sub (ws' := [(m0, OB 7 [.int th, .ref a1, .ref a2, .ref a3, .int (nI ud), .ref a5, .ref a6, .ref a7, .int (nI ln), .int (nI nx), .int (nI ts), .int tk, .int vl, .int er, .ref a14, .int rq, .ref a16]), (a1, AI G 568 sf)]) [0, 1] rfl) (hD.sub (ws' := [(m0, OB 7 [.int th, .ref a1, .ref a2, .ref a3, .int (nI ud), .ref a5, .ref a6, .ref a7, .int (nI ln), .int (nI nx), .int (nI ts), .int tk, .int vl, .int er, .ref a14, .int rq, .ref a16]), (a1, AI G 568 sf)]) [0, 1] (by decide) rfl) hS (lv_sub (l' := [(0, .ref m0), (1, .int (bI bw)), (2, .int (softS sf n)), (3, .int best), (4, .int bc), (5, .int (nI (j + 1)))]) hl [2, 3, 4, 5, 6, 0] rfl)
              ·
                have c_61 : (wtM (fun c => cA sf c 5) (nI j) n) < bc := Int32.not_le.mp c_61
                refine lv_aload_n hx hb dX7_hittingSet_64 rfl (lv_at hl 1 rfl) ?_
                refine lv_iload hx hb dX7_hittingSet_65 (lv_at hl 6 rfl) ?_
                refine call_Vi (rest := []) (As := [.int (nI j)]) (wr := []) (c1 := 0) (s1 := 0) ⟨hx, hb, hml, hown, hts⟩ (c_X7_hitsAll l G m0 a1 a2 a3 a5 a6 a7 a14 a16 th ud ln nx ts tk vl er rq sf un (nI j) (by first | assumption | omega) (by first | assumption | omega)) (cwV 1 hts gX7_hittingSet_X7_hitsAll rfl rfl rfl (by decide +kernel) ⟨Nat.le_of_ble_eq_true rfl, Nat.le_of_ble_eq_true rfl⟩) hK hN hSS hP hD hS hA 0 7 rfl rfl rfl [0, 1] [] rfl rfl (by decide) (by decide) (by decide) rfl hl.1 rfl (Nat.le_of_ble_eq_true rfl) dX7_hittingSet_67 ⟨Nat.le_of_ble_eq_true rfl, Nat.le_of_ble_eq_true rfl⟩ rfl rfl (fun r_67 u_67 H locs hpo hP hD hS => ?_)
                obtain ⟨hr9, rfl⟩ := hpo
                subst r_67
                have hP : va_P G.1 vwCl [(m0, OB 7 [.int th, .ref a1, .ref a2, .ref a3, .int (nI ud), .ref a5, .ref a6, .ref a7, .int (nI ln), .int (nI nx), .int (nI ts), .int tk, .int vl, .int er, .ref a14, .int rq, .ref a16]), (a1, AI G 568 sf)] H := hP
                have hD : va_D A [(m0, OB 7 [.int th, .ref a1, .ref a2, .ref a3, .int (nI ud), .ref a5, .ref a6, .ref a7, .int (nI ln), .int (nI nx), .int (nI ts), .int tk, .int vl, .int er, .ref a14, .int rq, .ref a16]), (a1, AI G 568 sf)] := hD
                refine wb_eq (tgt := 80) hx hb dX7_hittingSet_70 (by decide) (fun c_70 => ?_) (fun c_70 => ?_)
                ·
                  refine lv_iinc (v := nI (j + 1)) (lv' := [(5, .int (nI (j + 1))), (6, .int (wtM (fun c => cA sf c 5) (nI j) n)), (0, .ref m0), (1, .int (bI bw)), (2, .int (softS sf n)), (3, .int best), (4, .int bc)]) hx hb dX7_hittingSet_80 hl (k := 6) rfl (nI_inc (j) 1) (by decide) rfl (fun ls hl => ?_)
                  refine lv_goto (tgt := 14) hx hb dX7_hittingSet_83 (by decide) ?_
                  exact ih (j + 1) best bc _ _ _ (by omega) (by omega) (by simp only [hsM, ← ha, ← hb9]; simp [c_19, c_23, c_48, c_54, c_61, c_70]) (by simp only [hsM, ← ha, ← hb9]; simp [c_19, c_23, c_48, c_54, c_61, c_70]) (hP.sub (ws' := [(m0, OB 7 [.int th, .ref a1, .ref a2, .ref a3, .int (nI ud), .ref a5, .ref a6, .ref a7, .int (nI ln), .int (nI nx), .int (nI ts), .int tk, .int vl, .int er, .ref a14, .int rq, .ref a16]), (a1, AI G 568 sf)]) [0, 1] rfl) (hD.sub (ws' := [(m0, OB 7 [.int th, .ref a1, .ref a2, .ref a3, .int (nI ud), .ref a5, .ref a6, .ref a7, .int (nI ln), .int (nI nx), .int (nI ts), .int tk, .int vl, .int er, .ref a14, .int rq, .ref a16]), (a1, AI G 568 sf)]) [0, 1] (by decide) rfl) hS (lv_sub (l' := [(0, .ref m0), (1, .int (bI bw)), (2, .int (softS sf n)), (3, .int best), (4, .int bc), (5, .int (nI (j + 1)))]) hl [2, 3, 4, 5, 6, 0] rfl)
                ·
                  refine lv_iload hx hb dX7_hittingSet_73 (lv_at hl 6 rfl) ?_
                  refine lv_istore_n (lv' := [(3, .int (nI j)), (6, .int (wtM (fun c => cA sf c 5) (nI j) n)), (0, .ref m0), (1, .int (bI bw)), (2, .int (softS sf n)), (4, .int bc), (5, .int (nI j))]) hx hb dX7_hittingSet_75 rfl hl (by decide) rfl (fun ls hl => ?_)
                  refine lv_iload hx hb dX7_hittingSet_76 (lv_at hl 1 rfl) ?_
                  refine lv_istore (lv' := [(4, .int (wtM (fun c => cA sf c 5) (nI j) n)), (3, .int (nI j)), (6, .int (wtM (fun c => cA sf c 5) (nI j) n)), (0, .ref m0), (1, .int (bI bw)), (2, .int (softS sf n)), (5, .int (nI j))]) hx hb dX7_hittingSet_78 hl (by decide) rfl (fun ls hl => ?_)
                  refine lv_iinc (v := nI (j + 1)) (lv' := [(5, .int (nI (j + 1))), (4, .int (wtM (fun c => cA sf c 5) (nI j) n)), (3, .int (nI j)), (6, .int (wtM (fun c => cA sf c 5) (nI j) n)), (0, .ref m0), (1, .int (bI bw)), (2, .int (softS sf n))]) hx hb dX7_hittingSet_80 hl (k := 6) rfl (nI_inc (j) 1) (by decide) rfl (fun ls hl => ?_)
                  refine lv_goto (tgt := 14) hx hb dX7_hittingSet_83 (by decide) ?_
                  exact ih (j + 1) (nI j) (wtM (fun c => cA sf c 5) (nI j) n) _ _ _ (by omega) (by omega) (by simp only [hsM, ← ha, ← hb9]; simp [c_19, c_23, c_48, c_54, c_61, c_70]) (by simp only [hsM, ← ha, ← hb9]; simp [c_19, c_23, c_48, c_54, c_61, c_70]) (hP.sub (ws' := [(m0, OB 7 [.int th, .ref a1, .ref a2, .ref a3, .int (nI ud), .ref a5, .ref a6, .ref a7, .int (nI ln), .int (nI nx), .int (nI ts), .int tk, .int vl, .int er, .ref a14, .int rq, .ref a16]), (a1, AI G 568 sf)]) [0, 1] rfl) (hD.sub (ws' := [(m0, OB 7 [.int th, .ref a1, .ref a2, .ref a3, .int (nI ud), .ref a5, .ref a6, .ref a7, .int (nI ln), .int (nI nx), .int (nI ts), .int tk, .int vl, .int er, .ref a14, .int rq, .ref a16]), (a1, AI G 568 sf)]) [0, 1] (by decide) rfl) hS (lv_sub (l' := [(0, .ref m0), (1, .int (bI bw)), (2, .int (softS sf n)), (3, .int (nI j)), (4, .int (wtM (fun c => cA sf c 5) (nI j) n)), (5, .int (nI (j + 1)))]) hl [4, 5, 6, 2, 1, 0] rfl)
  exact L14 ((1024 - 0) + 1) 0 (-9) 0 _ _ _ (Nat.lt_succ_self _) (Nat.zero_le _) (rfl) (rfl) (hP.sub (ws' := [(m0, OB 7 [.int th, .ref a1, .ref a2, .ref a3, .int (nI ud), .ref a5, .ref a6, .ref a7, .int (nI ln), .int (nI nx), .int (nI ts), .int tk, .int vl, .int er, .ref a14, .int rq, .ref a16]), (a1, AI G 568 sf)]) [0, 1] rfl) (hD.sub (ws' := [(m0, OB 7 [.int th, .ref a1, .ref a2, .ref a3, .int (nI ud), .ref a5, .ref a6, .ref a7, .int (nI ln), .int (nI nx), .int (nI ts), .int tk, .int vl, .int er, .ref a14, .int rq, .ref a16]), (a1, AI G 568 sf)]) [0, 1] (by decide) rfl) hS (lv_sub (l' := [(0, .ref m0), (1, .int (bI bw)), (2, .int (softS sf n)), (3, .int (-9)), (4, .int 0), (5, .int (nI 0))]) hl [4, 5, 3, 2, 1, 0] rfl)
