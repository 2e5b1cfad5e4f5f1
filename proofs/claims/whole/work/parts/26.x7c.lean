abbrev rmX7_characterAt : Room := { frames := 0, cells := 0, slots := 0, locals := 0 }
set_option maxHeartbeats 4000000 in
set_option maxRecDepth 100000 in
theorem c_X7_characterAt (l : Launch) (G : GT) (m0 a1 a2 a3 a5 a6 a7 a14 a16 : Nat) (th : Int32) (ud ln nx ts : Nat) (tk vl er rq : Int32) (tf : Nat → Int32) (k : Nat) (hln : ln ≤ 120) (hk9 : k < 2000) : Ci l yX7_characterAt wsX7_characterAt rmX7_characterAt G [.ref m0, .int (nI k)] [(m0, OB 7 [.int th, .ref a1, .ref a2, .ref a3, .int (nI ud), .ref a5, .ref a6, .ref a7, .int (nI ln), .int (nI nx), .int (nI ts), .int tk, .int vl, .int er, .ref a14, .int rq, .ref a16]), (a7, AI G 120 tf)] (fun r u => r = chA tf ln k ∧ u = [(m0, OB 7 [.int th, .ref a1, .ref a2, .ref a3, .int (nI ud), .ref a5, .ref a6, .ref a7, .int (nI ln), .int (nI nx), .int (nI ts), .int tk, .int vl, .int er, .ref a14, .int rq, .ref a16]), (a7, AI G 120 tf)]) := by
  refine Ci.of (cc := cX7_characterAt) (maxL := 2) (ty := .int) (by decide) rfl (Nat.le_of_ble_eq_true rfl) ?_
  intro p e s m below meth c A ls Q hx hb hml hts hown hA hS hP hK hN hSS hD hl ret
  have hown : s.vm.findClass RX7 = some m.cls := hown
  have hl : lv_has ls 2 [(0, .ref m0), (1, .int (nI k))] := hl
  have hi7 : ∀ w ∈ wsX70, w ∈ wsX7_characterAt := mem_places [3, 4, 5, 6, 7, 8, 9, 10, 11, 12, 13, 14, 15, 16, 17, 18, 19] (by decide +kernel)
  refine lv_iload_n hx hb dX7_characterAt_0 rfl (lv_at hl 1 rfl) ?_
  refine lv_aload_n hx hb dX7_characterAt_1 rfl (lv_at hl 0 rfl) ?_
  refine va_get (D := G.1) (ci := 7) (v := .int (nI ln)) (C := RX7) (T := TX7) (N := 17) hx hb hts hi7 hown hK hP 0 rfl rfl 8 (by decide) (hts (.fieldLink RX7 39 "ConflictEnumeratorModel" "length" "I") (List.mem_of_getElem? (i := 1) rfl)) (fun _ h9 => h9) rfl dX7_characterAt_2 ?_
  refine lv_icmp_ge (tgt := 17) hx hb dX7_characterAt_5 (by decide) (fun c_5 => ?_) (fun c_5 => ?_)
  ·
    have c_5 : ln ≤ k := (nI_leI (a := ln) (b := k) (by omega) (by omega)).mp c_5
    refine lv_iconst (v := (-1)) hx hb dX7_characterAt_17 (by decide) ?_
    exact ret (-1) _ _ _ _ _ _ _ (Nat.le_of_ble_eq_true rfl) (Nat.le_of_ble_eq_true rfl) (rfl) (⟨by first | (unfold chA; rw [if_pos c_5]; done) | (unfold chA; rw [if_neg (by omega)]), rfl⟩) (hP.sub (ws' := [(m0, OB 7 [.int th, .ref a1, .ref a2, .ref a3, .int (nI ud), .ref a5, .ref a6, .ref a7, .int (nI ln), .int (nI nx), .int (nI ts), .int tk, .int vl, .int er, .ref a14, .int rq, .ref a16]), (a7, AI G 120 tf)]) [0, 1] rfl) (hD.sub (ws' := [(m0, OB 7 [.int th, .ref a1, .ref a2, .ref a3, .int (nI ud), .ref a5, .ref a6, .ref a7, .int (nI ln), .int (nI nx), .int (nI ts), .int tk, .int vl, .int er, .ref a14, .int rq, .ref a16]), (a7, AI G 120 tf)]) [0, 1] (by decide) rfl) hS dX7_characterAt_18
  ·
    have c_5 : k < ln := by have h9 := mt (nI_leI (a := ln) (b := k) (by omega) (by omega)).mpr c_5; omega
    refine lv_aload_n hx hb dX7_characterAt_8 rfl (lv_at hl 0 rfl) ?_
    refine va_get (D := G.1) (ci := 7) (v := .ref a7) (C := RX7) (T := TX7) (N := 17) hx hb hts hi7 hown hK hP 0 rfl rfl 7 (by decide) (hts (.fieldLink RX7 26 "ConflictEnumeratorModel" "text" "[I") (List.mem_of_getElem? (i := 2) rfl)) (fun _ h9 => h9) rfl dX7_characterAt_9 ?_
    refine lv_iload_n hx hb dX7_characterAt_12 rfl (lv_at hl 1 rfl) ?_
    refine wa_iald hx hb hK hP 1 rfl (k) (rfl) (by omega) (by decide) dX7_characterAt_13 ?_
    refine lv_goto (tgt := 18) hx hb dX7_characterAt_14 (by decide) ?_
    exact ret (tf k) _ _ _ _ _ _ _ (Nat.le_of_ble_eq_true rfl) (Nat.le_of_ble_eq_true rfl) (rfl) (⟨by first | (unfold chA; rw [if_pos c_5]; done) | (unfold chA; rw [if_neg (by omega)]), rfl⟩) (hP.sub (ws' := [(m0, OB 7 [.int th, .ref a1, .ref a2, .ref a3, .int (nI ud), .ref a5, .ref a6, .ref a7, .int (nI ln), .int (nI nx), .int (nI ts), .int tk, .int vl, .int er, .ref a14, .int rq, .ref a16]), (a7, AI G 120 tf)]) [0, 1] rfl) (hD.sub (ws' := [(m0, OB 7 [.int th, .ref a1, .ref a2, .ref a3, .int (nI ud), .ref a5, .ref a6, .ref a7, .int (nI ln), .int (nI nx), .int (nI ts), .int tk, .int vl, .int er, .ref a14, .int rq, .ref a16]), (a7, AI G 120 tf)]) [0, 1] (by decide) rfl) hS dX7_characterAt_18
abbrev rmX7_isWord : Room := { frames := 0, cells := 0, slots := 0, locals := 0 }
set_option maxHeartbeats 4000000 in
set_option maxRecDepth 100000 in
theorem c_X7_isWord (l : Launch) (G : GT) (m0 a1 a2 a3 a5 a6 a7 a14 a16 : Nat) (th : Int32) (ud ln nx ts : Nat) (tk vl er rq : Int32) (tf : Nat → Int32) (a b c9 d : Int32) (hln : ln ≤ 120) (hts9 : ts < nx) (hnx : nx ≤ ln) : Ci l yX7_isWord wsX7_isWord rmX7_isWord G [.ref m0, .int a, .int b, .int c9, .int d] [(m0, OB 7 [.int th, .ref a1, .ref a2, .ref a3, .int (nI ud), .ref a5, .ref a6, .ref a7, .int (nI ln), .int (nI nx), .int (nI ts), .int tk, .int vl, .int er, .ref a14, .int rq, .ref a16]), (a7, AI G 120 tf)] (fun r u => r = bI (isW tf ts nx a b c9 d) ∧ u = [(m0, OB 7 [.int th, .ref a1, .ref a2, .ref a3, .int (nI ud), .ref a5, .ref a6, .ref a7, .int (nI ln), .int (nI nx), .int (nI ts), .int tk, .int vl, .int er, .ref a14, .int rq, .ref a16]), (a7, AI G 120 tf)]) := by
  refine Ci.of (cc := cX7_isWord) (maxL := 7) (ty := .boolean) (by decide) rfl (Nat.le_of_ble_eq_true rfl) ?_
  intro p e s m below meth c A ls Q hx hb hml hts hown hA hS hP hK hN hSS hD hl ret
  have hown : s.vm.findClass RX7 = some m.cls := hown
  have hl : lv_has ls 7 [(0, .ref m0), (1, .int a), (2, .int b), (3, .int c9), (4, .int d)] := hl
  have hi7 : ∀ w ∈ wsX70, w ∈ wsX7_isWord := mem_places [4, 5, 6, 7, 8, 9, 10, 11, 12, 13, 14, 15, 16, 17, 18, 19, 20] (by decide +kernel)
  refine lv_iload_n hx hb dX7_isWord_0 rfl (lv_at hl 2 rfl) ?_
  refine lv_if_ne (tgt := 8) hx hb dX7_isWord_1 (by decide) (fun c_1 => ?_) (fun c_1 => ?_)
  ·
    refine lv_iload_n hx hb dX7_isWord_8 rfl (lv_at hl 3 rfl) ?_
    refine lv_if_ne (tgt := 16) hx hb dX7_isWord_9 (by decide) (fun c_9 => ?_) (fun c_9 => ?_)
    ·
      refine lv_iload hx hb dX7_isWord_16 (lv_at hl 4 rfl) ?_
      refine lv_if_ne (tgt := 25) hx hb dX7_isWord_18 (by decide) (fun c_18 => ?_) (fun c_18 => ?_)
      ·
        refine lv_iconst (v := 4) hx hb dX7_isWord_25 (by decide) ?_
        refine lv_istore (lv' := [(5, .int 4), (0, .ref m0), (1, .int a), (2, .int b), (3, .int c9), (4, .int d)]) hx hb dX7_isWord_26 hl (by decide) rfl (fun ls hl => ?_)
        refine lv_aload_n hx hb dX7_isWord_28 rfl (lv_at hl 1 rfl) ?_
        refine va_get (D := G.1) (ci := 7) (v := .int (nI nx)) (C := RX7) (T := TX7) (N := 17) hx hb hts hi7 hown hK hP 0 rfl rfl 9 (by decide) (hts (.fieldLink RX7 42 "ConflictEnumeratorModel" "next" "I") (List.mem_of_getElem? (i := 1) rfl)) (fun _ h9 => h9) rfl dX7_isWord_29 ?_
        refine lv_aload_n hx hb dX7_isWord_32 rfl (lv_at hl 1 rfl) ?_
        refine va_get (D := G.1) (ci := 7) (v := .int (nI ts)) (C := RX7) (T := TX7) (N := 17) hx hb hts hi7 hown hK hP 0 rfl rfl 10 (by decide) (hts (.fieldLink RX7 45 "ConflictEnumeratorModel" "tokenStart" "I") (List.mem_of_getElem? (i := 2) rfl)) (fun _ h9 => h9) rfl dX7_isWord_33 ?_
        refine wn_isub hx hb (nx) (ts) rfl rfl (by omega) dX7_isWord_36 ?_
        refine lv_iload hx hb dX7_isWord_37 (lv_at hl 0 rfl) ?_
        refine lv_icmp_ne (tgt := 59) hx hb dX7_isWord_39 (by decide) (fun c_39 => ?_) (fun c_39 => ?_)
        ·
          have c_39 : (nx - ts) ≠ 4 := by have h9 := mt (nI_eq (a := nx - ts) (b := 4) (by omega) (by omega)).mpr c_39; omega
          refine lv_iconst (v := 0) hx hb dX7_isWord_59 (by decide) ?_
          refine lv_istore (lv' := [(6, .int 0), (5, .int 4), (0, .ref m0), (1, .int a), (2, .int b), (3, .int c9), (4, .int d)]) hx hb dX7_isWord_60 hl (by decide) rfl (fun ls hl => ?_)
          refine lv_iload hx hb dX7_isWord_62 (lv_at hl 0 rfl) ?_
          refine lv_if_eq (tgt := 92) hx hb dX7_isWord_64 (by decide) (fun c_64 => ?_) (fun c_64 => absurd c_64 (by decide))
          refine lv_iconst (v := 0) hx hb dX7_isWord_92 (by decide) ?_
          refine lv_istore (lv' := [(6, .int 0), (5, .int 4), (0, .ref m0), (1, .int a), (2, .int b), (3, .int c9), (4, .int d)]) hx hb dX7_isWord_93 hl (by decide) rfl (fun ls hl => ?_)
          refine lv_iload hx hb dX7_isWord_95 (lv_at hl 0 rfl) ?_
          refine lv_if_eq (tgt := 125) hx hb dX7_isWord_97 (by decide) (fun c_97 => ?_) (fun c_97 => absurd c_97 (by decide))
          refine lv_iconst (v := 0) hx hb dX7_isWord_125 (by decide) ?_
          refine lv_istore (lv' := [(6, .int 0), (5, .int 4), (0, .ref m0), (1, .int a), (2, .int b), (3, .int c9), (4, .int d)]) hx hb dX7_isWord_126 hl (by decide) rfl (fun ls hl => ?_)
          refine lv_iload hx hb dX7_isWord_128 (lv_at hl 0 rfl) ?_
          refine lv_if_eq (tgt := 159) hx hb dX7_isWord_130 (by decide) (fun c_130 => ?_) (fun c_130 => absurd c_130 (by decide))
          refine lv_iconst (v := 0) hx hb dX7_isWord_159 (by decide) ?_
          exact ret 0 _ _ _ _ _ _ _ (Nat.le_of_ble_eq_true rfl) (Nat.le_of_ble_eq_true rfl) (rfl) (⟨by simp [bI, isW, wsz, c_1, c_9, c_18, c_39, c_64, c_97, c_130], rfl⟩) (hP.sub (ws' := [(m0, OB 7 [.int th, .ref a1, .ref a2, .ref a3, .int (nI ud), .ref a5, .ref a6, .ref a7, .int (nI ln), .int (nI nx), .int (nI ts), .int tk, .int vl, .int er, .ref a14, .int rq, .ref a16]), (a7, AI G 120 tf)]) [0, 1] rfl) (hD.sub (ws' := [(m0, OB 7 [.int th, .ref a1, .ref a2, .ref a3, .int (nI ud), .ref a5, .ref a6, .ref a7, .int (nI ln), .int (nI nx), .int (nI ts), .int tk, .int vl, .int er, .ref a14, .int rq, .ref a16]), (a7, AI G 120 tf)]) [0, 1] (by decide) rfl) hS dX7_isWord_160
        ·
          have c_39 : (nx - ts) = 4 := (nI_eq (a := nx - ts) (b := 4) (by omega) (by omega)).mp c_39
          refine lv_aload_n hx hb dX7_isWord_42 rfl (lv_at hl 1 rfl) ?_
          refine va_get (D := G.1) (ci := 7) (v := .ref a7) (C := RX7) (T := TX7) (N := 17) hx hb hts hi7 hown hK hP 0 rfl rfl 7 (by decide) (hts (.fieldLink RX7 26 "ConflictEnumeratorModel" "text" "[I") (List.mem_of_getElem? (i := 3) rfl)) (fun _ h9 => h9) rfl dX7_isWord_43 ?_
          refine lv_aload_n hx hb dX7_isWord_46 rfl (lv_at hl 1 rfl) ?_
          refine va_get (D := G.1) (ci := 7) (v := .int (nI ts)) (C := RX7) (T := TX7) (N := 17) hx hb hts hi7 hown hK hP 0 rfl rfl 10 (by decide) (hts (.fieldLink RX7 45 "ConflictEnumeratorModel" "tokenStart" "I") (List.mem_of_getElem? (i := 2) rfl)) (fun _ h9 => h9) rfl dX7_isWord_47 ?_
          refine wa_iald hx hb hK hP 1 rfl (ts) (rfl) (by omega) (by decide) dX7_isWord_50 ?_
          refine lv_iload_n hx hb dX7_isWord_51 rfl (lv_at hl 2 rfl) ?_
          refine lv_icmp_ne (tgt := 59) hx hb dX7_isWord_52 (by decide) (fun c_52 => ?_) (fun c_52 => ?_)
          ·
            refine lv_iconst (v := 0) hx hb dX7_isWord_59 (by decide) ?_
            refine lv_istore (lv' := [(6, .int 0), (5, .int 4), (0, .ref m0), (1, .int a), (2, .int b), (3, .int c9), (4, .int d)]) hx hb dX7_isWord_60 hl (by decide) rfl (fun ls hl => ?_)
            refine lv_iload hx hb dX7_isWord_62 (lv_at hl 0 rfl) ?_
            refine lv_if_eq (tgt := 92) hx hb dX7_isWord_64 (by decide) (fun c_64 => ?_) (fun c_64 => absurd c_64 (by decide))
            refine lv_iconst (v := 0) hx hb dX7_isWord_92 (by decide) ?_
            refine lv_istore (lv' := [(6, .int 0), (5, .int 4), (0, .ref m0), (1, .int a), (2, .int b), (3, .int c9), (4, .int d)]) hx hb dX7_isWord_93 hl (by decide) rfl (fun ls hl => ?_)
            refine lv_iload hx hb dX7_isWord_95 (lv_at hl 0 rfl) ?_
            refine lv_if_eq (tgt := 125) hx hb dX7_isWord_97 (by decide) (fun c_97 => ?_) (fun c_97 => absurd c_97 (by decide))
            refine lv_iconst (v := 0) hx hb dX7_isWord_125 (by decide) ?_
            refine lv_istore (lv' := [(6, .int 0), (5, .int 4), (0, .ref m0), (1, .int a), (2, .int b), (3, .int c9), (4, .int d)]) hx hb dX7_isWord_126 hl (by decide) rfl (fun ls hl => ?_)
            refine lv_iload hx hb dX7_isWord_128 (lv_at hl 0 rfl) ?_
            refine lv_if_eq (tgt := 159) hx hb dX7_isWord_130 (by decide) (fun c_130 => ?_) (fun c_130 => absurd c_130 (by decide))
            refine lv_iconst (v := 0) hx hb dX7_isWord_159 (by decide) ?_
            exact ret 0 _ _ _ _ _ _ _ (Nat.le_of_ble_eq_true rfl) (Nat.le_of_ble_eq_true rfl) (rfl) (⟨by simp [bI, isW, wsz, c_1, c_9, c_18, c_39, c_52, c_64, c_97, c_130], rfl⟩) (hP.sub (ws' := [(m0, OB 7 [.int th, .ref a1, .ref a2, .ref a3, .int (nI ud), .ref a5, .ref a6, .ref a7, .int (nI ln), .int (nI nx), .int (nI ts), .int tk, .int vl, .int er, .ref a14, .int rq, .ref a16]), (a7, AI G 120 tf)]) [0, 1] rfl) (hD.sub (ws' := [(m0, OB 7 [.int th, .ref a1, .ref a2, .ref a3, .int (nI ud), .ref a5, .ref a6, .ref a7, .int (nI ln), .int (nI nx), .int (nI ts), .int tk, .int vl, .int er, .ref a14, .int rq, .ref a16]), (a7, AI G 120 tf)]) [0, 1] (by decide) rfl) hS dX7_isWord_160
          ·
            refine lv_iconst (v := 1) hx hb dX7_isWord_55 (by decide) ?_
            refine lv_goto (tgt := 60) hx hb dX7_isWord_56 (by decide) ?_
            refine lv_istore (lv' := [(6, .int 1), (5, .int 4), (0, .ref m0), (1, .int a), (2, .int b), (3, .int c9), (4, .int d)]) hx hb dX7_isWord_60 hl (by decide) rfl (fun ls hl => ?_)
            refine lv_iload hx hb dX7_isWord_62 (lv_at hl 0 rfl) ?_
            refine lv_if_eq (tgt := 92) hx hb dX7_isWord_64 (by decide) (fun c_64 => absurd c_64 (by decide)) (fun c_64 => ?_)
            refine lv_iload hx hb dX7_isWord_67 (lv_at hl 1 rfl) ?_
            refine lv_iconst (v := 2) hx hb dX7_isWord_69 (by decide) ?_
            refine lv_icmp_lt (tgt := 88) hx hb dX7_isWord_70 (by decide) (fun c_70 => absurd c_70 (by decide)) (fun c_70 => ?_)
            refine lv_aload_n hx hb dX7_isWord_73 rfl (lv_at hl 2 rfl) ?_
            refine va_get (D := G.1) (ci := 7) (v := .ref a7) (C := RX7) (T := TX7) (N := 17) hx hb hts hi7 hown hK hP 0 rfl rfl 7 (by decide) (hts (.fieldLink RX7 26 "ConflictEnumeratorModel" "text" "[I") (List.mem_of_getElem? (i := 3) rfl)) (fun _ h9 => h9) rfl dX7_isWord_74 ?_
            refine lv_aload_n hx hb dX7_isWord_77 rfl (lv_at hl 2 rfl) ?_
            refine va_get (D := G.1) (ci := 7) (v := .int (nI ts)) (C := RX7) (T := TX7) (N := 17) hx hb hts hi7 hown hK hP 0 rfl rfl 10 (by decide) (hts (.fieldLink RX7 45 "ConflictEnumeratorModel" "tokenStart" "I") (List.mem_of_getElem? (i := 2) rfl)) (fun _ h9 => h9) rfl dX7_isWord_78 ?_
            refine lv_iconst (v := 1) hx hb dX7_isWord_81 (by decide) ?_
            refine wn_iadd hx hb (ts) (1) rfl rfl dX7_isWord_82 ?_
            refine wa_iald hx hb hK hP 1 rfl (ts + 1) (rfl) (by omega) (by decide) dX7_isWord_83 ?_
            refine lv_iload_n hx hb dX7_isWord_84 rfl (lv_at hl 4 rfl) ?_
            refine lv_icmp_ne (tgt := 92) hx hb dX7_isWord_85 (by decide) (fun c_85 => ?_) (fun c_85 => ?_)
            ·
              refine lv_iconst (v := 0) hx hb dX7_isWord_92 (by decide) ?_
              refine lv_istore (lv' := [(6, .int 0), (5, .int 4), (0, .ref m0), (1, .int a), (2, .int b), (3, .int c9), (4, .int d)]) hx hb dX7_isWord_93 hl (by decide) rfl (fun ls hl => ?_)
              refine lv_iload hx hb dX7_isWord_95 (lv_at hl 0 rfl) ?_
              refine lv_if_eq (tgt := 125) hx hb dX7_isWord_97 (by decide) (fun c_97 => ?_) (fun c_97 => absurd c_97 (by decide))
              refine lv_iconst (v := 0) hx hb dX7_isWord_125 (by decide) ?_
              refine lv_istore (lv' := [(6, .int 0), (5, .int 4), (0, .ref m0), (1, .int a), (2, .int b), (3, .int c9), (4, .int d)]) hx hb dX7_isWord_126 hl (by decide) rfl (fun ls hl => ?_)
              refine lv_iload hx hb dX7_isWord_128 (lv_at hl 0 rfl) ?_
              refine lv_if_eq (tgt := 159) hx hb dX7_isWord_130 (by decide) (fun c_130 => ?_) (fun c_130 => absurd c_130 (by decide))
              refine lv_iconst (v := 0) hx hb dX7_isWord_159 (by decide) ?_
              exact ret 0 _ _ _ _ _ _ _ (Nat.le_of_ble_eq_true rfl) (Nat.le_of_ble_eq_true rfl) (rfl) (⟨by simp [bI, isW, wsz, c_1, c_9, c_18, c_39, c_52, c_64, c_70, c_85, c_97, c_130], rfl⟩) (hP.sub (ws' := [(m0, OB 7 [.int th, .ref a1, .ref a2, .ref a3, .int (nI ud), .ref a5, .ref a6, .ref a7, .int (nI ln), .int (nI nx), .int (nI ts), .int tk, .int vl, .int er, .ref a14, .int rq, .ref a16]), (a7, AI G 120 tf)]) [0, 1] rfl) (hD.sub (ws' := [(m0, OB 7 [.int th, .ref a1, .ref a2, .ref a3, .int (nI ud), .ref a5, .ref a6, .ref a7, .int (nI ln), .int (nI nx), .int (nI ts), .int tk, .int vl, .int er, .ref a14, .int rq, .ref a16]), (a7, AI G 120 tf)]) [0, 1] (by decide) rfl) hS dX7_isWord_160
            ·
              refine lv_iconst (v := 1) hx hb dX7_isWord_88 (by decide) ?_
              refine lv_goto (tgt := 93) hx hb dX7_isWord_89 (by decide) ?_
              refine lv_istore (lv' := [(6, .int 1), (5, .int 4), (0, .ref m0), (1, .int a), (2, .int b), (3, .int c9), (4, .int d)]) hx hb dX7_isWord_93 hl (by decide) rfl (fun ls hl => ?_)
              refine lv_iload hx hb dX7_isWord_95 (lv_at hl 0 rfl) ?_
              refine lv_if_eq (tgt := 125) hx hb dX7_isWord_97 (by decide) (fun c_97 => absurd c_97 (by decide)) (fun c_97 => ?_)
              refine lv_iload hx hb dX7_isWord_100 (lv_at hl 1 rfl) ?_
              refine lv_iconst (v := 3) hx hb dX7_isWord_102 (by decide) ?_
              refine lv_icmp_lt (tgt := 121) hx hb dX7_isWord_103 (by decide) (fun c_103 => absurd c_103 (by decide)) (fun c_103 => ?_)
              refine lv_aload_n hx hb dX7_isWord_106 rfl (lv_at hl 2 rfl) ?_
              refine va_get (D := G.1) (ci := 7) (v := .ref a7) (C := RX7) (T := TX7) (N := 17) hx hb hts hi7 hown hK hP 0 rfl rfl 7 (by decide) (hts (.fieldLink RX7 26 "ConflictEnumeratorModel" "text" "[I") (List.mem_of_getElem? (i := 3) rfl)) (fun _ h9 => h9) rfl dX7_isWord_107 ?_
              refine lv_aload_n hx hb dX7_isWord_110 rfl (lv_at hl 2 rfl) ?_
              refine va_get (D := G.1) (ci := 7) (v := .int (nI ts)) (C := RX7) (T := TX7) (N := 17) hx hb hts hi7 hown hK hP 0 rfl rfl 10 (by decide) (hts (.fieldLink RX7 45 "ConflictEnumeratorModel" "tokenStart" "I") (List.mem_of_getElem? (i := 2) rfl)) (fun _ h9 => h9) rfl dX7_isWord_111 ?_
              refine lv_iconst (v := 2) hx hb dX7_isWord_114 (by decide) ?_
              refine wn_iadd hx hb (ts) (2) rfl rfl dX7_isWord_115 ?_
              refine wa_iald hx hb hK hP 1 rfl (ts + 2) (rfl) (by omega) (by decide) dX7_isWord_116 ?_
              refine lv_iload_n hx hb dX7_isWord_117 rfl (lv_at hl 5 rfl) ?_
              refine lv_icmp_ne (tgt := 125) hx hb dX7_isWord_118 (by decide) (fun c_118 => ?_) (fun c_118 => ?_)
              ·
                refine lv_iconst (v := 0) hx hb dX7_isWord_125 (by decide) ?_
                refine lv_istore (lv' := [(6, .int 0), (5, .int 4), (0, .ref m0), (1, .int a), (2, .int b), (3, .int c9), (4, .int d)]) hx hb dX7_isWord_126 hl (by decide) rfl (fun ls hl => ?_)
                refine lv_iload hx hb dX7_isWord_128 (lv_at hl 0 rfl) ?_
                refine lv_if_eq (tgt := 159) hx hb dX7_isWord_130 (by decide) (fun c_130 => ?_) (fun c_130 => absurd c_130 (by decide))
                refine lv_iconst (v := 0) hx hb dX7_isWord_159 (by decide) ?_
                exact ret 0 _ _ _ _ _ _ _ (Nat.le_of_ble_eq_true rfl) (Nat.le_of_ble_eq_true rfl) (rfl) (⟨by simp [bI, isW, wsz, c_1, c_9, c_18, c_39, c_52, c_64, c_70, c_85, c_97, c_103, c_118, c_130], rfl⟩) (hP.sub (ws' := [(m0, OB 7 [.int th, .ref a1, .ref a2, .ref a3, .int (nI ud), .ref a5, .ref a6, .ref a7, .int (nI ln), .int (nI nx), .int (nI ts), .int tk, .int vl, .int er, .ref a14, .int rq, .ref a16]), (a7, AI G 120 tf)]) [0, 1] rfl) (hD.sub (ws' := [(m0, OB 7 [.int th, .ref a1, .ref a2, .ref a3, .int (nI ud), .ref a5, .ref a6, .ref a7, .int (nI ln), .int (nI nx), .int (nI ts), .int tk, .int vl, .int er, .ref a14, .int rq, .ref a16]), (a7, AI G 120 tf)]) [0, 1] (by decide) rfl) hS dX7_isWord_160
              ·
                refine lv_iconst (v := 1) hx hb dX7_isWord_121 (by decide) ?_
                refine lv_goto (tgt := 126) hx hb dX7_isWord_122 (by decide) ?_
                refine lv_istore (lv' := [(6, .int 1), (5, .int 4), (0, .ref m0), (1, .int a), (2, .int b), (3, .int c9), (4, .int d)]) hx hb dX7_isWord_126 hl (by decide) rfl (fun ls hl => ?_)
                refine lv_iload hx hb dX7_isWord_128 (lv_at hl 0 rfl) ?_
                refine lv_if_eq (tgt := 159) hx hb dX7_isWord_130 (by decide) (fun c_130 => absurd c_130 (by decide)) (fun c_130 => ?_)
                refine lv_iload hx hb dX7_isWord_133 (lv_at hl 1 rfl) ?_
                refine lv_iconst (v := 4) hx hb dX7_isWord_135 (by decide) ?_
                refine lv_icmp_lt (tgt := 155) hx hb dX7_isWord_136 (by decide) (fun c_136 => absurd c_136 (by decide)) (fun c_136 => ?_)
                refine lv_aload_n hx hb dX7_isWord_139 rfl (lv_at hl 2 rfl) ?_
                refine va_get (D := G.1) (ci := 7) (v := .ref a7) (C := RX7) (T := TX7) (N := 17) hx hb hts hi7 hown hK hP 0 rfl rfl 7 (by decide) (hts (.fieldLink RX7 26 "ConflictEnumeratorModel" "text" "[I") (List.mem_of_getElem? (i := 3) rfl)) (fun _ h9 => h9) rfl dX7_isWord_140 ?_
                refine lv_aload_n hx hb dX7_isWord_143 rfl (lv_at hl 2 rfl) ?_
                refine va_get (D := G.1) (ci := 7) (v := .int (nI ts)) (C := RX7) (T := TX7) (N := 17) hx hb hts hi7 hown hK hP 0 rfl rfl 10 (by decide) (hts (.fieldLink RX7 45 "ConflictEnumeratorModel" "tokenStart" "I") (List.mem_of_getElem? (i := 2) rfl)) (fun _ h9 => h9) rfl dX7_isWord_144 ?_
                refine lv_iconst (v := 3) hx hb dX7_isWord_147 (by decide) ?_
                refine wn_iadd hx hb (ts) (3) rfl rfl dX7_isWord_148 ?_
                refine wa_iald hx hb hK hP 1 rfl (ts + 3) (rfl) (by omega) (by decide) dX7_isWord_149 ?_
                refine lv_iload hx hb dX7_isWord_150 (lv_at hl 6 rfl) ?_
                refine lv_icmp_ne (tgt := 159) hx hb dX7_isWord_152 (by decide) (fun c_152 => ?_) (fun c_152 => ?_)
                ·
                  refine lv_iconst (v := 0) hx hb dX7_isWord_159 (by decide) ?_
                  exact ret 0 _ _ _ _ _ _ _ (Nat.le_of_ble_eq_true rfl) (Nat.le_of_ble_eq_true rfl) (rfl) (⟨by simp [bI, isW, wsz, c_1, c_9, c_18, c_39, c_52, c_64, c_70, c_85, c_97, c_103, c_118, c_130, c_136, c_152], rfl⟩) (hP.sub (ws' := [(m0, OB 7 [.int th, .ref a1, .ref a2, .ref a3, .int (nI ud), .ref a5, .ref a6, .ref a7, .int (nI ln), .int (nI nx), .int (nI ts), .int tk, .int vl, .int er, .ref a14, .int rq, .ref a16]), (a7, AI G 120 tf)]) [0, 1] rfl) (hD.sub (ws' := [(m0, OB 7 [.int th, .ref a1, .ref a2, .ref a3, .int (nI ud), .ref a5, .ref a6, .ref a7, .int (nI ln), .int (nI nx), .int (nI ts), .int tk, .int vl, .int er, .ref a14, .int rq, .ref a16]), (a7, AI G 120 tf)]) [0, 1] (by decide) rfl) hS dX7_isWord_160
                ·
                  refine lv_iconst (v := 1) hx hb dX7_isWord_155 (by decide) ?_
                  refine lv_goto (tgt := 160) hx hb dX7_isWord_156 (by decide) ?_
                  exact ret 1 _ _ _ _ _ _ _ (Nat.le_of_ble_eq_true rfl) (Nat.le_of_ble_eq_true rfl) (rfl) (⟨by simp [bI, isW, wsz, c_1, c_9, c_18, c_39, c_52, c_64, c_70, c_85, c_97, c_103, c_118, c_130, c_136, c_152], rfl⟩) (hP.sub (ws' := [(m0, OB 7 [.int th, .ref a1, .ref a2, .ref a3, .int (nI ud), .ref a5, .ref a6, .ref a7, .int (nI ln), .int (nI nx), .int (nI ts), .int tk, .int vl, .int er, .ref a14, .int rq, .ref a16]), (a7, AI G 120 tf)]) [0, 1] rfl) (hD.sub (ws' := [(m0, OB 7 [.int th, .ref a1, .ref a2, .ref a3, .int (nI ud), .ref a5, .ref a6, .ref a7, .int (nI ln), .int (nI nx), .int (nI ts), .int tk, .int vl, .int er, .ref a14, .int rq, .ref a16]), (a7, AI G 120 tf)]) [0, 1] (by decide) rfl) hS dX7_isWord_160
      ·
        refine lv_iconst (v := 3) hx hb dX7_isWord_21 (by decide) ?_
        refine lv_goto (tgt := 26) hx hb dX7_isWord_22 (by decide) ?_
        refine lv_istore (lv' := [(5, .int 3), (0, .ref m0), (1, .int a), (2, .int b), (3, .int c9), (4, .int d)]) hx hb dX7_isWord_26 hl (by decide) rfl (fun ls hl => ?_)
        refine lv_aload_n hx hb dX7_isWord_28 rfl (lv_at hl 1 rfl) ?_
        refine va_get (D := G.1) (ci := 7) (v := .int (nI nx)) (C := RX7) (T := TX7) (N := 17) hx hb hts hi7 hown hK hP 0 rfl rfl 9 (by decide) (hts (.fieldLink RX7 42 "ConflictEnumeratorModel" "next" "I") (List.mem_of_getElem? (i := 1) rfl)) (fun _ h9 => h9) rfl dX7_isWord_29 ?_
        refine lv_aload_n hx hb dX7_isWord_32 rfl (lv_at hl 1 rfl) ?_
        refine va_get (D := G.1) (ci := 7) (v := .int (nI ts)) (C := RX7) (T := TX7) (N := 17) hx hb hts hi7 hown hK hP 0 rfl rfl 10 (by decide) (hts (.fieldLink RX7 45 "ConflictEnumeratorModel" "tokenStart" "I") (List.mem_of_getElem? (i := 2) rfl)) (fun _ h9 => h9) rfl dX7_isWord_33 ?_
        refine wn_isub hx hb (nx) (ts) rfl rfl (by omega) dX7_isWord_36 ?_
        refine lv_iload hx hb dX7_isWord_37 (lv_at hl 0 rfl) ?_
        refine lv_icmp_ne (tgt := 59) hx hb dX7_isWord_39 (by decide) (fun c_39 => ?_) (fun c_39 => ?_)
        ·
          have c_39 : (nx - ts) ≠ 3 := by have h9 := mt (nI_eq (a := nx - ts) (b := 3) (by omega) (by omega)).mpr c_39; omega
          refine lv_iconst (v := 0) hx hb dX7_isWord_59 (by decide) ?_
          refine lv_istore (lv' := [(6, .int 0), (5, .int 3), (0, .ref m0), (1, .int a), (2, .int b), (3, .int c9), (4, .int d)]) hx hb dX7_isWord_60 hl (by decide) rfl (fun ls hl => ?_)
          refine lv_iload hx hb dX7_isWord_62 (lv_at hl 0 rfl) ?_
          refine lv_if_eq (tgt := 92) hx hb dX7_isWord_64 (by decide) (fun c_64 => ?_) (fun c_64 => absurd c_64 (by decide))
          refine lv_iconst (v := 0) hx hb dX7_isWord_92 (by decide) ?_
          refine lv_istore (lv' := [(6, .int 0), (5, .int 3), (0, .ref m0), (1, .int a), (2, .int b), (3, .int c9), (4, .int d)]) hx hb dX7_isWord_93 hl (by decide) rfl (fun ls hl => ?_)
          refine lv_iload hx hb dX7_isWord_95 (lv_at hl 0 rfl) ?_
          refine lv_if_eq (tgt := 125) hx hb dX7_isWord_97 (by decide) (fun c_97 => ?_) (fun c_97 => absurd c_97 (by decide))
          refine lv_iconst (v := 0) hx hb dX7_isWord_125 (by decide) ?_
          refine lv_istore (lv' := [(6, .int 0), (5, .int 3), (0, .ref m0), (1, .int a), (2, .int b), (3, .int c9), (4, .int d)]) hx hb dX7_isWord_126 hl (by decide) rfl (fun ls hl => ?_)
          refine lv_iload hx hb dX7_isWord_128 (lv_at hl 0 rfl) ?_
          refine lv_if_eq (tgt := 159) hx hb dX7_isWord_130 (by decide) (fun c_130 => ?_) (fun c_130 => absurd c_130 (by decide))
          refine lv_iconst (v := 0) hx hb dX7_isWord_159 (by decide) ?_
          exact ret 0 _ _ _ _ _ _ _ (Nat.le_of_ble_eq_true rfl) (Nat.le_of_ble_eq_true rfl) (rfl) (⟨by simp [bI, isW, wsz, c_1, c_9, c_18, c_39, c_64, c_97, c_130], rfl⟩) (hP.sub (ws' := [(m0, OB 7 [.int th, .ref a1, .ref a2, .ref a3, .int (nI ud), .ref a5, .ref a6, .ref a7, .int (nI ln), .int (nI nx), .int (nI ts), .int tk, .int vl, .int er, .ref a14, .int rq, .ref a16]), (a7, AI G 120 tf)]) [0, 1] rfl) (hD.sub (ws' := [(m0, OB 7 [.int th, .ref a1, .ref a2, .ref a3, .int (nI ud), .ref a5, .ref a6, .ref a7, .int (nI ln), .int (nI nx), .int (nI ts), .int tk, .int vl, .int er, .ref a14, .int rq, .ref a16]), (a7, AI G 120 tf)]) [0, 1] (by decide) rfl) hS dX7_isWord_160
        ·
          have c_39 : (nx - ts) = 3 := (nI_eq (a := nx - ts) (b := 3) (by omega) (by omega)).mp c_39
          refine lv_aload_n hx hb dX7_isWord_42 rfl (lv_at hl 1 rfl) ?_
          refine va_get (D := G.1) (ci := 7) (v := .ref a7) (C := RX7) (T := TX7) (N := 17) hx hb hts hi7 hown hK hP 0 rfl rfl 7 (by decide) (hts (.fieldLink RX7 26 "ConflictEnumeratorModel" "text" "[I") (List.mem_of_getElem? (i := 3) rfl)) (fun _ h9 => h9) rfl dX7_isWord_43 ?_
          refine lv_aload_n hx hb dX7_isWord_46 rfl (lv_at hl 1 rfl) ?_
          refine va_get (D := G.1) (ci := 7) (v := .int (nI ts)) (C := RX7) (T := TX7) (N := 17) hx hb hts hi7 hown hK hP 0 rfl rfl 10 (by decide) (hts (.fieldLink RX7 45 "ConflictEnumeratorModel" "tokenStart" "I") (List.mem_of_getElem? (i := 2) rfl)) (fun _ h9 => h9) rfl dX7_isWord_47 ?_
          refine wa_iald hx hb hK hP 1 rfl (ts) (rfl) (by omega) (by decide) dX7_isWord_50 ?_
          refine lv_iload_n hx hb dX7_isWord_51 rfl (lv_at hl 2 rfl) ?_
          refine lv_icmp_ne (tgt := 59) hx hb dX7_isWord_52 (by decide) (fun c_52 => ?_) (fun c_52 => ?_)
          ·
            refine lv_iconst (v := 0) hx hb dX7_isWord_59 (by decide) ?_
            refine lv_istore (lv' := [(6, .int 0), (5, .int 3), (0, .ref m0), (1, .int a), (2, .int b), (3, .int c9), (4, .int d)]) hx hb dX7_isWord_60 hl (by decide) rfl (fun ls hl => ?_)
            refine lv_iload hx hb dX7_isWord_62 (lv_at hl 0 rfl) ?_
            refine lv_if_eq (tgt := 92) hx hb dX7_isWord_64 (by decide) (fun c_64 => ?_) (fun c_64 => absurd c_64 (by decide))
            refine lv_iconst (v := 0) hx hb dX7_isWord_92 (by decide) ?_
            refine lv_istore (lv' := [(6, .int 0), (5, .int 3), (0, .ref m0), (1, .int a), (2, .int b), (3, .int c9), (4, .int d)]) hx hb dX7_isWord_93 hl (by decide) rfl (fun ls hl => ?_)
            refine lv_iload hx hb dX7_isWord_95 (lv_at hl 0 rfl) ?_
            refine lv_if_eq (tgt := 125) hx hb dX7_isWord_97 (by decide) (fun c_97 => ?_) (fun c_97 => absurd c_97 (by decide))
            refine lv_iconst (v := 0) hx hb dX7_isWord_125 (by decide) ?_
            refine lv_istore (lv' := [(6, .int 0), (5, .int 3), (0, .ref m0), (1, .int a), (2, .int b), (3, .int c9), (4, .int d)]) hx hb dX7_isWord_126 hl (by decide) rfl (fun ls hl => ?_)
            refine lv_iload hx hb dX7_isWord_128 (lv_at hl 0 rfl) ?_
            refine lv_if_eq (tgt := 159) hx hb dX7_isWord_130 (by decide) (fun c_130 => ?_) (fun c_130 => absurd c_130 (by decide))
            refine lv_iconst (v := 0) hx hb dX7_isWord_159 (by decide) ?_
            exact ret 0 _ _ _ _ _ _ _ (Nat.le_of_ble_eq_true rfl) (Nat.le_of_ble_eq_true rfl) (rfl) (⟨by simp [bI, isW, wsz, c_1, c_9, c_18, c_39, c_52, c_64, c_97, c_130], rfl⟩) (hP.sub (ws' := [(m0, OB 7 [.int th, .ref a1, .ref a2, .ref a3, .int (nI ud), .ref a5, .ref a6, .ref a7, .int (nI ln), .int (nI nx), .int (nI ts), .int tk, .int vl, .int er, .ref a14, .int rq, .ref a16]), (a7, AI G 120 tf)]) [0, 1] rfl) (hD.sub (ws' := [(m0, OB 7 [.int th, .ref a1, .ref a2, .ref a3, .int (nI ud), .ref a5, .ref a6, .ref a7, .int (nI ln), .int (nI nx), .int (nI ts), .int tk, .int vl, .int er, .ref a14, .int rq, .ref a16]), (a7, AI G 120 tf)]) [0, 1] (by decide) rfl) hS dX7_isWord_160
          ·
            refine lv_iconst (v := 1) hx hb dX7_isWord_55 (by decide) ?_
            refine lv_goto (tgt := 60) hx hb dX7_isWord_56 (by decide) ?_
            refine lv_istore (lv' := [(6, .int 1), (5, .int 3), (0, .ref m0), (1, .int a), (2, .int b), (3, .int c9), (4, .int d)]) hx hb dX7_isWord_60 hl (by decide) rfl (fun ls hl => ?_)
            refine lv_iload hx hb dX7_isWord_62 (lv_at hl 0 rfl) ?_
            refine lv_if_eq (tgt := 92) hx hb dX7_isWord_64 (by decide) (fun c_64 => absurd c_64 (by decide)) (fun c_64 => ?_)
            refine lv_iload hx hb dX7_isWord_67 (lv_at hl 1 rfl) ?_
            refine lv_iconst (v := 2) hx hb dX7_isWord_69 (by decide) ?_
            refine lv_icmp_lt (tgt := 88) hx hb dX7_isWord_70 (by decide) (fun c_70 => absurd c_70 (by decide)) (fun c_70 => ?_)
            refine lv_aload_n hx hb dX7_isWord_73 rfl (lv_at hl 2 rfl) ?_
            refine va_get (D := G.1) (ci := 7) (v := .ref a7) (C := RX7) (T := TX7) (N := 17) hx hb hts hi7 hown hK hP 0 rfl rfl 7 (by decide) (hts (.fieldLink RX7 26 "ConflictEnumeratorModel" "text" "[I") (List.mem_of_getElem? (i := 3) rfl)) (fun _ h9 => h9) rfl dX7_isWord_74 ?_
            refine lv_aload_n hx hb dX7_isWord_77 rfl (lv_at hl 2 rfl) ?_
            refine va_get (D := G.1) (ci := 7) (v := .int (nI ts)) (C := RX7) (T := TX7) (N := 17) hx hb hts hi7 hown hK hP 0 rfl rfl 10 (by decide) (hts (.fieldLink RX7 45 "ConflictEnumeratorModel" "tokenStart" "I") (List.mem_of_getElem? (i := 2) rfl)) (fun _ h9 => h9) rfl dX7_isWord_78 ?_
            refine lv_iconst (v := 1) hx hb dX7_isWord_81 (by decide) ?_
            refine wn_iadd hx hb (ts) (1) rfl rfl dX7_isWord_82 ?_
            refine wa_iald hx hb hK hP 1 rfl (ts + 1) (rfl) (by omega) (by decide) dX7_isWord_83 ?_
            refine lv_iload_n hx hb dX7_isWord_84 rfl (lv_at hl 4 rfl) ?_
            refine lv_icmp_ne (tgt := 92) hx hb dX7_isWord_85 (by decide) (fun c_85 => ?_) (fun c_85 => ?_)
            ·
              refine lv_iconst (v := 0) hx hb dX7_isWord_92 (by decide) ?_
              refine lv_istore (lv' := [(6, .int 0), (5, .int 3), (0, .ref m0), (1, .int a), (2, .int b), (3, .int c9), (4, .int d)]) hx hb dX7_isWord_93 hl (by decide) rfl (fun ls hl => ?_)
              refine lv_iload hx hb dX7_isWord_95 (lv_at hl 0 rfl) ?_
              refine lv_if_eq (tgt := 125) hx hb dX7_isWord_97 (by decide) (fun c_97 => ?_) (fun c_97 => absurd c_97 (by decide))
              refine lv_iconst (v := 0) hx hb dX7_isWord_125 (by decide) ?_
              refine lv_istore (lv' := [(6, .int 0), (5, .int 3), (0, .ref m0), (1, .int a), (2, .int b), (3, .int c9), (4, .int d)]) hx hb dX7_isWord_126 hl (by decide) rfl (fun ls hl => ?_)
              refine lv_iload hx hb dX7_isWord_128 (lv_at hl 0 rfl) ?_
              refine lv_if_eq (tgt := 159) hx hb dX7_isWord_130 (by decide) (fun c_130 => ?_) (fun c_130 => absurd c_130 (by decide))
              refine lv_iconst (v := 0) hx hb dX7_isWord_159 (by decide) ?_
              exact ret 0 _ _ _ _ _ _ _ (Nat.le_of_ble_eq_true rfl) (Nat.le_of_ble_eq_true rfl) (rfl) (⟨by simp [bI, isW, wsz, c_1, c_9, c_18, c_39, c_52, c_64, c_70, c_85, c_97, c_130], rfl⟩) (hP.sub (ws' := [(m0, OB 7 [.int th, .ref a1, .ref a2, .ref a3, .int (nI ud), .ref a5, .ref a6, .ref a7, .int (nI ln), .int (nI nx), .int (nI ts), .int tk, .int vl, .int er, .ref a14, .int rq, .ref a16]), (a7, AI G 120 tf)]) [0, 1] rfl) (hD.sub (ws' := [(m0, OB 7 [.int th, .ref a1, .ref a2, .ref a3, .int (nI ud), .ref a5, .ref a6, .ref a7, .int (nI ln), .int (nI nx), .int (nI ts), .int tk, .int vl, .int er, .ref a14, .int rq, .ref a16]), (a7, AI G 120 tf)]) [0, 1] (by decide) rfl) hS dX7_isWord_160
            ·
              refine lv_iconst (v := 1) hx hb dX7_isWord_88 (by decide) ?_
              refine lv_goto (tgt := 93) hx hb dX7_isWord_89 (by decide) ?_
              refine lv_istore (lv' := [(6, .int 1), (5, .int 3), (0, .ref m0), (1, .int a), (2, .int b), (3, .int c9), (4, .int d)]) hx hb dX7_isWord_93 hl (by decide) rfl (fun ls hl => ?_)
              refine lv_iload hx hb dX7_isWord_95 (lv_at hl 0 rfl) ?_
              refine lv_if_eq (tgt := 125) hx hb dX7_isWord_97 (by decide) (fun c_97 => absurd c_97 (by decide)) (fun c_97 => ?_)
              refine lv_iload hx hb dX7_isWord_100 (lv_at hl 1 rfl) ?_
              refine lv_iconst (v := 3) hx hb dX7_isWord_102 (by decide) ?_
              refine lv_icmp_lt (tgt := 121) hx hb dX7_isWord_103 (by decide) (fun c_103 => absurd c_103 (by decide)) (fun c_103 => ?_)
              refine lv_aload_n hx hb dX7_isWord_106 rfl (lv_at hl 2 rfl) ?_
              refine va_get (D := G.1) (ci := 7) (v := .ref a7) (C := RX7) (T := TX7) (N := 17) hx hb hts hi7 hown hK hP 0 rfl rfl 7 (by decide) (hts (.fieldLink RX7 26 "ConflictEnumeratorModel" "text" "[I") (List.mem_of_getElem? (i := 3) rfl)) (fun _ h9 => h9) rfl dX7_isWord_107 ?_
              refine lv_aload_n hx hb dX7_isWord_110 rfl (lv_at hl 2 rfl) ?_
              refine va_get (D := G.1) (ci := 7) (v := .int (nI ts)) (C := RX7) (T := TX7) (N := 17) hx hb hts hi7 hown hK hP 0 rfl rfl 10 (by decide) (hts (.fieldLink RX7 45 "ConflictEnumeratorModel" "tokenStart" "I") (List.mem_of_getElem? (i := 2) rfl)) (fun _ h9 => h9) rfl dX7_isWord_111 ?_
              refine lv_iconst (v := 2) hx hb dX7_isWord_114 (by decide) ?_
              refine wn_iadd hx hb (ts) (2) rfl rfl dX7_isWord_115 ?_
              refine wa_iald hx hb hK hP 1 rfl (ts + 2) (rfl) (by omega) (by decide) dX7_isWord_116 ?_
              refine lv_iload_n hx hb dX7_isWord_117 rfl (lv_at hl 5 rfl) ?_
              refine lv_icmp_ne (tgt := 125) hx hb dX7_isWord_118 (by decide) (fun c_118 => ?_) (fun c_118 => ?_)
              ·
                refine lv_iconst (v := 0) hx hb dX7_isWord_125 (by decide) ?_
                refine lv_istore (lv' := [(6, .int 0), (5, .int 3), (0, .ref m0), (1, .int a), (2, .int b), (3, .int c9), (4, .int d)]) hx hb dX7_isWord_126 hl (by decide) rfl (fun ls hl => ?_)
                refine lv_iload hx hb dX7_isWord_128 (lv_at hl 0 rfl) ?_
                refine lv_if_eq (tgt := 159) hx hb dX7_isWord_130 (by decide) (fun c_130 => ?_) (fun c_130 => absurd c_130 (by decide))
                refine lv_iconst (v := 0) hx hb dX7_isWord_159 (by decide) ?_
                exact ret 0 _ _ _ _ _ _ _ (Nat.le_of_ble_eq_true rfl) (Nat.le_of_ble_eq_true rfl) (rfl) (⟨by simp [bI, isW, wsz, c_1, c_9, c_18, c_39, c_52, c_64, c_70, c_85, c_97, c_103, c_118, c_130], rfl⟩) (hP.sub (ws' := [(m0, OB 7 [.int th, .ref a1, .ref a2, .ref a3, .int (nI ud), .ref a5, .ref a6, .ref a7, .int (nI ln), .int (nI nx), .int (nI ts), .int tk, .int vl, .int er, .ref a14, .int rq, .ref a16]), (a7, AI G 120 tf)]) [0, 1] rfl) (hD.sub (ws' := [(m0, OB 7 [.int th, .ref a1, .ref a2, .ref a3, .int (nI ud), .ref a5, .ref a6, .ref a7, .int (nI ln), .int (nI nx), .int (nI ts), .int tk, .int vl, .int er, .ref a14, .int rq, .ref a16]), (a7, AI G 120 tf)]) [0, 1] (by decide) rfl) hS dX7_isWord_160
              ·
                refine lv_iconst (v := 1) hx hb dX7_isWord_121 (by decide) ?_
                refine lv_goto (tgt := 126) hx hb dX7_isWord_122 (by decide) ?_
                refine lv_istore (lv' := [(6, .int 1), (5, .int 3), (0, .ref m0), (1, .int a), (2, .int b), (3, .int c9), (4, .int d)]) hx hb dX7_isWord_126 hl (by decide) rfl (fun ls hl => ?_)
                refine lv_iload hx hb dX7_isWord_128 (lv_at hl 0 rfl) ?_
                refine lv_if_eq (tgt := 159) hx hb dX7_isWord_130 (by decide) (fun c_130 => absurd c_130 (by decide)) (fun c_130 => ?_)
                refine lv_iload hx hb dX7_isWord_133 (lv_at hl 1 rfl) ?_
                refine lv_iconst (v := 4) hx hb dX7_isWord_135 (by decide) ?_
                refine lv_icmp_lt (tgt := 155) hx hb dX7_isWord_136 (by decide) (fun c_136 => ?_) (fun c_136 => absurd c_136 (by decide))
                refine lv_iconst (v := 1) hx hb dX7_isWord_155 (by decide) ?_
                refine lv_goto (tgt := 160) hx hb dX7_isWord_156 (by decide) ?_
                exact ret 1 _ _ _ _ _ _ _ (Nat.le_of_ble_eq_true rfl) (Nat.le_of_ble_eq_true rfl) (rfl) (⟨by simp [bI, isW, wsz, c_1, c_9, c_18, c_39, c_52, c_64, c_70, c_85, c_97, c_103, c_118, c_130, c_136], rfl⟩) (hP.sub (ws' := [(m0, OB 7 [.int th, .ref a1, .ref a2, .ref a3, .int (nI ud), .ref a5, .ref a6, .ref a7, .int (nI ln), .int (nI nx), .int (nI ts), .int tk, .int vl, .int er, .ref a14, .int rq, .ref a16]), (a7, AI G 120 tf)]) [0, 1] rfl) (hD.sub (ws' := [(m0, OB 7 [.int th, .ref a1, .ref a2, .ref a3, .int (nI ud), .ref a5, .ref a6, .ref a7, .int (nI ln), .int (nI nx), .int (nI ts), .int tk, .int vl, .int er, .ref a14, .int rq, .ref a16]), (a7, AI G 120 tf)]) [0, 1] (by decide) rfl) hS dX7_isWord_160
    ·
      refine lv_iconst (v := 2) hx hb dX7_isWord_12 (by decide) ?_
      refine lv_goto (tgt := 26) hx hb dX7_isWord_13 (by decide) ?_
      refine lv_istore (lv' := [(5, .int 2), (0, .ref m0), (1, .int a), (2, .int b), (3, .int c9), (4, .int d)]) hx hb dX7_isWord_26 hl (by decide) rfl (fun ls hl => ?_)
      refine lv_aload_n hx hb dX7_isWord_28 rfl (lv_at hl 1 rfl) ?_
      refine va_get (D := G.1) (ci := 7) (v := .int (nI nx)) (C := RX7) (T := TX7) (N := 17) hx hb hts hi7 hown hK hP 0 rfl rfl 9 (by decide) (hts (.fieldLink RX7 42 "ConflictEnumeratorModel" "next" "I") (List.mem_of_getElem? (i := 1) rfl)) (fun _ h9 => h9) rfl dX7_isWord_29 ?_
      refine lv_aload_n hx hb dX7_isWord_32 rfl (lv_at hl 1 rfl) ?_
      refine va_get (D := G.1) (ci := 7) (v := .int (nI ts)) (C := RX7) (T := TX7) (N := 17) hx hb hts hi7 hown hK hP 0 rfl rfl 10 (by decide) (hts (.fieldLink RX7 45 "ConflictEnumeratorModel" "tokenStart" "I") (List.mem_of_getElem? (i := 2) rfl)) (fun _ h9 => h9) rfl dX7_isWord_33 ?_
      refine wn_isub hx hb (nx) (ts) rfl rfl (by omega) dX7_isWord_36 ?_
      refine lv_iload hx hb dX7_isWord_37 (lv_at hl 0 rfl) ?_
      refine lv_icmp_ne (tgt := 59) hx hb dX7_isWord_39 (by decide) (fun c_39 => ?_) (fun c_39 => ?_)
      ·
        have c_39 : (nx - ts) ≠ 2 := by have h9 := mt (nI_eq (a := nx - ts) (b := 2) (by omega) (by omega)).mpr c_39; omega
        refine lv_iconst (v := 0) hx hb dX7_isWord_59 (by decide) ?_
        refine lv_istore (lv' := [(6, .int 0), (5, .int 2), (0, .ref m0), (1, .int a), (2, .int b), (3, .int c9), (4, .int d)]) hx hb dX7_isWord_60 hl (by decide) rfl (fun ls hl => ?_)
        refine lv_iload hx hb dX7_isWord_62 (lv_at hl 0 rfl) ?_
        refine lv_if_eq (tgt := 92) hx hb dX7_isWord_64 (by decide) (fun c_64 => ?_) (fun c_64 => absurd c_64 (by decide))
        refine lv_iconst (v := 0) hx hb dX7_isWord_92 (by decide) ?_
        refine lv_istore (lv' := [(6, .int 0), (5, .int 2), (0, .ref m0), (1, .int a), (2, .int b), (3, .int c9), (4, .int d)]) hx hb dX7_isWord_93 hl (by decide) rfl (fun ls hl => ?_)
        refine lv_iload hx hb dX7_isWord_95 (lv_at hl 0 rfl) ?_
        refine lv_if_eq (tgt := 125) hx hb dX7_isWord_97 (by decide) (fun c_97 => ?_) (fun c_97 => absurd c_97 (by decide))
        refine lv_iconst (v := 0) hx hb dX7_isWord_125 (by decide) ?_
        refine lv_istore (lv' := [(6, .int 0), (5, .int 2), (0, .ref m0), (1, .int a), (2, .int b), (3, .int c9), (4, .int d)]) hx hb dX7_isWord_126 hl (by decide) rfl (fun ls hl => ?_)
        refine lv_iload hx hb dX7_isWord_128 (lv_at hl 0 rfl) ?_
        refine lv_if_eq (tgt := 159) hx hb dX7_isWord_130 (by decide) (fun c_130 => ?_) (fun c_130 => absurd c_130 (by decide))
        refine lv_iconst (v := 0) hx hb dX7_isWord_159 (by decide) ?_
        exact ret 0 _ _ _ _ _ _ _ (Nat.le_of_ble_eq_true rfl) (Nat.le_of_ble_eq_true rfl) (rfl) (⟨by simp [bI, isW, wsz, c_1, c_9, c_39, c_64, c_97, c_130], rfl⟩) (hP.sub (ws' := [(m0, OB 7 [.int th, .ref a1, .ref a2, .ref a3, .int (nI ud), .ref a5, .ref a6, .ref a7, .int (nI ln), .int (nI nx), .int (nI ts), .int tk, .int vl, .int er, .ref a14, .int rq, .ref a16]), (a7, AI G 120 tf)]) [0, 1] rfl) (hD.sub (ws' := [(m0, OB 7 [.int th, .ref a1, .ref a2, .ref a3, .int (nI ud), .ref a5, .ref a6, .ref a7, .int (nI ln), .int (nI nx), .int (nI ts), .int tk, .int vl, .int er, .ref a14, .int rq, .ref a16]), (a7, AI G 120 tf)]) [0, 1] (by decide) rfl) hS dX7_isWord_160
      ·
        have c_39 : (nx - ts) = 2 := (nI_eq (a := nx - ts) (b := 2) (by omega) (by omega)).mp c_39
        refine lv_aload_n hx hb dX7_isWord_42 rfl (lv_at hl 1 rfl) ?_
        refine va_get (D := G.1) (ci := 7) (v := .ref a7) (C := RX7) (T := TX7) (N := 17) hx hb hts hi7 hown hK hP 0 rfl rfl 7 (by decide) (hts (.fieldLink RX7 26 "ConflictEnumeratorModel" "text" "[I") (List.mem_of_getElem? (i := 3) rfl)) (fun _ h9 => h9) rfl dX7_isWord_43 ?_
        refine lv_aload_n hx hb dX7_isWord_46 rfl (lv_at hl 1 rfl) ?_
        refine va_get (D := G.1) (ci := 7) (v := .int (nI ts)) (C := RX7) (T := TX7) (N := 17) hx hb hts hi7 hown hK hP 0 rfl rfl 10 (by decide) (hts (.fieldLink RX7 45 "ConflictEnumeratorModel" "tokenStart" "I") (List.mem_of_getElem? (i := 2) rfl)) (fun _ h9 => h9) rfl dX7_isWord_47 ?_
        refine wa_iald hx hb hK hP 1 rfl (ts) (rfl) (by omega) (by decide) dX7_isWord_50 ?_
        refine lv_iload_n hx hb dX7_isWord_51 rfl (lv_at hl 2 rfl) ?_
        refine lv_icmp_ne (tgt := 59) hx hb dX7_isWord_52 (by decide) (fun c_52 => ?_) (fun c_52 => ?_)
        ·
          refine lv_iconst (v := 0) hx hb dX7_isWord_59 (by decide) ?_
          refine lv_istore (lv' := [(6, .int 0), (5, .int 2), (0, .ref m0), (1, .int a), (2, .int b), (3, .int c9), (4, .int d)]) hx hb dX7_isWord_60 hl (by decide) rfl (fun ls hl => ?_)
          refine lv_iload hx hb dX7_isWord_62 (lv_at hl 0 rfl) ?_
          refine lv_if_eq (tgt := 92) hx hb dX7_isWord_64 (by decide) (fun c_64 => ?_) (fun c_64 => absurd c_64 (by decide))
          refine lv_iconst (v := 0) hx hb dX7_isWord_92 (by decide) ?_
          refine lv_istore (lv' := [(6, .int 0), (5, .int 2), (0, .ref m0), (1, .int a), (2, .int b), (3, .int c9), (4, .int d)]) hx hb dX7_isWord_93 hl (by decide) rfl (fun ls hl => ?_)
          refine lv_iload hx hb dX7_isWord_95 (lv_at hl 0 rfl) ?_
          refine lv_if_eq (tgt := 125) hx hb dX7_isWord_97 (by decide) (fun c_97 => ?_) (fun c_97 => absurd c_97 (by decide))
          refine lv_iconst (v := 0) hx hb dX7_isWord_125 (by decide) ?_
          refine lv_istore (lv' := [(6, .int 0), (5, .int 2), (0, .ref m0), (1, .int a), (2, .int b), (3, .int c9), (4, .int d)]) hx hb dX7_isWord_126 hl (by decide) rfl (fun ls hl => ?_)
          refine lv_iload hx hb dX7_isWord_128 (lv_at hl 0 rfl) ?_
          refine lv_if_eq (tgt := 159) hx hb dX7_isWord_130 (by decide) (fun c_130 => ?_) (fun c_130 => absurd c_130 (by decide))
          refine lv_iconst (v := 0) hx hb dX7_isWord_159 (by decide) ?_
          exact ret 0 _ _ _ _ _ _ _ (Nat.le_of_ble_eq_true rfl) (Nat.le_of_ble_eq_true rfl) (rfl) (⟨by simp [bI, isW, wsz, c_1, c_9, c_39, c_52, c_64, c_97, c_130], rfl⟩) (hP.sub (ws' := [(m0, OB 7 [.int th, .ref a1, .ref a2, .ref a3, .int (nI ud), .ref a5, .ref a6, .ref a7, .int (nI ln), .int (nI nx), .int (nI ts), .int tk, .int vl, .int er, .ref a14, .int rq, .ref a16]), (a7, AI G 120 tf)]) [0, 1] rfl) (hD.sub (ws' := [(m0, OB 7 [.int th, .ref a1, .ref a2, .ref a3, .int (nI ud), .ref a5, .ref a6, .ref a7, .int (nI ln), .int (nI nx), .int (nI ts), .int tk, .int vl, .int er, .ref a14, .int rq, .ref a16]), (a7, AI G 120 tf)]) [0, 1] (by decide) rfl) hS dX7_isWord_160
        ·
          refine lv_iconst (v := 1) hx hb dX7_isWord_55 (by decide) ?_
          refine lv_goto (tgt := 60) hx hb dX7_isWord_56 (by decide) ?_
          refine lv_istore (lv' := [(6, .int 1), (5, .int 2), (0, .ref m0), (1, .int a), (2, .int b), (3, .int c9), (4, .int d)]) hx hb dX7_isWord_60 hl (by decide) rfl (fun ls hl => ?_)
          refine lv_iload hx hb dX7_isWord_62 (lv_at hl 0 rfl) ?_
          refine lv_if_eq (tgt := 92) hx hb dX7_isWord_64 (by decide) (fun c_64 => absurd c_64 (by decide)) (fun c_64 => ?_)
          refine lv_iload hx hb dX7_isWord_67 (lv_at hl 1 rfl) ?_
          refine lv_iconst (v := 2) hx hb dX7_isWord_69 (by decide) ?_
          refine lv_icmp_lt (tgt := 88) hx hb dX7_isWord_70 (by decide) (fun c_70 => absurd c_70 (by decide)) (fun c_70 => ?_)
          refine lv_aload_n hx hb dX7_isWord_73 rfl (lv_at hl 2 rfl) ?_
          refine va_get (D := G.1) (ci := 7) (v := .ref a7) (C := RX7) (T := TX7) (N := 17) hx hb hts hi7 hown hK hP 0 rfl rfl 7 (by decide) (hts (.fieldLink RX7 26 "ConflictEnumeratorModel" "text" "[I") (List.mem_of_getElem? (i := 3) rfl)) (fun _ h9 => h9) rfl dX7_isWord_74 ?_
          refine lv_aload_n hx hb dX7_isWord_77 rfl (lv_at hl 2 rfl) ?_
          refine va_get (D := G.1) (ci := 7) (v := .int (nI ts)) (C := RX7) (T := TX7) (N := 17) hx hb hts hi7 hown hK hP 0 rfl rfl 10 (by decide) (hts (.fieldLink RX7 45 "ConflictEnumeratorModel" "tokenStart" "I") (List.mem_of_getElem? (i := 2) rfl)) (fun _ h9 => h9) rfl dX7_isWord_78 ?_
          refine lv_iconst (v := 1) hx hb dX7_isWord_81 (by decide) ?_
          refine wn_iadd hx hb (ts) (1) rfl rfl dX7_isWord_82 ?_
          refine wa_iald hx hb hK hP 1 rfl (ts + 1) (rfl) (by omega) (by decide) dX7_isWord_83 ?_
          refine lv_iload_n hx hb dX7_isWord_84 rfl (lv_at hl 4 rfl) ?_
          refine lv_icmp_ne (tgt := 92) hx hb dX7_isWord_85 (by decide) (fun c_85 => ?_) (fun c_85 => ?_)
          ·
            refine lv_iconst (v := 0) hx hb dX7_isWord_92 (by decide) ?_
            refine lv_istore (lv' := [(6, .int 0), (5, .int 2), (0, .ref m0), (1, .int a), (2, .int b), (3, .int c9), (4, .int d)]) hx hb dX7_isWord_93 hl (by decide) rfl (fun ls hl => ?_)
            refine lv_iload hx hb dX7_isWord_95 (lv_at hl 0 rfl) ?_
            refine lv_if_eq (tgt := 125) hx hb dX7_isWord_97 (by decide) (fun c_97 => ?_) (fun c_97 => absurd c_97 (by decide))
            refine lv_iconst (v := 0) hx hb dX7_isWord_125 (by decide) ?_
            refine lv_istore (lv' := [(6, .int 0), (5, .int 2), (0, .ref m0), (1, .int a), (2, .int b), (3, .int c9), (4, .int d)]) hx hb dX7_isWord_126 hl (by decide) rfl (fun ls hl => ?_)
            refine lv_iload hx hb dX7_isWord_128 (lv_at hl 0 rfl) ?_
            refine lv_if_eq (tgt := 159) hx hb dX7_isWord_130 (by decide) (fun c_130 => ?_) (fun c_130 => absurd c_130 (by decide))
            refine lv_iconst (v := 0) hx hb dX7_isWord_159 (by decide) ?_
            exact ret 0 _ _ _ _ _ _ _ (Nat.le_of_ble_eq_true rfl) (Nat.le_of_ble_eq_true rfl) (rfl) (⟨by simp [bI, isW, wsz, c_1, c_9, c_39, c_52, c_64, c_70, c_85, c_97, c_130], rfl⟩) (hP.sub (ws' := [(m0, OB 7 [.int th, .ref a1, .ref a2, .ref a3, .int (nI ud), .ref a5, .ref a6, .ref a7, .int (nI ln), .int (nI nx), .int (nI ts), .int tk, .int vl, .int er, .ref a14, .int rq, .ref a16]), (a7, AI G 120 tf)]) [0, 1] rfl) (hD.sub (ws' := [(m0, OB 7 [.int th, .ref a1, .ref a2, .ref a3, .int (nI ud), .ref a5, .ref a6, .ref a7, .int (nI ln), .int (nI nx), .int (nI ts), .int tk, .int vl, .int er, .ref a14, .int rq, .ref a16]), (a7, AI G 120 tf)]) [0, 1] (by decide) rfl) hS dX7_isWord_160
          ·
            refine lv_iconst (v := 1) hx hb dX7_isWord_88 (by decide) ?_
            refine lv_goto (tgt := 93) hx hb dX7_isWord_89 (by decide) ?_
            refine lv_istore (lv' := [(6, .int 1), (5, .int 2), (0, .ref m0), (1, .int a), (2, .int b), (3, .int c9), (4, .int d)]) hx hb dX7_isWord_93 hl (by decide) rfl (fun ls hl => ?_)
            refine lv_iload hx hb dX7_isWord_95 (lv_at hl 0 rfl) ?_
            refine lv_if_eq (tgt := 125) hx hb dX7_isWord_97 (by decide) (fun c_97 => absurd c_97 (by decide)) (fun c_97 => ?_)
            refine lv_iload hx hb dX7_isWord_100 (lv_at hl 1 rfl) ?_
            refine lv_iconst (v := 3) hx hb dX7_isWord_102 (by decide) ?_
            refine lv_icmp_lt (tgt := 121) hx hb dX7_isWord_103 (by decide) (fun c_103 => ?_) (fun c_103 => absurd c_103 (by decide))
            refine lv_iconst (v := 1) hx hb dX7_isWord_121 (by decide) ?_
            refine lv_goto (tgt := 126) hx hb dX7_isWord_122 (by decide) ?_
            refine lv_istore (lv' := [(6, .int 1), (5, .int 2), (0, .ref m0), (1, .int a), (2, .int b), (3, .int c9), (4, .int d)]) hx hb dX7_isWord_126 hl (by decide) rfl (fun ls hl => ?_)
            refine lv_iload hx hb dX7_isWord_128 (lv_at hl 0 rfl) ?_
            refine lv_if_eq (tgt := 159) hx hb dX7_isWord_130 (by decide) (fun c_130 => absurd c_130 (by decide)) (fun c_130 => ?_)
            refine lv_iload hx hb dX7_isWord_133 (lv_at hl 1 rfl) ?_
            refine lv_iconst (v := 4) hx hb dX7_isWord_135 (by decide) ?_
            refine lv_icmp_lt (tgt := 155) hx hb dX7_isWord_136 (by decide) (fun c_136 => ?_) (fun c_136 => absurd c_136 (by decide))
            refine lv_iconst (v := 1) hx hb dX7_isWord_155 (by decide) ?_
            refine lv_goto (tgt := 160) hx hb dX7_isWord_156 (by decide) ?_
            exact ret 1 _ _ _ _ _ _ _ (Nat.le_of_ble_eq_true rfl) (Nat.le_of_ble_eq_true rfl) (rfl) (⟨by simp [bI, isW, wsz, c_1, c_9, c_39, c_52, c_64, c_70, c_85, c_97, c_103, c_130, c_136], rfl⟩) (hP.sub (ws' := [(m0, OB 7 [.int th, .ref a1, .ref a2, .ref a3, .int (nI ud), .ref a5, .ref a6, .ref a7, .int (nI ln), .int (nI nx), .int (nI ts), .int tk, .int vl, .int er, .ref a14, .int rq, .ref a16]), (a7, AI G 120 tf)]) [0, 1] rfl) (hD.sub (ws' := [(m0, OB 7 [.int th, .ref a1, .ref a2, .ref a3, .int (nI ud), .ref a5, .ref a6, .ref a7, .int (nI ln), .int (nI nx), .int (nI ts), .int tk, .int vl, .int er, .ref a14, .int rq, .ref a16]), (a7, AI G 120 tf)]) [0, 1] (by decide) rfl) hS dX7_isWord_160
  ·
    refine lv_iconst (v := 1) hx hb dX7_isWord_4 (by decide) ?_
    refine lv_goto (tgt := 26) hx hb dX7_isWord_5 (by decide) ?_
    refine lv_istore (lv' := [(5, .int 1), (0, .ref m0), (1, .int a), (2, .int b), (3, .int c9), (4, .int d)]) hx hb dX7_isWord_26 hl (by decide) rfl (fun ls hl => ?_)
    refine lv_aload_n hx hb dX7_isWord_28 rfl (lv_at hl 1 rfl) ?_
    refine va_get (D := G.1) (ci := 7) (v := .int (nI nx)) (C := RX7) (T := TX7) (N := 17) hx hb hts hi7 hown hK hP 0 rfl rfl 9 (by decide) (hts (.fieldLink RX7 42 "ConflictEnumeratorModel" "next" "I") (List.mem_of_getElem? (i := 1) rfl)) (fun _ h9 => h9) rfl dX7_isWord_29 ?_
    refine lv_aload_n hx hb dX7_isWord_32 rfl (lv_at hl 1 rfl) ?_
    refine va_get (D := G.1) (ci := 7) (v := .int (nI ts)) (C := RX7) (T := TX7) (N := 17) hx hb hts hi7 hown hK hP 0 rfl rfl 10 (by decide) (hts (.fieldLink RX7 45 "ConflictEnumeratorModel" "tokenStart" "I") (List.mem_of_getElem? (i := 2) rfl)) (fun _ h9 => h9) rfl dX7_isWord_33 ?_
    refine wn_isub hx hb (nx) (ts) rfl rfl (by omega) dX7_isWord_36 ?_
    refine lv_iload hx hb dX7_isWord_37 (lv_at hl 0 rfl) ?_
    refine lv_icmp_ne (tgt := 59) hx hb dX7_isWord_39 (by decide) (fun c_39 => ?_) (fun c_39 => ?_)
    ·
      have c_39 : (nx - ts) ≠ 1 := by have h9 := mt (nI_eq (a := nx - ts) (b := 1) (by omega) (by omega)).mpr c_39; omega
      refine lv_iconst (v := 0) hx hb dX7_isWord_59 (by decide) ?_
      refine lv_istore (lv' := [(6, .int 0), (5, .int 1), (0, .ref m0), (1, .int a), (2, .int b), (3, .int c9), (4, .int d)]) hx hb dX7_isWord_60 hl (by decide) rfl (fun ls hl => ?_)
      refine lv_iload hx hb dX7_isWord_62 (lv_at hl 0 rfl) ?_
      refine lv_if_eq (tgt := 92) hx hb dX7_isWord_64 (by decide) (fun c_64 => ?_) (fun c_64 => absurd c_64 (by decide))
      refine lv_iconst (v := 0) hx hb dX7_isWord_92 (by decide) ?_
      refine lv_istore (lv' := [(6, .int 0), (5, .int 1), (0, .ref m0), (1, .int a), (2, .int b), (3, .int c9), (4, .int d)]) hx hb dX7_isWord_93 hl (by decide) rfl (fun ls hl => ?_)
      refine lv_iload hx hb dX7_isWord_95 (lv_at hl 0 rfl) ?_
      refine lv_if_eq (tgt := 125) hx hb dX7_isWord_97 (by decide) (fun c_97 => ?_) (fun c_97 => absurd c_97 (by decide))
      refine lv_iconst (v := 0) hx hb dX7_isWord_125 (by decide) ?_
      refine lv_istore (lv' := [(6, .int 0), (5, .int 1), (0, .ref m0), (1, .int a), (2, .int b), (3, .int c9), (4, .int d)]) hx hb dX7_isWord_126 hl (by decide) rfl (fun ls hl => ?_)
      refine lv_iload hx hb dX7_isWord_128 (lv_at hl 0 rfl) ?_
      refine lv_if_eq (tgt := 159) hx hb dX7_isWord_130 (by decide) (fun c_130 => ?_) (fun c_130 => absurd c_130 (by decide))
      refine lv_iconst (v := 0) hx hb dX7_isWord_159 (by decide) ?_
      exact ret 0 _ _ _ _ _ _ _ (Nat.le_of_ble_eq_true rfl) (Nat.le_of_ble_eq_true rfl) (rfl) (⟨by simp [bI, isW, wsz, c_1, c_39, c_64, c_97, c_130], rfl⟩) (hP.sub (ws' := [(m0, OB 7 [.int th, .ref a1, .ref a2, .ref a3, .int (nI ud), .ref a5, .ref a6, .ref a7, .int (nI ln), .int (nI nx), .int (nI ts), .int tk, .int vl, .int er, .ref a14, .int rq, .ref a16]), (a7, AI G 120 tf)]) [0, 1] rfl) (hD.sub (ws' := [(m0, OB 7 [.int th, .ref a1, .ref a2, .ref a3, .int (nI ud), .ref a5, .ref a6, .ref a7, .int (nI ln), .int (nI nx), .int (nI ts), .int tk, .int vl, .int er, .ref a14, .int rq, .ref a16]), (a7, AI G 120 tf)]) [0, 1] (by decide) rfl) hS dX7_isWord_160
    ·
      have c_39 : (nx - ts) = 1 := (nI_eq (a := nx - ts) (b := 1) (by omega) (by omega)).mp c_39
      refine lv_aload_n hx hb dX7_isWord_42 rfl (lv_at hl 1 rfl) ?_
      refine va_get (D := G.1) (ci := 7) (v := .ref a7) (C := RX7) (T := TX7) (N := 17) hx hb hts hi7 hown hK hP 0 rfl rfl 7 (by decide) (hts (.fieldLink RX7 26 "ConflictEnumeratorModel" "text" "[I") (List.mem_of_getElem? (i := 3) rfl)) (fun _ h9 => h9) rfl dX7_isWord_43 ?_
      refine lv_aload_n hx hb dX7_isWord_46 rfl (lv_at hl 1 rfl) ?_
      refine va_get (D := G.1) (ci := 7) (v := .int (nI ts)) (C := RX7) (T := TX7) (N := 17) hx hb hts hi7 hown hK hP 0 rfl rfl 10 (by decide) (hts (.fieldLink RX7 45 "ConflictEnumeratorModel" "tokenStart" "I") (List.mem_of_getElem? (i := 2) rfl)) (fun _ h9 => h9) rfl dX7_isWord_47 ?_
      refine wa_iald hx hb hK hP 1 rfl (ts) (rfl) (by omega) (by decide) dX7_isWord_50 ?_
      refine lv_iload_n hx hb dX7_isWord_51 rfl (lv_at hl 2 rfl) ?_
      refine lv_icmp_ne (tgt := 59) hx hb dX7_isWord_52 (by decide) (fun c_52 => ?_) (fun c_52 => ?_)
      ·
        refine lv_iconst (v := 0) hx hb dX7_isWord_59 (by decide) ?_
        refine lv_istore (lv' := [(6, .int 0), (5, .int 1), (0, .ref m0), (1, .int a), (2, .int b), (3, .int c9), (4, .int d)]) hx hb dX7_isWord_60 hl (by decide) rfl (fun ls hl => ?_)
        refine lv_iload hx hb dX7_isWord_62 (lv_at hl 0 rfl) ?_
        refine lv_if_eq (tgt := 92) hx hb dX7_isWord_64 (by decide) (fun c_64 => ?_) (fun c_64 => absurd c_64 (by decide))
        refine lv_iconst (v := 0) hx hb dX7_isWord_92 (by decide) ?_
        refine lv_istore (lv' := [(6, .int 0), (5, .int 1), (0, .ref m0), (1, .int a), (2, .int b), (3, .int c9), (4, .int d)]) hx hb dX7_isWord_93 hl (by decide) rfl (fun ls hl => ?_)
        refine lv_iload hx hb dX7_isWord_95 (lv_at hl 0 rfl) ?_
        refine lv_if_eq (tgt := 125) hx hb dX7_isWord_97 (by decide) (fun c_97 => ?_) (fun c_97 => absurd c_97 (by decide))
        refine lv_iconst (v := 0) hx hb dX7_isWord_125 (by decide) ?_
        refine lv_istore (lv' := [(6, .int 0), (5, .int 1), (0, .ref m0), (1, .int a), (2, .int b), (3, .int c9), (4, .int d)]) hx hb dX7_isWord_126 hl (by decide) rfl (fun ls hl => ?_)
        refine lv_iload hx hb dX7_isWord_128 (lv_at hl 0 rfl) ?_
        refine lv_if_eq (tgt := 159) hx hb dX7_isWord_130 (by decide) (fun c_130 => ?_) (fun c_130 => absurd c_130 (by decide))
        refine lv_iconst (v := 0) hx hb dX7_isWord_159 (by decide) ?_
        exact ret 0 _ _ _ _ _ _ _ (Nat.le_of_ble_eq_true rfl) (Nat.le_of_ble_eq_true rfl) (rfl) (⟨by simp [bI, isW, wsz, c_1, c_39, c_52, c_64, c_97, c_130], rfl⟩) (hP.sub (ws' := [(m0, OB 7 [.int th, .ref a1, .ref a2, .ref a3, .int (nI ud), .ref a5, .ref a6, .ref a7, .int (nI ln), .int (nI nx), .int (nI ts), .int tk, .int vl, .int er, .ref a14, .int rq, .ref a16]), (a7, AI G 120 tf)]) [0, 1] rfl) (hD.sub (ws' := [(m0, OB 7 [.int th, .ref a1, .ref a2, .ref a3, .int (nI ud), .ref a5, .ref a6, .ref a7, .int (nI ln), .int (nI nx), .int (nI ts), .int tk, .int vl, .int er, .ref a14, .int rq, .ref a16]), (a7, AI G 120 tf)]) [0, 1] (by decide) rfl) hS dX7_isWord_160
      ·
        refine lv_iconst (v := 1) hx hb dX7_isWord_55 (by decide) ?_
        refine lv_goto (tgt := 60) hx hb dX7_isWord_56 (by decide) ?_
        refine lv_istore (lv' := [(6, .int 1), (5, .int 1), (0, .ref m0), (1, .int a), (2, .int b), (3, .int c9), (4, .int d)]) hx hb dX7_isWord_60 hl (by decide) rfl (fun ls hl => ?_)
        refine lv_iload hx hb dX7_isWord_62 (lv_at hl 0 rfl) ?_
        refine lv_if_eq (tgt := 92) hx hb dX7_isWord_64 (by decide) (fun c_64 => absurd c_64 (by decide)) (fun c_64 => ?_)
        refine lv_iload hx hb dX7_isWord_67 (lv_at hl 1 rfl) ?_
        refine lv_iconst (v := 2) hx hb dX7_isWord_69 (by decide) ?_
        refine lv_icmp_lt (tgt := 88) hx hb dX7_isWord_70 (by decide) (fun c_70 => ?_) (fun c_70 => absurd c_70 (by decide))
        refine lv_iconst (v := 1) hx hb dX7_isWord_88 (by decide) ?_
        refine lv_goto (tgt := 93) hx hb dX7_isWord_89 (by decide) ?_
        refine lv_istore (lv' := [(6, .int 1), (5, .int 1), (0, .ref m0), (1, .int a), (2, .int b), (3, .int c9), (4, .int d)]) hx hb dX7_isWord_93 hl (by decide) rfl (fun ls hl => ?_)
        refine lv_iload hx hb dX7_isWord_95 (lv_at hl 0 rfl) ?_
        refine lv_if_eq (tgt := 125) hx hb dX7_isWord_97 (by decide) (fun c_97 => absurd c_97 (by decide)) (fun c_97 => ?_)
        refine lv_iload hx hb dX7_isWord_100 (lv_at hl 1 rfl) ?_
        refine lv_iconst (v := 3) hx hb dX7_isWord_102 (by decide) ?_
        refine lv_icmp_lt (tgt := 121) hx hb dX7_isWord_103 (by decide) (fun c_103 => ?_) (fun c_103 => absurd c_103 (by decide))
        refine lv_iconst (v := 1) hx hb dX7_isWord_121 (by decide) ?_
        refine lv_goto (tgt := 126) hx hb dX7_isWord_122 (by decide) ?_
        refine lv_istore (lv' := [(6, .int 1), (5, .int 1), (0, .ref m0), (1, .int a), (2, .int b), (3, .int c9), (4, .int d)]) hx hb dX7_isWord_126 hl (by decide) rfl (fun ls hl => ?_)
        refine lv_iload hx hb dX7_isWord_128 (lv_at hl 0 rfl) ?_
        refine lv_if_eq (tgt := 159) hx hb dX7_isWord_130 (by decide) (fun c_130 => absurd c_130 (by decide)) (fun c_130 => ?_)
        refine lv_iload hx hb dX7_isWord_133 (lv_at hl 1 rfl) ?_
        refine lv_iconst (v := 4) hx hb dX7_isWord_135 (by decide) ?_
        refine lv_icmp_lt (tgt := 155) hx hb dX7_isWord_136 (by decide) (fun c_136 => ?_) (fun c_136 => absurd c_136 (by decide))
        refine lv_iconst (v := 1) hx hb dX7_isWord_155 (by decide) ?_
        refine lv_goto (tgt := 160) hx hb dX7_isWord_156 (by decide) ?_
        exact ret 1 _ _ _ _ _ _ _ (Nat.le_of_ble_eq_true rfl) (Nat.le_of_ble_eq_true rfl) (rfl) (⟨by simp [bI, isW, wsz, c_1, c_39, c_52, c_64, c_70, c_97, c_103, c_130, c_136], rfl⟩) (hP.sub (ws' := [(m0, OB 7 [.int th, .ref a1, .ref a2, .ref a3, .int (nI ud), .ref a5, .ref a6, .ref a7, .int (nI ln), .int (nI nx), .int (nI ts), .int tk, .int vl, .int er, .ref a14, .int rq, .ref a16]), (a7, AI G 120 tf)]) [0, 1] rfl) (hD.sub (ws' := [(m0, OB 7 [.int th, .ref a1, .ref a2, .ref a3, .int (nI ud), .ref a5, .ref a6, .ref a7, .int (nI ln), .int (nI nx), .int (nI ts), .int tk, .int vl, .int er, .ref a14, .int rq, .ref a16]), (a7, AI G 120 tf)]) [0, 1] (by decide) rfl) hS dX7_isWord_160
abbrev rmX7_keyword : Room := { frames := 1, cells := 0, slots := 0, locals := 26 }
set_option maxHeartbeats 4000000 in
set_option maxRecDepth 100000 in
theorem c_X7_keyword (l : Launch) (G : GT) (m0 a1 a2 a3 a5 a6 a7 a14 a16 : Nat) (th : Int32) (ud ln nx ts : Nat) (tk vl er rq : Int32) (tf : Nat → Int32) (hln : ln ≤ 120) (hts9 : ts < nx) (hnx : nx ≤ ln) : Ci l yX7_keyword wsX7_keyword rmX7_keyword G [.ref m0] [(m0, OB 7 [.int th, .ref a1, .ref a2, .ref a3, .int (nI ud), .ref a5, .ref a6, .ref a7, .int (nI ln), .int (nI nx), .int (nI ts), .int tk, .int vl, .int er, .ref a14, .int rq, .ref a16]), (a7, AI G 120 tf)] (fun r u => r = kwM tf ts nx ∧ u = [(m0, OB 7 [.int th, .ref a1, .ref a2, .ref a3, .int (nI ud), .ref a5, .ref a6, .ref a7, .int (nI ln), .int (nI nx), .int (nI ts), .int tk, .int vl, .int er, .ref a14, .int rq, .ref a16]), (a7, AI G 120 tf)]) := by
  refine Ci.of (cc := cX7_keyword) (maxL := 1) (ty := .int) (by decide) rfl (Nat.le_of_ble_eq_true rfl) ?_
  intro p e s m below meth c A ls Q hx hb hml hts hown hA hS hP hK hN hSS hD hl ret
  have hown : s.vm.findClass RX7 = some m.cls := hown
  have hl : lv_has ls 1 [(0, .ref m0)] := hl
  refine lv_aload_n hx hb dX7_keyword_0 rfl (lv_at hl 0 rfl) ?_
  refine lv_bipush (v := 111) hx hb dX7_keyword_1 (by decide) ?_
  refine lv_bipush (v := 114) hx hb dX7_keyword_3 (by decide) ?_
  refine lv_iconst (v := 0) hx hb dX7_keyword_5 (by decide) ?_
  refine lv_iconst (v := 0) hx hb dX7_keyword_6 (by decide) ?_
  refine call_Vi (rest := []) (As := [.int 111, .int 114, .int 0, .int 0]) (wr := []) (c1 := 0) (s1 := 0) ⟨hx, hb, hml, hown, hts⟩ (c_X7_isWord l G m0 a1 a2 a3 a5 a6 a7 a14 a16 th ud ln nx ts tk vl er rq tf 111 114 0 0 (by first | assumption | omega) (by first | assumption | omega) (by first | assumption | omega)) (cwV 4 hts gX7_keyword_X7_isWord rfl rfl rfl (by decide +kernel) ⟨Nat.le_of_ble_eq_true rfl, Nat.le_of_ble_eq_true rfl⟩) hK hN hSS hP hD hS hA 0 7 rfl rfl rfl [0, 1] [] rfl rfl (by decide) (by decide) (by decide) rfl hl.1 rfl (Nat.le_of_ble_eq_true rfl) dX7_keyword_7 ⟨Nat.le_of_ble_eq_true rfl, Nat.le_of_ble_eq_true rfl⟩ rfl rfl (fun r_7 u_7 H locs hpo hP hD hS => ?_)
  obtain ⟨hr9, rfl⟩ := hpo
  subst r_7
  have hP : va_P G.1 vwCl [(m0, OB 7 [.int th, .ref a1, .ref a2, .ref a3, .int (nI ud), .ref a5, .ref a6, .ref a7, .int (nI ln), .int (nI nx), .int (nI ts), .int tk, .int vl, .int er, .ref a14, .int rq, .ref a16]), (a7, AI G 120 tf)] H := hP
  have hD : va_D A [(m0, OB 7 [.int th, .ref a1, .ref a2, .ref a3, .int (nI ud), .ref a5, .ref a6, .ref a7, .int (nI ln), .int (nI nx), .int (nI ts), .int tk, .int vl, .int er, .ref a14, .int rq, .ref a16]), (a7, AI G 120 tf)] := hD
  refine wb_eq (tgt := 15) hx hb dX7_keyword_10 (by decide) (fun c_10 => ?_) (fun c_10 => ?_)
  ·
    refine lv_aload_n hx hb dX7_keyword_15 rfl (lv_at hl 0 rfl) ?_
    refine lv_bipush (v := 120) hx hb dX7_keyword_16 (by decide) ?_
    refine lv_bipush (v := 111) hx hb dX7_keyword_18 (by decide) ?_
    refine lv_bipush (v := 114) hx hb dX7_keyword_20 (by decide) ?_
    refine lv_iconst (v := 0) hx hb dX7_keyword_22 (by decide) ?_
    refine call_Vi (rest := []) (As := [.int 120, .int 111, .int 114, .int 0]) (wr := []) (c1 := 0) (s1 := 0) ⟨hx, hb, hml, hown, hts⟩ (c_X7_isWord l G m0 a1 a2 a3 a5 a6 a7 a14 a16 th ud ln nx ts tk vl er rq tf 120 111 114 0 (by first | assumption | omega) (by first | assumption | omega) (by first | assumption | omega)) (cwV 4 hts gX7_keyword_X7_isWord rfl rfl rfl (by decide +kernel) ⟨Nat.le_of_ble_eq_true rfl, Nat.le_of_ble_eq_true rfl⟩) hK hN hSS hP hD hS hA 0 7 rfl rfl rfl [0, 1] [] rfl rfl (by decide) (by decide) (by decide) rfl hl.1 rfl (Nat.le_of_ble_eq_true rfl) dX7_keyword_23 ⟨Nat.le_of_ble_eq_true rfl, Nat.le_of_ble_eq_true rfl⟩ rfl rfl (fun r_23 u_23 H locs hpo hP hD hS => ?_)
    obtain ⟨hr9, rfl⟩ := hpo
    subst r_23
    have hP : va_P G.1 vwCl [(m0, OB 7 [.int th, .ref a1, .ref a2, .ref a3, .int (nI ud), .ref a5, .ref a6, .ref a7, .int (nI ln), .int (nI nx), .int (nI ts), .int tk, .int vl, .int er, .ref a14, .int rq, .ref a16]), (a7, AI G 120 tf)] H := hP
    have hD : va_D A [(m0, OB 7 [.int th, .ref a1, .ref a2, .ref a3, .int (nI ud), .ref a5, .ref a6, .ref a7, .int (nI ln), .int (nI nx), .int (nI ts), .int tk, .int vl, .int er, .ref a14, .int rq, .ref a16]), (a7, AI G 120 tf)] := hD
    refine wb_eq (tgt := 31) hx hb dX7_keyword_26 (by decide) (fun c_26 => ?_) (fun c_26 => ?_)
    ·
      refine lv_aload_n hx hb dX7_keyword_31 rfl (lv_at hl 0 rfl) ?_
      refine lv_bipush (v := 109) hx hb dX7_keyword_32 (by decide) ?_
      refine lv_bipush (v := 111) hx hb dX7_keyword_34 (by decide) ?_
      refine lv_bipush (v := 115) hx hb dX7_keyword_36 (by decide) ?_
      refine lv_bipush (v := 116) hx hb dX7_keyword_38 (by decide) ?_
      refine call_Vi (rest := []) (As := [.int 109, .int 111, .int 115, .int 116]) (wr := []) (c1 := 0) (s1 := 0) ⟨hx, hb, hml, hown, hts⟩ (c_X7_isWord l G m0 a1 a2 a3 a5 a6 a7 a14 a16 th ud ln nx ts tk vl er rq tf 109 111 115 116 (by first | assumption | omega) (by first | assumption | omega) (by first | assumption | omega)) (cwV 4 hts gX7_keyword_X7_isWord rfl rfl rfl (by decide +kernel) ⟨Nat.le_of_ble_eq_true rfl, Nat.le_of_ble_eq_true rfl⟩) hK hN hSS hP hD hS hA 0 7 rfl rfl rfl [0, 1] [] rfl rfl (by decide) (by decide) (by decide) rfl hl.1 rfl (Nat.le_of_ble_eq_true rfl) dX7_keyword_40 ⟨Nat.le_of_ble_eq_true rfl, Nat.le_of_ble_eq_true rfl⟩ rfl rfl (fun r_40 u_40 H locs hpo hP hD hS => ?_)
      obtain ⟨hr9, rfl⟩ := hpo
      subst r_40
      have hP : va_P G.1 vwCl [(m0, OB 7 [.int th, .ref a1, .ref a2, .ref a3, .int (nI ud), .ref a5, .ref a6, .ref a7, .int (nI ln), .int (nI nx), .int (nI ts), .int tk, .int vl, .int er, .ref a14, .int rq, .ref a16]), (a7, AI G 120 tf)] H := hP
      have hD : va_D A [(m0, OB 7 [.int th, .ref a1, .ref a2, .ref a3, .int (nI ud), .ref a5, .ref a6, .ref a7, .int (nI ln), .int (nI nx), .int (nI ts), .int tk, .int vl, .int er, .ref a14, .int rq, .ref a16]), (a7, AI G 120 tf)] := hD
      refine wb_eq (tgt := 48) hx hb dX7_keyword_43 (by decide) (fun c_43 => ?_) (fun c_43 => ?_)
      ·
        refine lv_aload_n hx hb dX7_keyword_48 rfl (lv_at hl 0 rfl) ?_
        refine lv_bipush (v := 119) hx hb dX7_keyword_49 (by decide) ?_
        refine lv_iconst (v := 0) hx hb dX7_keyword_51 (by decide) ?_
        refine lv_iconst (v := 0) hx hb dX7_keyword_52 (by decide) ?_
        refine lv_iconst (v := 0) hx hb dX7_keyword_53 (by decide) ?_
        refine call_Vi (rest := []) (As := [.int 119, .int 0, .int 0, .int 0]) (wr := []) (c1 := 0) (s1 := 0) ⟨hx, hb, hml, hown, hts⟩ (c_X7_isWord l G m0 a1 a2 a3 a5 a6 a7 a14 a16 th ud ln nx ts tk vl er rq tf 119 0 0 0 (by first | assumption | omega) (by first | assumption | omega) (by first | assumption | omega)) (cwV 4 hts gX7_keyword_X7_isWord rfl rfl rfl (by decide +kernel) ⟨Nat.le_of_ble_eq_true rfl, Nat.le_of_ble_eq_true rfl⟩) hK hN hSS hP hD hS hA 0 7 rfl rfl rfl [0, 1] [] rfl rfl (by decide) (by decide) (by decide) rfl hl.1 rfl (Nat.le_of_ble_eq_true rfl) dX7_keyword_54 ⟨Nat.le_of_ble_eq_true rfl, Nat.le_of_ble_eq_true rfl⟩ rfl rfl (fun r_54 u_54 H locs hpo hP hD hS => ?_)
        obtain ⟨hr9, rfl⟩ := hpo
        subst r_54
        have hP : va_P G.1 vwCl [(m0, OB 7 [.int th, .ref a1, .ref a2, .ref a3, .int (nI ud), .ref a5, .ref a6, .ref a7, .int (nI ln), .int (nI nx), .int (nI ts), .int tk, .int vl, .int er, .ref a14, .int rq, .ref a16]), (a7, AI G 120 tf)] H := hP
        have hD : va_D A [(m0, OB 7 [.int th, .ref a1, .ref a2, .ref a3, .int (nI ud), .ref a5, .ref a6, .ref a7, .int (nI ln), .int (nI nx), .int (nI ts), .int tk, .int vl, .int er, .ref a14, .int rq, .ref a16]), (a7, AI G 120 tf)] := hD
        refine wb_eq (tgt := 64) hx hb dX7_keyword_57 (by decide) (fun c_57 => ?_) (fun c_57 => ?_)
        ·
          refine lv_aload_n hx hb dX7_keyword_64 rfl (lv_at hl 0 rfl) ?_
          refine lv_bipush (v := 104) hx hb dX7_keyword_65 (by decide) ?_
          refine lv_bipush (v := 97) hx hb dX7_keyword_67 (by decide) ?_
          refine lv_bipush (v := 114) hx hb dX7_keyword_69 (by decide) ?_
          refine lv_bipush (v := 100) hx hb dX7_keyword_71 (by decide) ?_
          refine call_Vi (rest := []) (As := [.int 104, .int 97, .int 114, .int 100]) (wr := []) (c1 := 0) (s1 := 0) ⟨hx, hb, hml, hown, hts⟩ (c_X7_isWord l G m0 a1 a2 a3 a5 a6 a7 a14 a16 th ud ln nx ts tk vl er rq tf 104 97 114 100 (by first | assumption | omega) (by first | assumption | omega) (by first | assumption | omega)) (cwV 4 hts gX7_keyword_X7_isWord rfl rfl rfl (by decide +kernel) ⟨Nat.le_of_ble_eq_true rfl, Nat.le_of_ble_eq_true rfl⟩) hK hN hSS hP hD hS hA 0 7 rfl rfl rfl [0, 1] [] rfl rfl (by decide) (by decide) (by decide) rfl hl.1 rfl (Nat.le_of_ble_eq_true rfl) dX7_keyword_73 ⟨Nat.le_of_ble_eq_true rfl, Nat.le_of_ble_eq_true rfl⟩ rfl rfl (fun r_73 u_73 H locs hpo hP hD hS => ?_)
          obtain ⟨hr9, rfl⟩ := hpo
          subst r_73
          have hP : va_P G.1 vwCl [(m0, OB 7 [.int th, .ref a1, .ref a2, .ref a3, .int (nI ud), .ref a5, .ref a6, .ref a7, .int (nI ln), .int (nI nx), .int (nI ts), .int tk, .int vl, .int er, .ref a14, .int rq, .ref a16]), (a7, AI G 120 tf)] H := hP
          have hD : va_D A [(m0, OB 7 [.int th, .ref a1, .ref a2, .ref a3, .int (nI ud), .ref a5, .ref a6, .ref a7, .int (nI ln), .int (nI nx), .int (nI ts), .int tk, .int vl, .int er, .ref a14, .int rq, .ref a16]), (a7, AI G 120 tf)] := hD
          refine wb_eq (tgt := 83) hx hb dX7_keyword_76 (by decide) (fun c_76 => ?_) (fun c_76 => ?_)
          ·
            refine lv_bipush (v := (-9)) hx hb dX7_keyword_83 (by decide) ?_
            exact ret (-9) _ _ _ _ _ _ _ (Nat.le_of_ble_eq_true rfl) (Nat.le_of_ble_eq_true rfl) (rfl) (⟨by simp [kwM, c_10, c_26, c_43, c_57, c_76], rfl⟩) (hP.sub (ws' := [(m0, OB 7 [.int th, .ref a1, .ref a2, .ref a3, .int (nI ud), .ref a5, .ref a6, .ref a7, .int (nI ln), .int (nI nx), .int (nI ts), .int tk, .int vl, .int er, .ref a14, .int rq, .ref a16]), (a7, AI G 120 tf)]) [0, 1] rfl) (hD.sub (ws' := [(m0, OB 7 [.int th, .ref a1, .ref a2, .ref a3, .int (nI ud), .ref a5, .ref a6, .ref a7, .int (nI ln), .int (nI nx), .int (nI ts), .int tk, .int vl, .int er, .ref a14, .int rq, .ref a16]), (a7, AI G 120 tf)]) [0, 1] (by decide) rfl) hS dX7_keyword_85
          ·
            refine lv_iconst (v := 5) hx hb dX7_keyword_79 (by decide) ?_
            refine lv_goto (tgt := 85) hx hb dX7_keyword_80 (by decide) ?_
            exact ret 5 _ _ _ _ _ _ _ (Nat.le_of_ble_eq_true rfl) (Nat.le_of_ble_eq_true rfl) (rfl) (⟨by simp [kwM, c_10, c_26, c_43, c_57, c_76], rfl⟩) (hP.sub (ws' := [(m0, OB 7 [.int th, .ref a1, .ref a2, .ref a3, .int (nI ud), .ref a5, .ref a6, .ref a7, .int (nI ln), .int (nI nx), .int (nI ts), .int tk, .int vl, .int er, .ref a14, .int rq, .ref a16]), (a7, AI G 120 tf)]) [0, 1] rfl) (hD.sub (ws' := [(m0, OB 7 [.int th, .ref a1, .ref a2, .ref a3, .int (nI ud), .ref a5, .ref a6, .ref a7, .int (nI ln), .int (nI nx), .int (nI ts), .int tk, .int vl, .int er, .ref a14, .int rq, .ref a16]), (a7, AI G 120 tf)]) [0, 1] (by decide) rfl) hS dX7_keyword_85
        ·
          refine lv_iconst (v := 4) hx hb dX7_keyword_60 (by decide) ?_
          refine lv_goto (tgt := 85) hx hb dX7_keyword_61 (by decide) ?_
          exact ret 4 _ _ _ _ _ _ _ (Nat.le_of_ble_eq_true rfl) (Nat.le_of_ble_eq_true rfl) (rfl) (⟨by simp [kwM, c_10, c_26, c_43, c_57], rfl⟩) (hP.sub (ws' := [(m0, OB 7 [.int th, .ref a1, .ref a2, .ref a3, .int (nI ud), .ref a5, .ref a6, .ref a7, .int (nI ln), .int (nI nx), .int (nI ts), .int tk, .int vl, .int er, .ref a14, .int rq, .ref a16]), (a7, AI G 120 tf)]) [0, 1] rfl) (hD.sub (ws' := [(m0, OB 7 [.int th, .ref a1, .ref a2, .ref a3, .int (nI ud), .ref a5, .ref a6, .ref a7, .int (nI ln), .int (nI nx), .int (nI ts), .int tk, .int vl, .int er, .ref a14, .int rq, .ref a16]), (a7, AI G 120 tf)]) [0, 1] (by decide) rfl) hS dX7_keyword_85
      ·
        refine lv_iconst (v := 3) hx hb dX7_keyword_46 (by decide) ?_
        exact ret 3 _ _ _ _ _ _ _ (Nat.le_of_ble_eq_true rfl) (Nat.le_of_ble_eq_true rfl) (rfl) (⟨by simp [kwM, c_10, c_26, c_43], rfl⟩) (hP.sub (ws' := [(m0, OB 7 [.int th, .ref a1, .ref a2, .ref a3, .int (nI ud), .ref a5, .ref a6, .ref a7, .int (nI ln), .int (nI nx), .int (nI ts), .int tk, .int vl, .int er, .ref a14, .int rq, .ref a16]), (a7, AI G 120 tf)]) [0, 1] rfl) (hD.sub (ws' := [(m0, OB 7 [.int th, .ref a1, .ref a2, .ref a3, .int (nI ud), .ref a5, .ref a6, .ref a7, .int (nI ln), .int (nI nx), .int (nI ts), .int tk, .int vl, .int er, .ref a14, .int rq, .ref a16]), (a7, AI G 120 tf)]) [0, 1] (by decide) rfl) hS dX7_keyword_47
    ·
      refine lv_iconst (v := 2) hx hb dX7_keyword_29 (by decide) ?_
      exact ret 2 _ _ _ _ _ _ _ (Nat.le_of_ble_eq_true rfl) (Nat.le_of_ble_eq_true rfl) (rfl) (⟨by simp [kwM, c_10, c_26], rfl⟩) (hP.sub (ws' := [(m0, OB 7 [.int th, .ref a1, .ref a2, .ref a3, .int (nI ud), .ref a5, .ref a6, .ref a7, .int (nI ln), .int (nI nx), .int (nI ts), .int tk, .int vl, .int er, .ref a14, .int rq, .ref a16]), (a7, AI G 120 tf)]) [0, 1] rfl) (hD.sub (ws' := [(m0, OB 7 [.int th, .ref a1, .ref a2, .ref a3, .int (nI ud), .ref a5, .ref a6, .ref a7, .int (nI ln), .int (nI nx), .int (nI ts), .int tk, .int vl, .int er, .ref a14, .int rq, .ref a16]), (a7, AI G 120 tf)]) [0, 1] (by decide) rfl) hS dX7_keyword_30
  ·
    refine lv_iconst (v := 1) hx hb dX7_keyword_13 (by decide) ?_
    exact ret 1 _ _ _ _ _ _ _ (Nat.le_of_ble_eq_true rfl) (Nat.le_of_ble_eq_true rfl) (rfl) (⟨by simp [kwM, c_10], rfl⟩) (hP.sub (ws' := [(m0, OB 7 [.int th, .ref a1, .ref a2, .ref a3, .int (nI ud), .ref a5, .ref a6, .ref a7, .int (nI ln), .int (nI nx), .int (nI ts), .int tk, .int vl, .int er, .ref a14, .int rq, .ref a16]), (a7, AI G 120 tf)]) [0, 1] rfl) (hD.sub (ws' := [(m0, OB 7 [.int th, .ref a1, .ref a2, .ref a3, .int (nI ud), .ref a5, .ref a6, .ref a7, .int (nI ln), .int (nI nx), .int (nI ts), .int tk, .int vl, .int er, .ref a14, .int rq, .ref a16]), (a7, AI G 120 tf)]) [0, 1] (by decide) rfl) hS dX7_keyword_14
abbrev rmX7_advance : Room := { frames := 2, cells := 0, slots := 0, locals := 46 }
set_option maxHeartbeats 4000000 in
set_option maxRecDepth 100000 in
theorem c_X7_advance (l : Launch) (G : GT) (m0 a1 a2 a3 a5 a6 a7 a14 a16 : Nat) (th : Int32) (ud ln nx ts : Nat) (tk vl er rq : Int32) (tf : Nat → Int32) (hln : ln ≤ 120) (hnx : nx ≤ ln) : Cv l yX7_advance wsX7_advance rmX7_advance G [.ref m0] [(m0, OB 7 [.int th, .ref a1, .ref a2, .ref a3, .int (nI ud), .ref a5, .ref a6, .ref a7, .int (nI ln), .int (nI nx), .int (nI ts), .int tk, .int vl, .int er, .ref a14, .int rq, .ref a16]), (a7, AI G 120 tf)] (fun u => u = [(m0, OB 7 [.int th, .ref a1, .ref a2, .ref a3, .int (nI ud), .ref a5, .ref a6, .ref a7, .int (nI ln), .int (nI ((advM tf ln nx vl).1)), .int (nI ((advM tf ln nx vl).2.1)), .int ((advM tf ln nx vl).2.2.1), .int ((advM tf ln nx vl).2.2.2), .int er, .ref a14, .int rq, .ref a16]), (a7, AI G 120 tf)]) := by
  refine Cv.of (cc := cX7_advance) (maxL := 2) (by decide) rfl (Nat.le_of_ble_eq_true rfl) ?_
  intro p e s m below meth c A ls Q hx hb hml hts hown hin hA hS hP hK hN hSS hD hl ret
  have hown : s.vm.findClass RX7 = some m.cls := hown
  have hl : lv_has ls 2 [(0, .ref m0)] := hl
  have hi7 : ∀ w ∈ wsX70, w ∈ wsX7_advance := mem_places [23, 24, 25, 26, 27, 28, 29, 30, 31, 32, 33, 34, 35, 36, 37, 38, 39] (by decide +kernel)
  have L0 : ∀ (kf : Nat) (i : Nat) (H : Heap) (locs : List Loc) (ls : Array Slot), ln - i < kf → (i ≤ ln) → (nx ≤ i) → (skipW (spP tf ln) i (ln - i) = skipW (spP tf ln) nx (ln - nx)) → va_P G.1 vwCl [(m0, OB 7 [.int th, .ref a1, .ref a2, .ref a3, .int (nI ud), .ref a5, .ref a6, .ref a7, .int (nI ln), .int (nI i), .int (nI ts), .int tk, .int vl, .int er, .ref a14, .int rq, .ref a16]), (a7, AI G 120 tf)] H → va_D A [(m0, OB 7 [.int th, .ref a1, .ref a2, .ref a3, .int (nI ud), .ref a5, .ref a6, .ref a7, .int (nI ln), .int (nI i), .int (nI ts), .int tk, .int vl, .int er, .ref a14, .int rq, .ref a16]), (a7, AI G 120 tf)] → va_S A s.heap H locs → lv_has ls 2 [(0, .ref m0)] → W p l e rmX7_advance s m ([.ref m0] : List Value).toArray below meth c H locs 0 0 Q (F0 m 0 ls []) := by
    intro kf
    induction kf with
    | zero => intro i H locs ls h; exact absurd h (Nat.not_lt_zero _)
    | succ kf ih =>
      intro i H locs ls hk hi hi2 hsk hP hD hS hl
      refine lv_aload_n hx hb dX7_advance_0 rfl (lv_at hl 0 rfl) ?_
      refine lv_aload_n hx hb dX7_advance_1 rfl (lv_at hl 0 rfl) ?_
      refine va_get (D := G.1) (ci := 7) (v := .int (nI i)) (C := RX7) (T := TX7) (N := 17) hx hb hts hi7 hown hK hP 0 rfl rfl 9 (by decide) (hts (.fieldLink RX7 42 "ConflictEnumeratorModel" "next" "I") (List.mem_of_getElem? (i := 1) rfl)) (fun _ h9 => h9) rfl dX7_advance_2 ?_
      refine call_Vi (rest := []) (As := [.int (nI i)]) (wr := []) (c1 := 0) (s1 := 0) ⟨hx, hb, hml, hown, hts⟩ (c_X7_characterAt l G m0 a1 a2 a3 a5 a6 a7 a14 a16 th ud ln i ts tk vl er rq tf i (by first | assumption | omega) (by first | assumption | omega)) (cwV 1 hts gX7_advance_X7_characterAt rfl rfl rfl (by decide +kernel) ⟨Nat.le_of_ble_eq_true rfl, Nat.le_of_ble_eq_true rfl⟩) hK hN hSS hP hD hS hA 0 7 rfl rfl rfl [0, 1] [] rfl rfl (by decide) (by decide) (by decide) rfl hl.1 rfl (Nat.le_of_ble_eq_true rfl) dX7_advance_5 ⟨Nat.le_of_ble_eq_true rfl, Nat.le_of_ble_eq_true rfl⟩ rfl rfl (fun r_5 u_5 H locs hpo hP hD hS => ?_)
      obtain ⟨hr9, rfl⟩ := hpo
      subst r_5
      have hP : va_P G.1 vwCl [(m0, OB 7 [.int th, .ref a1, .ref a2, .ref a3, .int (nI ud), .ref a5, .ref a6, .ref a7, .int (nI ln), .int (nI i), .int (nI ts), .int tk, .int vl, .int er, .ref a14, .int rq, .ref a16]), (a7, AI G 120 tf)] H := hP
      have hD : va_D A [(m0, OB 7 [.int th, .ref a1, .ref a2, .ref a3, .int (nI ud), .ref a5, .ref a6, .ref a7, .int (nI ln), .int (nI i), .int (nI ts), .int tk, .int vl, .int er, .ref a14, .int rq, .ref a16]), (a7, AI G 120 tf)] := hD
      refine lv_bipush (v := 32) hx hb dX7_advance_8 (by decide) ?_
      refine lv_icmp_ne (tgt := 26) hx hb dX7_advance_10 (by decide) (fun c_10 => ?_) (fun c_10 => ?_)
      ·
        refine lv_aload_n hx hb dX7_advance_26 rfl (lv_at hl 0 rfl) ?_
        refine lv_aload_n hx hb dX7_advance_27 rfl (lv_at hl 0 rfl) ?_
        refine va_get (D := G.1) (ci := 7) (v := .int (nI i)) (C := RX7) (T := TX7) (N := 17) hx hb hts hi7 hown hK hP 0 rfl rfl 9 (by decide) (hts (.fieldLink RX7 42 "ConflictEnumeratorModel" "next" "I") (List.mem_of_getElem? (i := 1) rfl)) (fun _ h9 => h9) rfl dX7_advance_28 ?_
        refine va_put (D := G.1) (ci := 7) (v := .int (nI i)) (ty := .int) (C := RX7) (T := TX7) (N := 17) hx hb hts hi7 tyX7 tyX7_ok nmX7 hown hK hP hD hS 0 rfl rfl 10 (by decide) (hts (.fieldLink RX7 45 "ConflictEnumeratorModel" "tokenStart" "I") (List.mem_of_getElem? (i := 2) rfl)) (fun _ h9 => h9) rfl (by decide +kernel) rfl rfl (Nat.le_of_ble_eq_true rfl) dX7_advance_31 (fun H locs hP hD hS => ?_)
        have hP : va_P G.1 vwCl [(m0, OB 7 [.int th, .ref a1, .ref a2, .ref a3, .int (nI ud), .ref a5, .ref a6, .ref a7, .int (nI ln), .int (nI i), .int (nI i), .int tk, .int vl, .int er, .ref a14, .int rq, .ref a16]), (a7, AI G 120 tf)] H := hP
        have hD : va_D A [(m0, OB 7 [.int th, .ref a1, .ref a2, .ref a3, .int (nI ud), .ref a5, .ref a6, .ref a7, .int (nI ln), .int (nI i), .int (nI i), .int tk, .int vl, .int er, .ref a14, .int rq, .ref a16]), (a7, AI G 120 tf)] := hD
        refine lv_aload_n hx hb dX7_advance_34 rfl (lv_at hl 0 rfl) ?_
        refine lv_aload_n hx hb dX7_advance_35 rfl (lv_at hl 0 rfl) ?_
        refine va_get (D := G.1) (ci := 7) (v := .int (nI i)) (C := RX7) (T := TX7) (N := 17) hx hb hts hi7 hown hK hP 0 rfl rfl 9 (by decide) (hts (.fieldLink RX7 42 "ConflictEnumeratorModel" "next" "I") (List.mem_of_getElem? (i := 1) rfl)) (fun _ h9 => h9) rfl dX7_advance_36 ?_
        refine call_Vi (rest := []) (As := [.int (nI i)]) (wr := []) (c1 := 0) (s1 := 0) ⟨hx, hb, hml, hown, hts⟩ (c_X7_characterAt l G m0 a1 a2 a3 a5 a6 a7 a14 a16 th ud ln i i tk vl er rq tf i (by first | assumption | omega) (by first | assumption | omega)) (cwV 1 hts gX7_advance_X7_characterAt rfl rfl rfl (by decide +kernel) ⟨Nat.le_of_ble_eq_true rfl, Nat.le_of_ble_eq_true rfl⟩) hK hN hSS hP hD hS hA 0 7 rfl rfl rfl [0, 1] [] rfl rfl (by decide) (by decide) (by decide) rfl hl.1 rfl (Nat.le_of_ble_eq_true rfl) dX7_advance_39 ⟨Nat.le_of_ble_eq_true rfl, Nat.le_of_ble_eq_true rfl⟩ rfl rfl (fun r_39 u_39 H locs hpo hP hD hS => ?_)
        obtain ⟨hr9, rfl⟩ := hpo
        subst r_39
        have hP : va_P G.1 vwCl [(m0, OB 7 [.int th, .ref a1, .ref a2, .ref a3, .int (nI ud), .ref a5, .ref a6, .ref a7, .int (nI ln), .int (nI i), .int (nI i), .int tk, .int vl, .int er, .ref a14, .int rq, .ref a16]), (a7, AI G 120 tf)] H := hP
        have hD : va_D A [(m0, OB 7 [.int th, .ref a1, .ref a2, .ref a3, .int (nI ud), .ref a5, .ref a6, .ref a7, .int (nI ln), .int (nI i), .int (nI i), .int tk, .int vl, .int er, .ref a14, .int rq, .ref a16]), (a7, AI G 120 tf)] := hD
        refine lv_istore_n (lv' := [(1, .int (chA tf ln i)), (0, .ref m0)]) hx hb dX7_advance_42 rfl hl (by decide) rfl (fun ls hl => ?_)
        refine lv_iload_n hx hb dX7_advance_43 rfl (lv_at hl 0 rfl) ?_
        refine lv_if_ge (tgt := 55) hx hb dX7_advance_44 (by decide) (fun c_44 => ?_) (fun c_44 => ?_)
        ·
          have c_44 : ¬ (chA tf ln i) < 0 := Int32.not_lt.mpr c_44
          have hil9 : i < ln := chA_in (P := fun z => ¬ z < 0) c_44 (by decide)
          refine lv_iload_n hx hb dX7_advance_55 rfl (lv_at hl 0 rfl) ?_
          refine lv_bipush (v := 97) hx hb dX7_advance_56 (by decide) ?_
          refine lv_bipush (v := 122) hx hb dX7_advance_58 (by decide) ?_
          refine call_Si (rest := []) (As := [.int (chA tf ln i), .int 97, .int 122]) (wr := [(m0, OB 7 [.int th, .ref a1, .ref a2, .ref a3, .int (nI ud), .ref a5, .ref a6, .ref a7, .int (nI ln), .int (nI i), .int (nI i), .int tk, .int vl, .int er, .ref a14, .int rq, .ref a16]), (a7, AI G 120 tf)]) (c1 := 0) (s1 := 0) ⟨hx, hb, hml, hown, hts⟩ (c_X7_in l G (chA tf ln i) 97 122 ) (va_cwS 3 hts gX7_advance_X7_in rfl rfl rfl (by decide +kernel) ⟨Nat.le_of_ble_eq_true rfl, Nat.le_of_ble_eq_true rfl⟩) hK hN hSS hP hD hS hA [] [0, 1] rfl rfl (by decide) (by decide) (by decide) rfl hl.1 rfl (Nat.le_of_ble_eq_true rfl) dX7_advance_60 ⟨Nat.le_of_ble_eq_true rfl, Nat.le_of_ble_eq_true rfl⟩ rfl rfl (fun r_60 u_60 H locs hpo hP hD hS => ?_)
          obtain ⟨hr9, rfl⟩ := hpo
          subst r_60
          have hP : va_P G.1 vwCl [(m0, OB 7 [.int th, .ref a1, .ref a2, .ref a3, .int (nI ud), .ref a5, .ref a6, .ref a7, .int (nI ln), .int (nI i), .int (nI i), .int tk, .int vl, .int er, .ref a14, .int rq, .ref a16]), (a7, AI G 120 tf)] H := hP
          have hD : va_D A [(m0, OB 7 [.int th, .ref a1, .ref a2, .ref a3, .int (nI ud), .ref a5, .ref a6, .ref a7, .int (nI ln), .int (nI i), .int (nI i), .int tk, .int vl, .int er, .ref a14, .int rq, .ref a16]), (a7, AI G 120 tf)] := hD
          refine wb_eq (tgt := 113) hx hb dX7_advance_63 (by decide) (fun c_63 => ?_) (fun c_63 => ?_)
          ·
            refine lv_aload_n hx hb dX7_advance_113 rfl (lv_at hl 1 rfl) ?_
            refine lv_dup hx hb dX7_advance_114 rfl ?_
            refine va_get (D := G.1) (ci := 7) (v := .int (nI i)) (C := RX7) (T := TX7) (N := 17) hx hb hts hi7 hown hK hP 0 rfl rfl 9 (by decide) (hts (.fieldLink RX7 42 "ConflictEnumeratorModel" "next" "I") (List.mem_of_getElem? (i := 1) rfl)) (fun _ h9 => h9) rfl dX7_advance_115 ?_
            refine lv_iconst (v := 1) hx hb dX7_advance_118 (by decide) ?_
            refine wn_iadd hx hb (i) (1) rfl rfl dX7_advance_119 ?_
            refine va_put (D := G.1) (ci := 7) (v := .int (nI (i + 1))) (ty := .int) (C := RX7) (T := TX7) (N := 17) hx hb hts hi7 tyX7 tyX7_ok nmX7 hown hK hP hD hS 0 rfl rfl 9 (by decide) (hts (.fieldLink RX7 42 "ConflictEnumeratorModel" "next" "I") (List.mem_of_getElem? (i := 1) rfl)) (fun _ h9 => h9) rfl (by decide +kernel) rfl rfl (Nat.le_of_ble_eq_true rfl) dX7_advance_120 (fun H locs hP hD hS => ?_)
            have hP : va_P G.1 vwCl [(m0, OB 7 [.int th, .ref a1, .ref a2, .ref a3, .int (nI ud), .ref a5, .ref a6, .ref a7, .int (nI ln), .int (nI (i + 1)), .int (nI i), .int tk, .int vl, .int er, .ref a14, .int rq, .ref a16]), (a7, AI G 120 tf)] H := hP
            have hD : va_D A [(m0, OB 7 [.int th, .ref a1, .ref a2, .ref a3, .int (nI ud), .ref a5, .ref a6, .ref a7, .int (nI ln), .int (nI (i + 1)), .int (nI i), .int tk, .int vl, .int er, .ref a14, .int rq, .ref a16]), (a7, AI G 120 tf)] := hD
            refine lv_aload_n hx hb dX7_advance_123 rfl (lv_at hl 1 rfl) ?_
            refine lv_iload_n hx hb dX7_advance_124 rfl (lv_at hl 0 rfl) ?_
            refine lv_bipush (v := 48) hx hb dX7_advance_125 (by decide) ?_
            refine lv_bipush (v := 57) hx hb dX7_advance_127 (by decide) ?_
            refine call_Si (rest := [.ref m0]) (As := [.int (chA tf ln i), .int 48, .int 57]) (wr := [(m0, OB 7 [.int th, .ref a1, .ref a2, .ref a3, .int (nI ud), .ref a5, .ref a6, .ref a7, .int (nI ln), .int (nI (i + 1)), .int (nI i), .int tk, .int vl, .int er, .ref a14, .int rq, .ref a16]), (a7, AI G 120 tf)]) (c1 := 0) (s1 := 0) ⟨hx, hb, hml, hown, hts⟩ (c_X7_in l G (chA tf ln i) 48 57 ) (va_cwS 3 hts gX7_advance_X7_in rfl rfl rfl (by decide +kernel) ⟨Nat.le_of_ble_eq_true rfl, Nat.le_of_ble_eq_true rfl⟩) hK hN hSS hP hD hS hA [] [0, 1] rfl rfl (by decide) (by decide) (by decide) rfl hl.1 rfl (Nat.le_of_ble_eq_true rfl) dX7_advance_129 ⟨Nat.le_of_ble_eq_true rfl, Nat.le_of_ble_eq_true rfl⟩ rfl rfl (fun r_129 u_129 H locs hpo hP hD hS => ?_)
            obtain ⟨hr9, rfl⟩ := hpo
            subst r_129
            have hP : va_P G.1 vwCl [(m0, OB 7 [.int th, .ref a1, .ref a2, .ref a3, .int (nI ud), .ref a5, .ref a6, .ref a7, .int (nI ln), .int (nI (i + 1)), .int (nI i), .int tk, .int vl, .int er, .ref a14, .int rq, .ref a16]), (a7, AI G 120 tf)] H := hP
            have hD : va_D A [(m0, OB 7 [.int th, .ref a1, .ref a2, .ref a3, .int (nI ud), .ref a5, .ref a6, .ref a7, .int (nI ln), .int (nI (i + 1)), .int (nI i), .int tk, .int vl, .int er, .ref a14, .int rq, .ref a16]), (a7, AI G 120 tf)] := hD
            refine wb_eq (tgt := 139) hx hb dX7_advance_132 (by decide) (fun c_132 => ?_) (fun c_132 => ?_)
            ·
              refine lv_iload_n hx hb dX7_advance_139 rfl (lv_at hl 0 rfl) ?_
              refine lv_bipush (v := 45) hx hb dX7_advance_140 (by decide) ?_
              refine lv_icmp_ne (tgt := 149) hx hb dX7_advance_142 (by decide) (fun c_142 => ?_) (fun c_142 => ?_)
              ·
                refine lv_iload_n hx hb dX7_advance_149 rfl (lv_at hl 0 rfl) ?_
                refine lv_bipush (v := 59) hx hb dX7_advance_150 (by decide) ?_
                refine lv_icmp_ne (tgt := 159) hx hb dX7_advance_152 (by decide) (fun c_152 => ?_) (fun c_152 => ?_)
                ·
                  refine lv_iconst (v := 5) hx hb dX7_advance_159 (by decide) ?_
                  refine W.eq (g2 := F0 m 160 ls [.int (tkM (chA tf ln i)), .ref m0]) (by first | (rw [show tkM (chA tf ln i) = 2 from by unfold tkM; rw [if_pos c_132]]; done) | (rw [show tkM (chA tf ln i) = 3 from by unfold tkM; rw [if_neg (by rw [c_132]; decide), if_pos c_142]]; done) | (rw [show tkM (chA tf ln i) = 4 from by unfold tkM; rw [if_neg (by rw [c_132]; decide), if_neg c_142, if_pos c_152]]; done) | (rw [show tkM (chA tf ln i) = 5 from by unfold tkM; rw [if_neg (by rw [c_132]; decide), if_neg c_142, if_neg c_152]]; done)) ?_
                  refine va_put (D := G.1) (ci := 7) (v := .int (tkM (chA tf ln i))) (ty := .int) (C := RX7) (T := TX7) (N := 17) hx hb hts hi7 tyX7 tyX7_ok nmX7 hown hK hP hD hS 0 rfl rfl 11 (by decide) (hts (.fieldLink RX7 56 "ConflictEnumeratorModel" "token" "I") (List.mem_of_getElem? (i := 3) rfl)) (fun _ h9 => h9) rfl (by decide +kernel) rfl rfl (Nat.le_of_ble_eq_true rfl) dX7_advance_160 (fun H locs hP hD hS => ?_)
                  have hP : va_P G.1 vwCl [(m0, OB 7 [.int th, .ref a1, .ref a2, .ref a3, .int (nI ud), .ref a5, .ref a6, .ref a7, .int (nI ln), .int (nI (i + 1)), .int (nI i), .int (tkM (chA tf ln i)), .int vl, .int er, .ref a14, .int rq, .ref a16]), (a7, AI G 120 tf)] H := hP
                  have hD : va_D A [(m0, OB 7 [.int th, .ref a1, .ref a2, .ref a3, .int (nI ud), .ref a5, .ref a6, .ref a7, .int (nI ln), .int (nI (i + 1)), .int (nI i), .int (tkM (chA tf ln i)), .int vl, .int er, .ref a14, .int rq, .ref a16]), (a7, AI G 120 tf)] := hD
                  refine lv_aload_n hx hb dX7_advance_163 rfl (lv_at hl 1 rfl) ?_
                  refine lv_iload_n hx hb dX7_advance_164 rfl (lv_at hl 0 rfl) ?_
                  refine lv_bipush (v := 48) hx hb dX7_advance_165 (by decide) ?_
                  refine lv_isub hx hb dX7_advance_167 ?_
                  refine va_put (D := G.1) (ci := 7) (v := .int ((chA tf ln i) - 48)) (ty := .int) (C := RX7) (T := TX7) (N := 17) hx hb hts hi7 tyX7 tyX7_ok nmX7 hown hK hP hD hS 0 rfl rfl 12 (by decide) (hts (.fieldLink RX7 67 "ConflictEnumeratorModel" "value" "I") (List.mem_of_getElem? (i := 4) rfl)) (fun _ h9 => h9) rfl (by decide +kernel) rfl rfl (Nat.le_of_ble_eq_true rfl) dX7_advance_168 (fun H locs hP hD hS => ?_)
                  have hP : va_P G.1 vwCl [(m0, OB 7 [.int th, .ref a1, .ref a2, .ref a3, .int (nI ud), .ref a5, .ref a6, .ref a7, .int (nI ln), .int (nI (i + 1)), .int (nI i), .int (tkM (chA tf ln i)), .int ((chA tf ln i) - 48), .int er, .ref a14, .int rq, .ref a16]), (a7, AI G 120 tf)] H := hP
                  have hD : va_D A [(m0, OB 7 [.int th, .ref a1, .ref a2, .ref a3, .int (nI ud), .ref a5, .ref a6, .ref a7, .int (nI ln), .int (nI (i + 1)), .int (nI i), .int (tkM (chA tf ln i)), .int ((chA tf ln i) - 48), .int er, .ref a14, .int rq, .ref a16]), (a7, AI G 120 tf)] := hD
                  exact ret _ _ _ _ _ _ _ (Nat.le_of_ble_eq_true rfl) (Nat.le_of_ble_eq_true rfl) (by first | (rw [advM_end hsk c_10 c_44]; done) | (rw [advM_word hsk c_10 c_44 c_63 hlk c_81]; done) | (rw [advM_oth hsk c_10 c_44 c_63])) (hP.sub (ws' := [(m0, OB 7 [.int th, .ref a1, .ref a2, .ref a3, .int (nI ud), .ref a5, .ref a6, .ref a7, .int (nI ln), .int (nI (i + 1)), .int (nI i), .int (tkM (chA tf ln i)), .int ((chA tf ln i) - 48), .int er, .ref a14, .int rq, .ref a16]), (a7, AI G 120 tf)]) [0, 1] rfl) (hD.sub (ws' := [(m0, OB 7 [.int th, .ref a1, .ref a2, .ref a3, .int (nI ud), .ref a5, .ref a6, .ref a7, .int (nI ln), .int (nI (i + 1)), .int (nI i), .int (tkM (chA tf ln i)), .int ((chA tf ln i) - 48), .int er, .ref a14, .int rq, .ref a16]), (a7, AI G 120 tf)]) [0, 1] (by decide) rfl) hS dX7_advance_171
                ·
                  refine lv_iconst (v := 4) hx hb dX7_advance_155 (by decide) ?_
                  refine lv_goto (tgt := 160) hx hb dX7_advance_156 (by decide) ?_
                  refine W.eq (g2 := F0 m 160 ls [.int (tkM (chA tf ln i)), .ref m0]) (by first | (rw [show tkM (chA tf ln i) = 2 from by unfold tkM; rw [if_pos c_132]]; done) | (rw [show tkM (chA tf ln i) = 3 from by unfold tkM; rw [if_neg (by rw [c_132]; decide), if_pos c_142]]; done) | (rw [show tkM (chA tf ln i) = 4 from by unfold tkM; rw [if_neg (by rw [c_132]; decide), if_neg c_142, if_pos c_152]]; done) | (rw [show tkM (chA tf ln i) = 5 from by unfold tkM; rw [if_neg (by rw [c_132]; decide), if_neg c_142, if_neg c_152]]; done)) ?_
                  refine va_put (D := G.1) (ci := 7) (v := .int (tkM (chA tf ln i))) (ty := .int) (C := RX7) (T := TX7) (N := 17) hx hb hts hi7 tyX7 tyX7_ok nmX7 hown hK hP hD hS 0 rfl rfl 11 (by decide) (hts (.fieldLink RX7 56 "ConflictEnumeratorModel" "token" "I") (List.mem_of_getElem? (i := 3) rfl)) (fun _ h9 => h9) rfl (by decide +kernel) rfl rfl (Nat.le_of_ble_eq_true rfl) dX7_advance_160 (fun H locs hP hD hS => ?_)
                  have hP : va_P G.1 vwCl [(m0, OB 7 [.int th, .ref a1, .ref a2, .ref a3, .int (nI ud), .ref a5, .ref a6, .ref a7, .int (nI ln), .int (nI (i + 1)), .int (nI i), .int (tkM (chA tf ln i)), .int vl, .int er, .ref a14, .int rq, .ref a16]), (a7, AI G 120 tf)] H := hP
                  have hD : va_D A [(m0, OB 7 [.int th, .ref a1, .ref a2, .ref a3, .int (nI ud), .ref a5, .ref a6, .ref a7, .int (nI ln), .int (nI (i + 1)), .int (nI i), .int (tkM (chA tf ln i)), .int vl, .int er, .ref a14, .int rq, .ref a16]), (a7, AI G 120 tf)] := hD
                  refine lv_aload_n hx hb dX7_advance_163 rfl (lv_at hl 1 rfl) ?_
                  refine lv_iload_n hx hb dX7_advance_164 rfl (lv_at hl 0 rfl) ?_
                  refine lv_bipush (v := 48) hx hb dX7_advance_165 (by decide) ?_
                  refine lv_isub hx hb dX7_advance_167 ?_
                  refine va_put (D := G.1) (ci := 7) (v := .int ((chA tf ln i) - 48)) (ty := .int) (C := RX7) (T := TX7) (N := 17) hx hb hts hi7 tyX7 tyX7_ok nmX7 hown hK hP hD hS 0 rfl rfl 12 (by decide) (hts (.fieldLink RX7 67 "ConflictEnumeratorModel" "value" "I") (List.mem_of_getElem? (i := 4) rfl)) (fun _ h9 => h9) rfl (by decide +kernel) rfl rfl (Nat.le_of_ble_eq_true rfl) dX7_advance_168 (fun H locs hP hD hS => ?_)
                  have hP : va_P G.1 vwCl [(m0, OB 7 [.int th, .ref a1, .ref a2, .ref a3, .int (nI ud), .ref a5, .ref a6, .ref a7, .int (nI ln), .int (nI (i + 1)), .int (nI i), .int (tkM (chA tf ln i)), .int ((chA tf ln i) - 48), .int er, .ref a14, .int rq, .ref a16]), (a7, AI G 120 tf)] H := hP
                  have hD : va_D A [(m0, OB 7 [.int th, .ref a1, .ref a2, .ref a3, .int (nI ud), .ref a5, .ref a6, .ref a7, .int (nI ln), .int (nI (i + 1)), .int (nI i), .int (tkM (chA tf ln i)), .int ((chA tf ln i) - 48), .int er, .ref a14, .int rq, .ref a16]), (a7, AI G 120 tf)] := hD
                  exact ret _ _ _ _ _ _ _ (Nat.le_of_ble_eq_true rfl) (Nat.le_of_ble_eq_true rfl) (by first | (rw [advM_end hsk c_10 c_44]; done) | (rw [advM_word hsk c_10 c_44 c_63 hlk c_81]; done) | (rw [advM_oth hsk c_10 c_44 c_63])) (hP.sub (ws' := [(m0, OB 7 [.int th, .ref a1, .ref a2, .ref a3, .int (nI ud), .ref a5, .ref a6, .ref a7, .int (nI ln), .int (nI (i + 1)), .int (nI i), .int (tkM (chA tf ln i)), .int ((chA tf ln i) - 48), .int er, .ref a14, .int rq, .ref a16]), (a7, AI G 120 tf)]) [0, 1] rfl) (hD.sub (ws' := [(m0, OB 7 [.int th, .ref a1, .ref a2, .ref a3, .int (nI ud), .ref a5, .ref a6, .ref a7, .int (nI ln), .int (nI (i + 1)), .int (nI i), .int (tkM (chA tf ln i)), .int ((chA tf ln i) - 48), .int er, .ref a14, .int rq, .ref a16]), (a7, AI G 120 tf)]) [0, 1] (by decide) rfl) hS dX7_advance_171
              ·
                refine lv_iconst (v := 3) hx hb dX7_advance_145 (by decide) ?_
                refine lv_goto (tgt := 160) hx hb dX7_advance_146 (by decide) ?_
                refine W.eq (g2 := F0 m 160 ls [.int (tkM (chA tf ln i)), .ref m0]) (by first | (rw [show tkM (chA tf ln i) = 2 from by unfold tkM; rw [if_pos c_132]]; done) | (rw [show tkM (chA tf ln i) = 3 from by unfold tkM; rw [if_neg (by rw [c_132]; decide), if_pos c_142]]; done) | (rw [show tkM (chA tf ln i) = 4 from by unfold tkM; rw [if_neg (by rw [c_132]; decide), if_neg c_142, if_pos c_152]]; done) | (rw [show tkM (chA tf ln i) = 5 from by unfold tkM; rw [if_neg (by rw [c_132]; decide), if_neg c_142, if_neg c_152]]; done)) ?_
                refine va_put (D := G.1) (ci := 7) (v := .int (tkM (chA tf ln i))) (ty := .int) (C := RX7) (T := TX7) (N := 17) hx hb hts hi7 tyX7 tyX7_ok nmX7 hown hK hP hD hS 0 rfl rfl 11 (by decide) (hts (.fieldLink RX7 56 "ConflictEnumeratorModel" "token" "I") (List.mem_of_getElem? (i := 3) rfl)) (fun _ h9 => h9) rfl (by decide +kernel) rfl rfl (Nat.le_of_ble_eq_true rfl) dX7_advance_160 (fun H locs hP hD hS => ?_)
                have hP : va_P G.1 vwCl [(m0, OB 7 [.int th, .ref a1, .ref a2, .ref a3, .int (nI ud), .ref a5, .ref a6, .ref a7, .int (nI ln), .int (nI (i + 1)), .int (nI i), .int (tkM (chA tf ln i)), .int vl, .int er, .ref a14, .int rq, .ref a16]), (a7, AI G 120 tf)] H := hP
                have hD : va_D A [(m0, OB 7 [.int th, .ref a1, .ref a2, .ref a3, .int (nI ud), .ref a5, .ref a6, .ref a7, .int (nI ln), .int (nI (i + 1)), .int (nI i), .int (tkM (chA tf ln i)), .int vl, .int er, .ref a14, .int rq, .ref a16]), (a7, AI G 120 tf)] := hD
                refine lv_aload_n hx hb dX7_advance_163 rfl (lv_at hl 1 rfl) ?_
                refine lv_iload_n hx hb dX7_advance_164 rfl (lv_at hl 0 rfl) ?_
                refine lv_bipush (v := 48) hx hb dX7_advance_165 (by decide) ?_
                refine lv_isub hx hb dX7_advance_167 ?_
                refine va_put (D := G.1) (ci := 7) (v := .int ((chA tf ln i) - 48)) (ty := .int) (C := RX7) (T := TX7) (N := 17) hx hb hts hi7 tyX7 tyX7_ok nmX7 hown hK hP hD hS 0 rfl rfl 12 (by decide) (hts (.fieldLink RX7 67 "ConflictEnumeratorModel" "value" "I") (List.mem_of_getElem? (i := 4) rfl)) (fun _ h9 => h9) rfl (by decide +kernel) rfl rfl (Nat.le_of_ble_eq_true rfl) dX7_advance_168 (fun H locs hP hD hS => ?_)
                have hP : va_P G.1 vwCl [(m0, OB 7 [.int th, .ref a1, .ref a2, .ref a3, .int (nI ud), .ref a5, .ref a6, .ref a7, .int (nI ln), .int (nI (i + 1)), .int (nI i), .int (tkM (chA tf ln i)), .int ((chA tf ln i) - 48), .int er, .ref a14, .int rq, .ref a16]), (a7, AI G 120 tf)] H := hP
                have hD : va_D A [(m0, OB 7 [.int th, .ref a1, .ref a2, .ref a3, .int (nI ud), .ref a5, .ref a6, .ref a7, .int (nI ln), .int (nI (i + 1)), .int (nI i), .int (tkM (chA tf ln i)), .int ((chA tf ln i) - 48), .int er, .ref a14, .int rq, .ref a16]), (a7, AI G 120 tf)] := hD
                exact ret _ _ _ _ _ _ _ (Nat.le_of_ble_eq_true rfl) (Nat.le_of_ble_eq_true rfl) (by first | (rw [advM_end hsk c_10 c_44]; done) | (rw [advM_word hsk c_10 c_44 c_63 hlk c_81]; done) | (rw [advM_oth hsk c_10 c_44 c_63])) (hP.sub (ws' := [(m0, OB 7 [.int th, .ref a1, .ref a2, .ref a3, .int (nI ud), .ref a5, .ref a6, .ref a7, .int (nI ln), .int (nI (i + 1)), .int (nI i), .int (tkM (chA tf ln i)), .int ((chA tf ln i) - 48), .int er, .ref a14, .int rq, .ref a16]), (a7, AI G 120 tf)]) [0, 1] rfl) (hD.sub (ws' := [(m0, OB 7 [.int th, .ref a1, .ref a2, .ref a3, .int (nI ud), .ref a5, .ref a6, .ref a7, .int (nI ln), .int (nI (i + 1)), .int (nI i), .int (tkM (chA tf ln i)), .int ((chA tf ln i) - 48), .int er, .ref a14, .int rq, .ref a16]), (a7, AI G 120 tf)]) [0, 1] (by decide) rfl) hS dX7_advance_171
            ·
              refine lv_iconst (v := 2) hx hb dX7_advance_135 (by decide) ?_
              refine lv_goto (tgt := 160) hx hb dX7_advance_136 (by decide) ?_
              refine W.eq (g2 := F0 m 160 ls [.int (tkM (chA tf ln i)), .ref m0]) (by first | (rw [show tkM (chA tf ln i) = 2 from by unfold tkM; rw [if_pos c_132]]; done) | (rw [show tkM (chA tf ln i) = 3 from by unfold tkM; rw [if_neg (by rw [c_132]; decide), if_pos c_142]]; done) | (rw [show tkM (chA tf ln i) = 4 from by unfold tkM; rw [if_neg (by rw [c_132]; decide), if_neg c_142, if_pos c_152]]; done) | (rw [show tkM (chA tf ln i) = 5 from by unfold tkM; rw [if_neg (by rw [c_132]; decide), if_neg c_142, if_neg c_152]]; done)) ?_
              refine va_put (D := G.1) (ci := 7) (v := .int (tkM (chA tf ln i))) (ty := .int) (C := RX7) (T := TX7) (N := 17) hx hb hts hi7 tyX7 tyX7_ok nmX7 hown hK hP hD hS 0 rfl rfl 11 (by decide) (hts (.fieldLink RX7 56 "ConflictEnumeratorModel" "token" "I") (List.mem_of_getElem? (i := 3) rfl)) (fun _ h9 => h9) rfl (by decide +kernel) rfl rfl (Nat.le_of_ble_eq_true rfl) dX7_advance_160 (fun H locs hP hD hS => ?_)
              have hP : va_P G.1 vwCl [(m0, OB 7 [.int th, .ref a1, .ref a2, .ref a3, .int (nI ud), .ref a5, .ref a6, .ref a7, .int (nI ln), .int (nI (i + 1)), .int (nI i), .int (tkM (chA tf ln i)), .int vl, .int er, .ref a14, .int rq, .ref a16]), (a7, AI G 120 tf)] H := hP
              have hD : va_D A [(m0, OB 7 [.int th, .ref a1, .ref a2, .ref a3, .int (nI ud), .ref a5, .ref a6, .ref a7, .int (nI ln), .int (nI (i + 1)), .int (nI i), .int (tkM (chA tf ln i)), .int vl, .int er, .ref a14, .int rq, .ref a16]), (a7, AI G 120 tf)] := hD
              refine lv_aload_n hx hb dX7_advance_163 rfl (lv_at hl 1 rfl) ?_
              refine lv_iload_n hx hb dX7_advance_164 rfl (lv_at hl 0 rfl) ?_
              refine lv_bipush (v := 48) hx hb dX7_advance_165 (by decide) ?_
              refine lv_isub hx hb dX7_advance_167 ?_
              refine va_put (D := G.1) (ci := 7) (v := .int ((chA tf ln i) - 48)) (ty := .int) (C := RX7) (T := TX7) (N := 17) hx hb hts hi7 tyX7 tyX7_ok nmX7 hown hK hP hD hS 0 rfl rfl 12 (by decide) (hts (.fieldLink RX7 67 "ConflictEnumeratorModel" "value" "I") (List.mem_of_getElem? (i := 4) rfl)) (fun _ h9 => h9) rfl (by decide +kernel) rfl rfl (Nat.le_of_ble_eq_true rfl) dX7_advance_168 (fun H locs hP hD hS => ?_)
              have hP : va_P G.1 vwCl [(m0, OB 7 [.int th, .ref a1, .ref a2, .ref a3, .int (nI ud), .ref a5, .ref a6, .ref a7, .int (nI ln), .int (nI (i + 1)), .int (nI i), .int (tkM (chA tf ln i)), .int ((chA tf ln i) - 48), .int er, .ref a14, .int rq, .ref a16]), (a7, AI G 120 tf)] H := hP
              have hD : va_D A [(m0, OB 7 [.int th, .ref a1, .ref a2, .ref a3, .int (nI ud), .ref a5, .ref a6, .ref a7, .int (nI ln), .int (nI (i + 1)), .int (nI i), .int (tkM (chA tf ln i)), .int ((chA tf ln i) - 48), .int er, .ref a14, .int rq, .ref a16]), (a7, AI G 120 tf)] := hD
              exact ret _ _ _ _ _ _ _ (Nat.le_of_ble_eq_true rfl) (Nat.le_of_ble_eq_true rfl) (by first | (rw [advM_end hsk c_10 c_44]; done) | (rw [advM_word hsk c_10 c_44 c_63 hlk c_81]; done) | (rw [advM_oth hsk c_10 c_44 c_63])) (hP.sub (ws' := [(m0, OB 7 [.int th, .ref a1, .ref a2, .ref a3, .int (nI ud), .ref a5, .ref a6, .ref a7, .int (nI ln), .int (nI (i + 1)), .int (nI i), .int (tkM (chA tf ln i)), .int ((chA tf ln i) - 48), .int er, .ref a14, .int rq, .ref a16]), (a7, AI G 120 tf)]) [0, 1] rfl) (hD.sub (ws' := [(m0, OB 7 [.int th, .ref a1, .ref a2, .ref a3, .int (nI ud), .ref a5, .ref a6, .ref a7, .int (nI ln), .int (nI (i + 1)), .int (nI i), .int (tkM (chA tf ln i)), .int ((chA tf ln i) - 48), .int er, .ref a14, .int rq, .ref a16]), (a7, AI G 120 tf)]) [0, 1] (by decide) rfl) hS dX7_advance_171
          ·
            have hil : i < ln := chA_in (P := fun z => inR z 97 122 = true) c_63 (by decide)
            have L66 : ∀ (kf : Nat) (j : Nat) (H : Heap) (locs : List Loc) (ls : Array Slot), ln - j < kf → (j ≤ ln) → (i ≤ j) → (skipW (leP tf ln) j (ln - j) = skipW (leP tf ln) i (ln - i)) → va_P G.1 vwCl [(m0, OB 7 [.int th, .ref a1, .ref a2, .ref a3, .int (nI ud), .ref a5, .ref a6, .ref a7, .int (nI ln), .int (nI j), .int (nI i), .int tk, .int vl, .int er, .ref a14, .int rq, .ref a16]), (a7, AI G 120 tf)] H → va_D A [(m0, OB 7 [.int th, .ref a1, .ref a2, .ref a3, .int (nI ud), .ref a5, .ref a6, .ref a7, .int (nI ln), .int (nI j), .int (nI i), .int tk, .int vl, .int er, .ref a14, .int rq, .ref a16]), (a7, AI G 120 tf)] → va_S A s.heap H locs → lv_has ls 2 [(0, .ref m0), (1, .int (chA tf ln i))] → W p l e rmX7_advance s m ([.ref m0] : List Value).toArray below meth c H locs 0 0 Q (F0 m 66 ls []) := by
              intro kf
              induction kf with
              | zero => intro j H locs ls h; exact absurd h (Nat.not_lt_zero _)
              | succ kf ih =>
                intro j H locs ls hk hj hj2 hlk hP hD hS hl
                refine lv_aload_n hx hb dX7_advance_66 rfl (lv_at hl 0 rfl) ?_
                refine lv_aload_n hx hb dX7_advance_67 rfl (lv_at hl 0 rfl) ?_
                refine va_get (D := G.1) (ci := 7) (v := .int (nI j)) (C := RX7) (T := TX7) (N := 17) hx hb hts hi7 hown hK hP 0 rfl rfl 9 (by decide) (hts (.fieldLink RX7 42 "ConflictEnumeratorModel" "next" "I") (List.mem_of_getElem? (i := 1) rfl)) (fun _ h9 => h9) rfl dX7_advance_68 ?_
                refine call_Vi (rest := []) (As := [.int (nI j)]) (wr := []) (c1 := 0) (s1 := 0) ⟨hx, hb, hml, hown, hts⟩ (c_X7_characterAt l G m0 a1 a2 a3 a5 a6 a7 a14 a16 th ud ln j i tk vl er rq tf j (by first | assumption | omega) (by first | assumption | omega)) (cwV 1 hts gX7_advance_X7_characterAt rfl rfl rfl (by decide +kernel) ⟨Nat.le_of_ble_eq_true rfl, Nat.le_of_ble_eq_true rfl⟩) hK hN hSS hP hD hS hA 0 7 rfl rfl rfl [0, 1] [] rfl rfl (by decide) (by decide) (by decide) rfl hl.1 rfl (Nat.le_of_ble_eq_true rfl) dX7_advance_71 ⟨Nat.le_of_ble_eq_true rfl, Nat.le_of_ble_eq_true rfl⟩ rfl rfl (fun r_71 u_71 H locs hpo hP hD hS => ?_)
                obtain ⟨hr9, rfl⟩ := hpo
                subst r_71
                have hP : va_P G.1 vwCl [(m0, OB 7 [.int th, .ref a1, .ref a2, .ref a3, .int (nI ud), .ref a5, .ref a6, .ref a7, .int (nI ln), .int (nI j), .int (nI i), .int tk, .int vl, .int er, .ref a14, .int rq, .ref a16]), (a7, AI G 120 tf)] H := hP
                have hD : va_D A [(m0, OB 7 [.int th, .ref a1, .ref a2, .ref a3, .int (nI ud), .ref a5, .ref a6, .ref a7, .int (nI ln), .int (nI j), .int (nI i), .int tk, .int vl, .int er, .ref a14, .int rq, .ref a16]), (a7, AI G 120 tf)] := hD
                refine lv_bipush (v := 97) hx hb dX7_advance_74 (by decide) ?_
                refine lv_bipush (v := 122) hx hb dX7_advance_76 (by decide) ?_
                refine call_Si (rest := []) (As := [.int (chA tf ln j), .int 97, .int 122]) (wr := [(m0, OB 7 [.int th, .ref a1, .ref a2, .ref a3, .int (nI ud), .ref a5, .ref a6, .ref a7, .int (nI ln), .int (nI j), .int (nI i), .int tk, .int vl, .int er, .ref a14, .int rq, .ref a16]), (a7, AI G 120 tf)]) (c1 := 0) (s1 := 0) ⟨hx, hb, hml, hown, hts⟩ (c_X7_in l G (chA tf ln j) 97 122 ) (va_cwS 3 hts gX7_advance_X7_in rfl rfl rfl (by decide +kernel) ⟨Nat.le_of_ble_eq_true rfl, Nat.le_of_ble_eq_true rfl⟩) hK hN hSS hP hD hS hA [] [0, 1] rfl rfl (by decide) (by decide) (by decide) rfl hl.1 rfl (Nat.le_of_ble_eq_true rfl) dX7_advance_78 ⟨Nat.le_of_ble_eq_true rfl, Nat.le_of_ble_eq_true rfl⟩ rfl rfl (fun r_78 u_78 H locs hpo hP hD hS => ?_)
                obtain ⟨hr9, rfl⟩ := hpo
                subst r_78
                have hP : va_P G.1 vwCl [(m0, OB 7 [.int th, .ref a1, .ref a2, .ref a3, .int (nI ud), .ref a5, .ref a6, .ref a7, .int (nI ln), .int (nI j), .int (nI i), .int tk, .int vl, .int er, .ref a14, .int rq, .ref a16]), (a7, AI G 120 tf)] H := hP
                have hD : va_D A [(m0, OB 7 [.int th, .ref a1, .ref a2, .ref a3, .int (nI ud), .ref a5, .ref a6, .ref a7, .int (nI ln), .int (nI j), .int (nI i), .int tk, .int vl, .int er, .ref a14, .int rq, .ref a16]), (a7, AI G 120 tf)] := hD
                refine wb_eq (tgt := 97) hx hb dX7_advance_81 (by decide) (fun c_81 => ?_) (fun c_81 => ?_)
                ·
                  refine lv_aload_n hx hb dX7_advance_97 rfl (lv_at hl 0 rfl) ?_
                  refine lv_iconst (v := 1) hx hb dX7_advance_98 (by decide) ?_
                  refine va_put (D := G.1) (ci := 7) (v := .int 1) (ty := .int) (C := RX7) (T := TX7) (N := 17) hx hb hts hi7 tyX7 tyX7_ok nmX7 hown hK hP hD hS 0 rfl rfl 11 (by decide) (hts (.fieldLink RX7 56 "ConflictEnumeratorModel" "token" "I") (List.mem_of_getElem? (i := 3) rfl)) (fun _ h9 => h9) rfl (by decide +kernel) rfl rfl (Nat.le_of_ble_eq_true rfl) dX7_advance_99 (fun H locs hP hD hS => ?_)
                  have hP : va_P G.1 vwCl [(m0, OB 7 [.int th, .ref a1, .ref a2, .ref a3, .int (nI ud), .ref a5, .ref a6, .ref a7, .int (nI ln), .int (nI j), .int (nI i), .int 1, .int vl, .int er, .ref a14, .int rq, .ref a16]), (a7, AI G 120 tf)] H := hP
                  have hD : va_D A [(m0, OB 7 [.int th, .ref a1, .ref a2, .ref a3, .int (nI ud), .ref a5, .ref a6, .ref a7, .int (nI ln), .int (nI j), .int (nI i), .int 1, .int vl, .int er, .ref a14, .int rq, .ref a16]), (a7, AI G 120 tf)] := hD
                  refine lv_aload_n hx hb dX7_advance_102 rfl (lv_at hl 0 rfl) ?_
                  refine lv_aload_n hx hb dX7_advance_103 rfl (lv_at hl 0 rfl) ?_
                  refine call_Vi (rest := [.ref m0]) (As := []) (wr := []) (c1 := 0) (s1 := 0) ⟨hx, hb, hml, hown, hts⟩ (c_X7_keyword l G m0 a1 a2 a3 a5 a6 a7 a14 a16 th ud ln j i 1 vl er rq tf (by first | assumption | omega) (by have h9 : i ≠ j := (fun h9 => absurd (h9 ▸ c_63) (by rw [c_81]; decide)); omega) (by omega)) (cwV 0 hts gX7_advance_X7_keyword rfl rfl rfl (by decide +kernel) ⟨Nat.le_of_ble_eq_true rfl, Nat.le_of_ble_eq_true rfl⟩) hK hN hSS hP hD hS hA 0 7 rfl rfl rfl [0, 1] [] rfl rfl (by decide) (by decide) (by decide) rfl hl.1 rfl (Nat.le_of_ble_eq_true rfl) dX7_advance_104 ⟨Nat.le_of_ble_eq_true rfl, Nat.le_of_ble_eq_true rfl⟩ rfl rfl (fun r_104 u_104 H locs hpo hP hD hS => ?_)
                  obtain ⟨hr9, rfl⟩ := hpo
                  subst r_104
                  have hP : va_P G.1 vwCl [(m0, OB 7 [.int th, .ref a1, .ref a2, .ref a3, .int (nI ud), .ref a5, .ref a6, .ref a7, .int (nI ln), .int (nI j), .int (nI i), .int 1, .int vl, .int er, .ref a14, .int rq, .ref a16]), (a7, AI G 120 tf)] H := hP
                  have hD : va_D A [(m0, OB 7 [.int th, .ref a1, .ref a2, .ref a3, .int (nI ud), .ref a5, .ref a6, .ref a7, .int (nI ln), .int (nI j), .int (nI i), .int 1, .int vl, .int er, .ref a14, .int rq, .ref a16]), (a7, AI G 120 tf)] := hD
                  refine va_put (D := G.1) (ci := 7) (v := .int (kwM tf i j)) (ty := .int) (C := RX7) (T := TX7) (N := 17) hx hb hts hi7 tyX7 tyX7_ok nmX7 hown hK hP hD hS 0 rfl rfl 12 (by decide) (hts (.fieldLink RX7 67 "ConflictEnumeratorModel" "value" "I") (List.mem_of_getElem? (i := 4) rfl)) (fun _ h9 => h9) rfl (by decide +kernel) rfl rfl (Nat.le_of_ble_eq_true rfl) dX7_advance_107 (fun H locs hP hD hS => ?_)
                  have hP : va_P G.1 vwCl [(m0, OB 7 [.int th, .ref a1, .ref a2, .ref a3, .int (nI ud), .ref a5, .ref a6, .ref a7, .int (nI ln), .int (nI j), .int (nI i), .int 1, .int (kwM tf i j), .int er, .ref a14, .int rq, .ref a16]), (a7, AI G 120 tf)] H := hP
                  have hD : va_D A [(m0, OB 7 [.int th, .ref a1, .ref a2, .ref a3, .int (nI ud), .ref a5, .ref a6, .ref a7, .int (nI ln), .int (nI j), .int (nI i), .int 1, .int (kwM tf i j), .int er, .ref a14, .int rq, .ref a16]), (a7, AI G 120 tf)] := hD
                  refine lv_goto (tgt := 171) hx hb dX7_advance_110 (by decide) ?_
                  exact ret _ _ _ _ _ _ _ (Nat.le_of_ble_eq_true rfl) (Nat.le_of_ble_eq_true rfl) (by first | (rw [advM_end hsk c_10 c_44]; done) | (rw [advM_word hsk c_10 c_44 c_63 hlk c_81]; done) | (rw [advM_oth hsk c_10 c_44 c_63])) (hP.sub (ws' := [(m0, OB 7 [.int th, .ref a1, .ref a2, .ref a3, .int (nI ud), .ref a5, .ref a6, .ref a7, .int (nI ln), .int (nI j), .int (nI i), .int 1, .int (kwM tf i j), .int er, .ref a14, .int rq, .ref a16]), (a7, AI G 120 tf)]) [0, 1] rfl) (hD.sub (ws' := [(m0, OB 7 [.int th, .ref a1, .ref a2, .ref a3, .int (nI ud), .ref a5, .ref a6, .ref a7, .int (nI ln), .int (nI j), .int (nI i), .int 1, .int (kwM tf i j), .int er, .ref a14, .int rq, .ref a16]), (a7, AI G 120 tf)]) [0, 1] (by decide) rfl) hS dX7_advance_171
                ·
                  have hjl : j < ln := chA_in (P := fun z => inR z 97 122 = true) c_81 (by decide)
                  refine lv_aload_n hx hb dX7_advance_84 rfl (lv_at hl 0 rfl) ?_
                  refine lv_dup hx hb dX7_advance_85 rfl ?_
                  refine va_get (D := G.1) (ci := 7) (v := .int (nI j)) (C := RX7) (T := TX7) (N := 17) hx hb hts hi7 hown hK hP 0 rfl rfl 9 (by decide) (hts (.fieldLink RX7 42 "ConflictEnumeratorModel" "next" "I") (List.mem_of_getElem? (i := 1) rfl)) (fun _ h9 => h9) rfl dX7_advance_86 ?_
                  refine lv_iconst (v := 1) hx hb dX7_advance_89 (by decide) ?_
                  refine wn_iadd hx hb (j) (1) rfl rfl dX7_advance_90 ?_
                  refine va_put (D := G.1) (ci := 7) (v := .int (nI (j + 1))) (ty := .int) (C := RX7) (T := TX7) (N := 17) hx hb hts hi7 tyX7 tyX7_ok nmX7 hown hK hP hD hS 0 rfl rfl 9 (by decide) (hts (.fieldLink RX7 42 "ConflictEnumeratorModel" "next" "I") (List.mem_of_getElem? (i := 1) rfl)) (fun _ h9 => h9) rfl (by decide +kernel) rfl rfl (Nat.le_of_ble_eq_true rfl) dX7_advance_91 (fun H locs hP hD hS => ?_)
                  have hP : va_P G.1 vwCl [(m0, OB 7 [.int th, .ref a1, .ref a2, .ref a3, .int (nI ud), .ref a5, .ref a6, .ref a7, .int (nI ln), .int (nI (j + 1)), .int (nI i), .int tk, .int vl, .int er, .ref a14, .int rq, .ref a16]), (a7, AI G 120 tf)] H := hP
                  have hD : va_D A [(m0, OB 7 [.int th, .ref a1, .ref a2, .ref a3, .int (nI ud), .ref a5, .ref a6, .ref a7, .int (nI ln), .int (nI (j + 1)), .int (nI i), .int tk, .int vl, .int er, .ref a14, .int rq, .ref a16]), (a7, AI G 120 tf)] := hD
                  refine lv_goto (tgt := 66) hx hb dX7_advance_94 (by decide) ?_
                  exact ih (j + 1) _ _ _ (by omega) (by omega) (by omega) (by rw [← hlk]; exact (skipW_yes c_81 hjl).symm) (hP.sub (ws' := [(m0, OB 7 [.int th, .ref a1, .ref a2, .ref a3, .int (nI ud), .ref a5, .ref a6, .ref a7, .int (nI ln), .int (nI (j + 1)), .int (nI i), .int tk, .int vl, .int er, .ref a14, .int rq, .ref a16]), (a7, AI G 120 tf)]) [0, 1] rfl) (hD.sub (ws' := [(m0, OB 7 [.int th, .ref a1, .ref a2, .ref a3, .int (nI ud), .ref a5, .ref a6, .ref a7, .int (nI ln), .int (nI (j + 1)), .int (nI i), .int tk, .int vl, .int er, .ref a14, .int rq, .ref a16]), (a7, AI G 120 tf)]) [0, 1] (by decide) rfl) hS (lv_sub (l' := [(0, .ref m0), (1, .int (chA tf ln i))]) hl [0, 1] rfl)
            exact L66 ((ln - i) + 1) i _ _ _ (Nat.lt_succ_self _) (hi) (Nat.le_refl _) (rfl) (hP.sub (ws' := [(m0, OB 7 [.int th, .ref a1, .ref a2, .ref a3, .int (nI ud), .ref a5, .ref a6, .ref a7, .int (nI ln), .int (nI i), .int (nI i), .int tk, .int vl, .int er, .ref a14, .int rq, .ref a16]), (a7, AI G 120 tf)]) [0, 1] rfl) (hD.sub (ws' := [(m0, OB 7 [.int th, .ref a1, .ref a2, .ref a3, .int (nI ud), .ref a5, .ref a6, .ref a7, .int (nI ln), .int (nI i), .int (nI i), .int tk, .int vl, .int er, .ref a14, .int rq, .ref a16]), (a7, AI G 120 tf)]) [0, 1] (by decide) rfl) hS (lv_sub (l' := [(0, .ref m0), (1, .int (chA tf ln i))]) hl [1, 0] rfl)
        ·
          have c_44 : (chA tf ln i) < 0 := Int32.not_le.mp c_44
          refine lv_aload_n hx hb dX7_advance_47 rfl (lv_at hl 1 rfl) ?_
          refine lv_iconst (v := 0) hx hb dX7_advance_48 (by decide) ?_
          refine va_put (D := G.1) (ci := 7) (v := .int 0) (ty := .int) (C := RX7) (T := TX7) (N := 17) hx hb hts hi7 tyX7 tyX7_ok nmX7 hown hK hP hD hS 0 rfl rfl 11 (by decide) (hts (.fieldLink RX7 56 "ConflictEnumeratorModel" "token" "I") (List.mem_of_getElem? (i := 3) rfl)) (fun _ h9 => h9) rfl (by decide +kernel) rfl rfl (Nat.le_of_ble_eq_true rfl) dX7_advance_49 (fun H locs hP hD hS => ?_)
          have hP : va_P G.1 vwCl [(m0, OB 7 [.int th, .ref a1, .ref a2, .ref a3, .int (nI ud), .ref a5, .ref a6, .ref a7, .int (nI ln), .int (nI i), .int (nI i), .int 0, .int vl, .int er, .ref a14, .int rq, .ref a16]), (a7, AI G 120 tf)] H := hP
          have hD : va_D A [(m0, OB 7 [.int th, .ref a1, .ref a2, .ref a3, .int (nI ud), .ref a5, .ref a6, .ref a7, .int (nI ln), .int (nI i), .int (nI i), .int 0, .int vl, .int er, .ref a14, .int rq, .ref a16]), (a7, AI G 120 tf)] := hD
          refine lv_goto (tgt := 171) hx hb dX7_advance_52 (by decide) ?_
          exact ret _ _ _ _ _ _ _ (Nat.le_of_ble_eq_true rfl) (Nat.le_of_ble_eq_true rfl) (by first | (rw [advM_end hsk c_10 c_44]; done) | (rw [advM_word hsk c_10 c_44 c_63 hlk c_81]; done) | (rw [advM_oth hsk c_10 c_44 c_63])) (hP.sub (ws' := [(m0, OB 7 [.int th, .ref a1, .ref a2, .ref a3, .int (nI ud), .ref a5, .ref a6, .ref a7, .int (nI ln), .int (nI i), .int (nI i), .int 0, .int vl, .int er, .ref a14, .int rq, .ref a16]), (a7, AI G 120 tf)]) [0, 1] rfl) (hD.sub (ws' := [(m0, OB 7 [.int th, .ref a1, .ref a2, .ref a3, .int (nI ud), .ref a5, .ref a6, .ref a7, .int (nI ln), .int (nI i), .int (nI i), .int 0, .int vl, .int er, .ref a14, .int rq, .ref a16]), (a7, AI G 120 tf)]) [0, 1] (by decide) rfl) hS dX7_advance_171
      ·
        have hil : i < ln := chA_in (P := fun z => z = 32) c_10 (by decide)
        refine lv_aload_n hx hb dX7_advance_13 rfl (lv_at hl 0 rfl) ?_
        refine lv_dup hx hb dX7_advance_14 rfl ?_
        refine va_get (D := G.1) (ci := 7) (v := .int (nI i)) (C := RX7) (T := TX7) (N := 17) hx hb hts hi7 hown hK hP 0 rfl rfl 9 (by decide) (hts (.fieldLink RX7 42 "ConflictEnumeratorModel" "next" "I") (List.mem_of_getElem? (i := 1) rfl)) (fun _ h9 => h9) rfl dX7_advance_15 ?_
        refine lv_iconst (v := 1) hx hb dX7_advance_18 (by decide) ?_
        refine wn_iadd hx hb (i) (1) rfl rfl dX7_advance_19 ?_
        refine va_put (D := G.1) (ci := 7) (v := .int (nI (i + 1))) (ty := .int) (C := RX7) (T := TX7) (N := 17) hx hb hts hi7 tyX7 tyX7_ok nmX7 hown hK hP hD hS 0 rfl rfl 9 (by decide) (hts (.fieldLink RX7 42 "ConflictEnumeratorModel" "next" "I") (List.mem_of_getElem? (i := 1) rfl)) (fun _ h9 => h9) rfl (by decide +kernel) rfl rfl (Nat.le_of_ble_eq_true rfl) dX7_advance_20 (fun H locs hP hD hS => ?_)
        have hP : va_P G.1 vwCl [(m0, OB 7 [.int th, .ref a1, .ref a2, .ref a3, .int (nI ud), .ref a5, .ref a6, .ref a7, .int (nI ln), .int (nI (i + 1)), .int (nI ts), .int tk, .int vl, .int er, .ref a14, .int rq, .ref a16]), (a7, AI G 120 tf)] H := hP
        have hD : va_D A [(m0, OB 7 [.int th, .ref a1, .ref a2, .ref a3, .int (nI ud), .ref a5, .ref a6, .ref a7, .int (nI ln), .int (nI (i + 1)), .int (nI ts), .int tk, .int vl, .int er, .ref a14, .int rq, .ref a16]), (a7, AI G 120 tf)] := hD
        refine lv_goto (tgt := 0) hx hb dX7_advance_23 (by decide) ?_
        exact ih (i + 1) _ _ _ (by omega) (by omega) (by omega) (by rw [← hsk]; exact (skipW_yes (by simp [spP, c_10]) hil).symm) (hP.sub (ws' := [(m0, OB 7 [.int th, .ref a1, .ref a2, .ref a3, .int (nI ud), .ref a5, .ref a6, .ref a7, .int (nI ln), .int (nI (i + 1)), .int (nI ts), .int tk, .int vl, .int er, .ref a14, .int rq, .ref a16]), (a7, AI G 120 tf)]) [0, 1] rfl) (hD.sub (ws' := [(m0, OB 7 [.int th, .ref a1, .ref a2, .ref a3, .int (nI ud), .ref a5, .ref a6, .ref a7, .int (nI ln), .int (nI (i + 1)), .int (nI ts), .int tk, .int vl, .int er, .ref a14, .int rq, .ref a16]), (a7, AI G 120 tf)]) [0, 1] (by decide) rfl) hS (lv_sub (l' := [(0, .ref m0)]) hl [0] rfl)
  exact L0 ((ln - nx) + 1) nx _ _ _ (Nat.lt_succ_self _) (hnx) (Nat.le_refl _) (rfl) (hP.sub (ws' := [(m0, OB 7 [.int th, .ref a1, .ref a2, .ref a3, .int (nI ud), .ref a5, .ref a6, .ref a7, .int (nI ln), .int (nI nx), .int (nI ts), .int tk, .int vl, .int er, .ref a14, .int rq, .ref a16]), (a7, AI G 120 tf)]) [0, 1] rfl) (hD.sub (ws' := [(m0, OB 7 [.int th, .ref a1, .ref a2, .ref a3, .int (nI ud), .ref a5, .ref a6, .ref a7, .int (nI ln), .int (nI nx), .int (nI ts), .int tk, .int vl, .int er, .ref a14, .int rq, .ref a16]), (a7, AI G 120 tf)]) [0, 1] (by decide) rfl) hS (lv_sub (l' := [(0, .ref m0)]) hl [0] rfl)
abbrev rmX7_isFine : Room := { frames := 0, cells := 0, slots := 0, locals := 0 }
set_option maxHeartbeats 4000000 in
set_option maxRecDepth 100000 in
theorem c_X7_isFine (l : Launch) (G : GT) (m0 a1 a2 a3 a5 a6 a7 a14 a16 : Nat) (th : Int32) (ud ln nx ts : Nat) (tk vl er rq : Int32)  : Ci l yX7_isFine wsX7_isFine rmX7_isFine G [.ref m0] [(m0, OB 7 [.int th, .ref a1, .ref a2, .ref a3, .int (nI ud), .ref a5, .ref a6, .ref a7, .int (nI ln), .int (nI nx), .int (nI ts), .int tk, .int vl, .int er, .ref a14, .int rq, .ref a16])] (fun r u => r = bI (er == -9) ∧ u = [(m0, OB 7 [.int th, .ref a1, .ref a2, .ref a3, .int (nI ud), .ref a5, .ref a6, .ref a7, .int (nI ln), .int (nI nx), .int (nI ts), .int tk, .int vl, .int er, .ref a14, .int rq, .ref a16])]) := by
  refine Ci.of (cc := cX7_isFine) (maxL := 1) (ty := .boolean) (by decide) rfl (Nat.le_of_ble_eq_true rfl) ?_
  intro p e s m below meth c A ls Q hx hb hml hts hown hA hS hP hK hN hSS hD hl ret
  have hown : s.vm.findClass RX7 = some m.cls := hown
  have hl : lv_has ls 1 [(0, .ref m0)] := hl
  have hi7 : ∀ w ∈ wsX70, w ∈ wsX7_isFine := mem_places [2, 3, 4, 5, 6, 7, 8, 9, 10, 11, 12, 13, 14, 15, 16, 17, 18] (by decide +kernel)
  refine lv_aload_n hx hb dX7_isFine_0 rfl (lv_at hl 0 rfl) ?_
  refine va_get (D := G.1) (ci := 7) (v := .int er) (C := RX7) (T := TX7) (N := 17) hx hb hts hi7 hown hK hP 0 rfl rfl 13 (by decide) (hts (.fieldLink RX7 70 "ConflictEnumeratorModel" "error" "I") (List.mem_of_getElem? (i := 1) rfl)) (fun _ h9 => h9) rfl dX7_isFine_1 ?_
  refine lv_bipush (v := (-9)) hx hb dX7_isFine_4 (by decide) ?_
  refine lv_icmp_ne (tgt := 13) hx hb dX7_isFine_6 (by decide) (fun c_6 => ?_) (fun c_6 => ?_)
  ·
    refine lv_iconst (v := 0) hx hb dX7_isFine_13 (by decide) ?_
    exact ret 0 _ _ _ _ _ _ _ (Nat.le_of_ble_eq_true rfl) (Nat.le_of_ble_eq_true rfl) (rfl) (⟨by simp [bI, c_6], rfl⟩) (hP.sub (ws' := [(m0, OB 7 [.int th, .ref a1, .ref a2, .ref a3, .int (nI ud), .ref a5, .ref a6, .ref a7, .int (nI ln), .int (nI nx), .int (nI ts), .int tk, .int vl, .int er, .ref a14, .int rq, .ref a16])]) [0] rfl) (hD.sub (ws' := [(m0, OB 7 [.int th, .ref a1, .ref a2, .ref a3, .int (nI ud), .ref a5, .ref a6, .ref a7, .int (nI ln), .int (nI nx), .int (nI ts), .int tk, .int vl, .int er, .ref a14, .int rq, .ref a16])]) [0] (by decide) rfl) hS dX7_isFine_14
  ·
    refine lv_iconst (v := 1) hx hb dX7_isFine_9 (by decide) ?_
    refine lv_goto (tgt := 14) hx hb dX7_isFine_10 (by decide) ?_
    exact ret 1 _ _ _ _ _ _ _ (Nat.le_of_ble_eq_true rfl) (Nat.le_of_ble_eq_true rfl) (rfl) (⟨by simp [bI, c_6], rfl⟩) (hP.sub (ws' := [(m0, OB 7 [.int th, .ref a1, .ref a2, .ref a3, .int (nI ud), .ref a5, .ref a6, .ref a7, .int (nI ln), .int (nI nx), .int (nI ts), .int tk, .int vl, .int er, .ref a14, .int rq, .ref a16])]) [0] rfl) (hD.sub (ws' := [(m0, OB 7 [.int th, .ref a1, .ref a2, .ref a3, .int (nI ud), .ref a5, .ref a6, .ref a7, .int (nI ln), .int (nI nx), .int (nI ts), .int tk, .int vl, .int er, .ref a14, .int rq, .ref a16])]) [0] (by decide) rfl) hS dX7_isFine_14
abbrev rmX7_isKeyword : Room := { frames := 0, cells := 0, slots := 0, locals := 0 }
set_option maxHeartbeats 4000000 in
set_option maxRecDepth 100000 in
theorem c_X7_isKeyword (l : Launch) (G : GT) (m0 a1 a2 a3 a5 a6 a7 a14 a16 : Nat) (th : Int32) (ud ln nx ts : Nat) (tk vl er rq : Int32) (x : Int32)  : Ci l yX7_isKeyword wsX7_isKeyword rmX7_isKeyword G [.ref m0, .int x] [(m0, OB 7 [.int th, .ref a1, .ref a2, .ref a3, .int (nI ud), .ref a5, .ref a6, .ref a7, .int (nI ln), .int (nI nx), .int (nI ts), .int tk, .int vl, .int er, .ref a14, .int rq, .ref a16])] (fun r u => r = bI (tk == 1 && vl == x) ∧ u = [(m0, OB 7 [.int th, .ref a1, .ref a2, .ref a3, .int (nI ud), .ref a5, .ref a6, .ref a7, .int (nI ln), .int (nI nx), .int (nI ts), .int tk, .int vl, .int er, .ref a14, .int rq, .ref a16])]) := by
  refine Ci.of (cc := cX7_isKeyword) (maxL := 2) (ty := .boolean) (by decide) rfl (Nat.le_of_ble_eq_true rfl) ?_
  intro p e s m below meth c A ls Q hx hb hml hts hown hA hS hP hK hN hSS hD hl ret
  have hown : s.vm.findClass RX7 = some m.cls := hown
  have hl : lv_has ls 2 [(0, .ref m0), (1, .int x)] := hl
  have hi7 : ∀ w ∈ wsX70, w ∈ wsX7_isKeyword := mem_places [3, 4, 5, 6, 7, 8, 9, 10, 11, 12, 13, 14, 15, 16, 17, 18, 19] (by decide +kernel)
  refine lv_aload_n hx hb dX7_isKeyword_0 rfl (lv_at hl 0 rfl) ?_
  refine va_get (D := G.1) (ci := 7) (v := .int tk) (C := RX7) (T := TX7) (N := 17) hx hb hts hi7 hown hK hP 0 rfl rfl 11 (by decide) (hts (.fieldLink RX7 56 "ConflictEnumeratorModel" "token" "I") (List.mem_of_getElem? (i := 1) rfl)) (fun _ h9 => h9) rfl dX7_isKeyword_1 ?_
  refine lv_iconst (v := 1) hx hb dX7_isKeyword_4 (by decide) ?_
  refine lv_icmp_ne (tgt := 20) hx hb dX7_isKeyword_5 (by decide) (fun c_5 => ?_) (fun c_5 => ?_)
  ·
    refine lv_iconst (v := 0) hx hb dX7_isKeyword_20 (by decide) ?_
    exact ret 0 _ _ _ _ _ _ _ (Nat.le_of_ble_eq_true rfl) (Nat.le_of_ble_eq_true rfl) (rfl) (⟨by simp [bI, c_5], rfl⟩) (hP.sub (ws' := [(m0, OB 7 [.int th, .ref a1, .ref a2, .ref a3, .int (nI ud), .ref a5, .ref a6, .ref a7, .int (nI ln), .int (nI nx), .int (nI ts), .int tk, .int vl, .int er, .ref a14, .int rq, .ref a16])]) [0] rfl) (hD.sub (ws' := [(m0, OB 7 [.int th, .ref a1, .ref a2, .ref a3, .int (nI ud), .ref a5, .ref a6, .ref a7, .int (nI ln), .int (nI nx), .int (nI ts), .int tk, .int vl, .int er, .ref a14, .int rq, .ref a16])]) [0] (by decide) rfl) hS dX7_isKeyword_21
  ·
    refine lv_aload_n hx hb dX7_isKeyword_8 rfl (lv_at hl 0 rfl) ?_
    refine va_get (D := G.1) (ci := 7) (v := .int vl) (C := RX7) (T := TX7) (N := 17) hx hb hts hi7 hown hK hP 0 rfl rfl 12 (by decide) (hts (.fieldLink RX7 67 "ConflictEnumeratorModel" "value" "I") (List.mem_of_getElem? (i := 2) rfl)) (fun _ h9 => h9) rfl dX7_isKeyword_9 ?_
    refine lv_iload_n hx hb dX7_isKeyword_12 rfl (lv_at hl 1 rfl) ?_
    refine lv_icmp_ne (tgt := 20) hx hb dX7_isKeyword_13 (by decide) (fun c_13 => ?_) (fun c_13 => ?_)
    ·
      refine lv_iconst (v := 0) hx hb dX7_isKeyword_20 (by decide) ?_
      exact ret 0 _ _ _ _ _ _ _ (Nat.le_of_ble_eq_true rfl) (Nat.le_of_ble_eq_true rfl) (rfl) (⟨by simp [bI, c_5, c_13], rfl⟩) (hP.sub (ws' := [(m0, OB 7 [.int th, .ref a1, .ref a2, .ref a3, .int (nI ud), .ref a5, .ref a6, .ref a7, .int (nI ln), .int (nI nx), .int (nI ts), .int tk, .int vl, .int er, .ref a14, .int rq, .ref a16])]) [0] rfl) (hD.sub (ws' := [(m0, OB 7 [.int th, .ref a1, .ref a2, .ref a3, .int (nI ud), .ref a5, .ref a6, .ref a7, .int (nI ln), .int (nI nx), .int (nI ts), .int tk, .int vl, .int er, .ref a14, .int rq, .ref a16])]) [0] (by decide) rfl) hS dX7_isKeyword_21
    ·
      refine lv_iconst (v := 1) hx hb dX7_isKeyword_16 (by decide) ?_
      refine lv_goto (tgt := 21) hx hb dX7_isKeyword_17 (by decide) ?_
      exact ret 1 _ _ _ _ _ _ _ (Nat.le_of_ble_eq_true rfl) (Nat.le_of_ble_eq_true rfl) (rfl) (⟨by simp [bI, c_5, c_13], rfl⟩) (hP.sub (ws' := [(m0, OB 7 [.int th, .ref a1, .ref a2, .ref a3, .int (nI ud), .ref a5, .ref a6, .ref a7, .int (nI ln), .int (nI nx), .int (nI ts), .int tk, .int vl, .int er, .ref a14, .int rq, .ref a16])]) [0] rfl) (hD.sub (ws' := [(m0, OB 7 [.int th, .ref a1, .ref a2, .ref a3, .int (nI ud), .ref a5, .ref a6, .ref a7, .int (nI ln), .int (nI nx), .int (nI ts), .int tk, .int vl, .int er, .ref a14, .int rq, .ref a16])]) [0] (by decide) rfl) hS dX7_isKeyword_21
abbrev rmX7_take : Room := { frames := 3, cells := 0, slots := 0, locals := 67 }
set_option maxHeartbeats 4000000 in
set_option maxRecDepth 100000 in
theorem c_X7_take (l : Launch) (G : GT) (m0 a1 a2 a3 a5 a6 a7 a14 a16 : Nat) (th : Int32) (ud ln : Nat) (rq : Int32) (t : PT) (tf : Nat → Int32) (b : Bool) (hln : ln ≤ 120) (hnx : t.1 ≤ ln) : Ci l yX7_take wsX7_take rmX7_take G [.ref m0, .int (bI b)] [(m0, OB 7 [.int th, .ref a1, .ref a2, .ref a3, .int (nI ud), .ref a5, .ref a6, .ref a7, .int (nI ln), .int (nI t.1), .int (nI t.2.1), .int t.2.2.1, .int t.2.2.2.1, .int t.2.2.2.2, .ref a14, .int rq, .ref a16]), (a7, AI G 120 tf)] (fun r u => r = t.2.2.2.1 ∧ u = [(m0, OB 7 [.int th, .ref a1, .ref a2, .ref a3, .int (nI ud), .ref a5, .ref a6, .ref a7, .int (nI ln), .int (nI ((tkeM tf ln b t).1)), .int (nI ((tkeM tf ln b t).2.1)), .int ((tkeM tf ln b t).2.2.1), .int ((tkeM tf ln b t).2.2.2.1), .int ((tkeM tf ln b t).2.2.2.2), .ref a14, .int rq, .ref a16]), (a7, AI G 120 tf)]) := by
  refine Ci.of (cc := cX7_take) (maxL := 3) (ty := .int) (by decide) rfl (Nat.le_of_ble_eq_true rfl) ?_
  intro p e s m below meth c A ls Q hx hb hml hts hown hA hS hP hK hN hSS hD hl ret
  have hown : s.vm.findClass RX7 = some m.cls := hown
  have hl : lv_has ls 3 [(0, .ref m0), (1, .int (bI b))] := hl
  have hi7 : ∀ w ∈ wsX70, w ∈ wsX7_take := mem_places [32, 33, 34, 35, 36, 37, 38, 39, 40, 41, 42, 43, 44, 45, 46, 47, 48] (by decide +kernel)
  refine lv_aload_n hx hb dX7_take_0 rfl (lv_at hl 0 rfl) ?_
  refine va_get (D := G.1) (ci := 7) (v := .int t.2.2.2.1) (C := RX7) (T := TX7) (N := 17) hx hb hts hi7 hown hK hP 0 rfl rfl 12 (by decide) (hts (.fieldLink RX7 67 "ConflictEnumeratorModel" "value" "I") (List.mem_of_getElem? (i := 1) rfl)) (fun _ h9 => h9) rfl dX7_take_1 ?_
  refine lv_istore_n (lv' := [(2, .int t.2.2.2.1), (0, .ref m0), (1, .int (bI b))]) hx hb dX7_take_4 rfl hl (by decide) rfl (fun ls hl => ?_)
  refine lv_aload_n hx hb dX7_take_5 rfl (lv_at hl 1 rfl) ?_
  refine call_Vi (rest := []) (As := []) (wr := [(a7, AI G 120 tf)]) (c1 := 0) (s1 := 0) ⟨hx, hb, hml, hown, hts⟩ (c_X7_isFine l G m0 a1 a2 a3 a5 a6 a7 a14 a16 th ud ln t.1 t.2.1 t.2.2.1 t.2.2.2.1 t.2.2.2.2 rq ) (cwV 0 hts gX7_take_X7_isFine rfl rfl rfl (by decide +kernel) ⟨Nat.le_of_ble_eq_true rfl, Nat.le_of_ble_eq_true rfl⟩) hK hN hSS hP hD hS hA 0 7 rfl rfl rfl [0] [1] rfl rfl (by decide) (by decide) (by decide) rfl hl.1 rfl (Nat.le_of_ble_eq_true rfl) dX7_take_6 ⟨Nat.le_of_ble_eq_true rfl, Nat.le_of_ble_eq_true rfl⟩ rfl rfl (fun r_6 u_6 H locs hpo hP hD hS => ?_)
  obtain ⟨hr9, rfl⟩ := hpo
  subst r_6
  have hP : va_P G.1 vwCl [(a7, AI G 120 tf), (m0, OB 7 [.int th, .ref a1, .ref a2, .ref a3, .int (nI ud), .ref a5, .ref a6, .ref a7, .int (nI ln), .int (nI t.1), .int (nI t.2.1), .int t.2.2.1, .int t.2.2.2.1, .int t.2.2.2.2, .ref a14, .int rq, .ref a16])] H := hP
  have hD : va_D A [(a7, AI G 120 tf), (m0, OB 7 [.int th, .ref a1, .ref a2, .ref a3, .int (nI ud), .ref a5, .ref a6, .ref a7, .int (nI ln), .int (nI t.1), .int (nI t.2.1), .int t.2.2.1, .int t.2.2.2.1, .int t.2.2.2.2, .ref a14, .int rq, .ref a16])] := hD
  refine wb_eq (tgt := 31) hx hb dX7_take_9 (by decide) (fun c_9 => ?_) (fun c_9 => ?_)
  ·
    have c_9 : ¬ (t).2.2.2.2 = -9 := by simpa using c_9
    refine lv_iload_n hx hb dX7_take_31 rfl (lv_at hl 0 rfl) ?_
    exact ret t.2.2.2.1 _ _ _ _ _ _ _ (Nat.le_of_ble_eq_true rfl) (Nat.le_of_ble_eq_true rfl) (rfl) (⟨rfl, by first | (unfold tkeM; rw [if_neg c_9]; done) | (unfold tkeM; rw [if_pos c_9, if_pos c_13]; done) | (unfold tkeM; rw [if_pos c_9, if_neg (by rw [c_13]; decide)])⟩) (hP.sub (ws' := [(m0, OB 7 [.int th, .ref a1, .ref a2, .ref a3, .int (nI ud), .ref a5, .ref a6, .ref a7, .int (nI ln), .int (nI t.1), .int (nI t.2.1), .int t.2.2.1, .int t.2.2.2.1, .int t.2.2.2.2, .ref a14, .int rq, .ref a16]), (a7, AI G 120 tf)]) [1, 0] rfl) (hD.sub (ws' := [(m0, OB 7 [.int th, .ref a1, .ref a2, .ref a3, .int (nI ud), .ref a5, .ref a6, .ref a7, .int (nI ln), .int (nI t.1), .int (nI t.2.1), .int t.2.2.1, .int t.2.2.2.1, .int t.2.2.2.2, .ref a14, .int rq, .ref a16]), (a7, AI G 120 tf)]) [1, 0] (by decide) rfl) hS dX7_take_32
  ·
    have c_9 : (t).2.2.2.2 = -9 := by simpa using c_9
    refine lv_iload_n hx hb dX7_take_12 rfl (lv_at hl 2 rfl) ?_
    refine wb_eq (tgt := 23) hx hb dX7_take_13 (by decide) (fun c_13 => ?_) (fun c_13 => ?_)
    ·
      refine lv_aload_n hx hb dX7_take_23 rfl (lv_at hl 1 rfl) ?_
      refine lv_aload_n hx hb dX7_take_24 rfl (lv_at hl 1 rfl) ?_
      refine va_get (D := G.1) (ci := 7) (v := .int (nI t.2.1)) (C := RX7) (T := TX7) (N := 17) hx hb hts hi7 hown hK hP 1 rfl rfl 10 (by decide) (hts (.fieldLink RX7 45 "ConflictEnumeratorModel" "tokenStart" "I") (List.mem_of_getElem? (i := 2) rfl)) (fun _ h9 => h9) rfl dX7_take_25 ?_
      refine va_put (D := G.1) (ci := 7) (v := .int (nI t.2.1)) (ty := .int) (C := RX7) (T := TX7) (N := 17) hx hb hts hi7 tyX7 tyX7_ok nmX7 hown hK hP hD hS 1 rfl rfl 13 (by decide) (hts (.fieldLink RX7 70 "ConflictEnumeratorModel" "error" "I") (List.mem_of_getElem? (i := 3) rfl)) (fun _ h9 => h9) rfl (by decide +kernel) rfl rfl (Nat.le_of_ble_eq_true rfl) dX7_take_28 (fun H locs hP hD hS => ?_)
      have hP : va_P G.1 vwCl [(a7, AI G 120 tf), (m0, OB 7 [.int th, .ref a1, .ref a2, .ref a3, .int (nI ud), .ref a5, .ref a6, .ref a7, .int (nI ln), .int (nI t.1), .int (nI t.2.1), .int t.2.2.1, .int t.2.2.2.1, .int (nI t.2.1), .ref a14, .int rq, .ref a16])] H := hP
      have hD : va_D A [(a7, AI G 120 tf), (m0, OB 7 [.int th, .ref a1, .ref a2, .ref a3, .int (nI ud), .ref a5, .ref a6, .ref a7, .int (nI ln), .int (nI t.1), .int (nI t.2.1), .int t.2.2.1, .int t.2.2.2.1, .int (nI t.2.1), .ref a14, .int rq, .ref a16])] := hD
      refine lv_iload_n hx hb dX7_take_31 rfl (lv_at hl 0 rfl) ?_
      exact ret t.2.2.2.1 _ _ _ _ _ _ _ (Nat.le_of_ble_eq_true rfl) (Nat.le_of_ble_eq_true rfl) (rfl) (⟨rfl, by first | (unfold tkeM; rw [if_neg c_9]; done) | (unfold tkeM; rw [if_pos c_9, if_pos c_13]; done) | (unfold tkeM; rw [if_pos c_9, if_neg (by rw [c_13]; decide)])⟩) (hP.sub (ws' := [(m0, OB 7 [.int th, .ref a1, .ref a2, .ref a3, .int (nI ud), .ref a5, .ref a6, .ref a7, .int (nI ln), .int (nI t.1), .int (nI t.2.1), .int t.2.2.1, .int t.2.2.2.1, .int (nI t.2.1), .ref a14, .int rq, .ref a16]), (a7, AI G 120 tf)]) [1, 0] rfl) (hD.sub (ws' := [(m0, OB 7 [.int th, .ref a1, .ref a2, .ref a3, .int (nI ud), .ref a5, .ref a6, .ref a7, .int (nI ln), .int (nI t.1), .int (nI t.2.1), .int t.2.2.1, .int t.2.2.2.1, .int (nI t.2.1), .ref a14, .int rq, .ref a16]), (a7, AI G 120 tf)]) [1, 0] (by decide) rfl) hS dX7_take_32
    ·
      refine lv_aload_n hx hb dX7_take_16 rfl (lv_at hl 1 rfl) ?_
      refine call_Vv (rest := []) (As := []) (wr := []) (c1 := 0) (s1 := 0) ⟨hx, hb, hml, hown, hts⟩ (c_X7_advance l G m0 a1 a2 a3 a5 a6 a7 a14 a16 th ud ln t.1 t.2.1 t.2.2.1 t.2.2.2.1 t.2.2.2.2 rq tf (by first | assumption | omega) (by first | assumption | omega)) (cwV 0 hts gX7_take_X7_advance rfl rfl rfl (by decide +kernel) ⟨Nat.le_of_ble_eq_true rfl, Nat.le_of_ble_eq_true rfl⟩) hK hN hSS hP hD hS hA 0 7 rfl rfl rfl [1, 0] [] rfl rfl (by decide) (by decide) (by decide) rfl hl.1 rfl (Nat.le_of_ble_eq_true rfl) dX7_take_17 ⟨Nat.le_of_ble_eq_true rfl, Nat.le_of_ble_eq_true rfl⟩ rfl rfl (fun u_17 H locs hpo hP hD hS => ?_)
      subst hpo
      have hP : va_P G.1 vwCl [(m0, OB 7 [.int th, .ref a1, .ref a2, .ref a3, .int (nI ud), .ref a5, .ref a6, .ref a7, .int (nI ln), .int (nI ((advM tf ln t.1 t.2.2.2.1).1)), .int (nI ((advM tf ln t.1 t.2.2.2.1).2.1)), .int ((advM tf ln t.1 t.2.2.2.1).2.2.1), .int ((advM tf ln t.1 t.2.2.2.1).2.2.2), .int t.2.2.2.2, .ref a14, .int rq, .ref a16]), (a7, AI G 120 tf)] H := hP
      have hD : va_D A [(m0, OB 7 [.int th, .ref a1, .ref a2, .ref a3, .int (nI ud), .ref a5, .ref a6, .ref a7, .int (nI ln), .int (nI ((advM tf ln t.1 t.2.2.2.1).1)), .int (nI ((advM tf ln t.1 t.2.2.2.1).2.1)), .int ((advM tf ln t.1 t.2.2.2.1).2.2.1), .int ((advM tf ln t.1 t.2.2.2.1).2.2.2), .int t.2.2.2.2, .ref a14, .int rq, .ref a16]), (a7, AI G 120 tf)] := hD
      refine lv_goto (tgt := 31) hx hb dX7_take_20 (by decide) ?_
      refine lv_iload_n hx hb dX7_take_31 rfl (lv_at hl 0 rfl) ?_
      exact ret t.2.2.2.1 _ _ _ _ _ _ _ (Nat.le_of_ble_eq_true rfl) (Nat.le_of_ble_eq_true rfl) (rfl) (⟨rfl, by first | (unfold tkeM; rw [if_neg c_9]; done) | (unfold tkeM; rw [if_pos c_9, if_pos c_13]; done) | (unfold tkeM; rw [if_pos c_9, if_neg (by rw [c_13]; decide)])⟩) (hP.sub (ws' := [(m0, OB 7 [.int th, .ref a1, .ref a2, .ref a3, .int (nI ud), .ref a5, .ref a6, .ref a7, .int (nI ln), .int (nI ((advM tf ln t.1 t.2.2.2.1).1)), .int (nI ((advM tf ln t.1 t.2.2.2.1).2.1)), .int ((advM tf ln t.1 t.2.2.2.1).2.2.1), .int ((advM tf ln t.1 t.2.2.2.1).2.2.2), .int t.2.2.2.2, .ref a14, .int rq, .ref a16]), (a7, AI G 120 tf)]) [0, 1] rfl) (hD.sub (ws' := [(m0, OB 7 [.int th, .ref a1, .ref a2, .ref a3, .int (nI ud), .ref a5, .ref a6, .ref a7, .int (nI ln), .int (nI ((advM tf ln t.1 t.2.2.2.1).1)), .int (nI ((advM tf ln t.1 t.2.2.2.1).2.1)), .int ((advM tf ln t.1 t.2.2.2.1).2.2.1), .int ((advM tf ln t.1 t.2.2.2.1).2.2.2), .int t.2.2.2.2, .ref a14, .int rq, .ref a16]), (a7, AI G 120 tf)]) [0, 1] (by decide) rfl) hS dX7_take_32
abbrev rmX7_digit : Room := { frames := 4, cells := 0, slots := 0, locals := 89 }
set_option maxHeartbeats 4000000 in
set_option maxRecDepth 100000 in
theorem c_X7_digit (l : Launch) (G : GT) (m0 a1 a2 a3 a5 a6 a7 a14 a16 : Nat) (th : Int32) (ud ln : Nat) (rq : Int32) (t : PT) (tf : Nat → Int32) (lo hi : Int32) (hln : ln ≤ 120) (hnx : t.1 ≤ ln) : Ci l yX7_digit wsX7_digit rmX7_digit G [.ref m0, .int lo, .int hi] [(m0, OB 7 [.int th, .ref a1, .ref a2, .ref a3, .int (nI ud), .ref a5, .ref a6, .ref a7, .int (nI ln), .int (nI t.1), .int (nI t.2.1), .int t.2.2.1, .int t.2.2.2.1, .int t.2.2.2.2, .ref a14, .int rq, .ref a16]), (a7, AI G 120 tf)] (fun r u => r = t.2.2.2.1 ∧ u = [(m0, OB 7 [.int th, .ref a1, .ref a2, .ref a3, .int (nI ud), .ref a5, .ref a6, .ref a7, .int (nI ln), .int (nI ((tkeM tf ln (dgB t lo hi) t).1)), .int (nI ((tkeM tf ln (dgB t lo hi) t).2.1)), .int ((tkeM tf ln (dgB t lo hi) t).2.2.1), .int ((tkeM tf ln (dgB t lo hi) t).2.2.2.1), .int ((tkeM tf ln (dgB t lo hi) t).2.2.2.2), .ref a14, .int rq, .ref a16]), (a7, AI G 120 tf)]) := by
  refine Ci.of (cc := cX7_digit) (maxL := 3) (ty := .int) (by decide) rfl (Nat.le_of_ble_eq_true rfl) ?_
  intro p e s m below meth c A ls Q hx hb hml hts hown hA hS hP hK hN hSS hD hl ret
  have hown : s.vm.findClass RX7 = some m.cls := hown
  have hl : lv_has ls 3 [(0, .ref m0), (1, .int lo), (2, .int hi)] := hl
  have hi7 : ∀ w ∈ wsX70, w ∈ wsX7_digit := mem_places [36, 37, 38, 39, 40, 41, 42, 43, 44, 45, 46, 47, 48, 49, 50, 51, 52] (by decide +kernel)
  refine lv_aload_n hx hb dX7_digit_0 rfl (lv_at hl 0 rfl) ?_
  refine lv_aload_n hx hb dX7_digit_1 rfl (lv_at hl 0 rfl) ?_
  refine va_get (D := G.1) (ci := 7) (v := .int t.2.2.1) (C := RX7) (T := TX7) (N := 17) hx hb hts hi7 hown hK hP 0 rfl rfl 11 (by decide) (hts (.fieldLink RX7 56 "ConflictEnumeratorModel" "token" "I") (List.mem_of_getElem? (i := 1) rfl)) (fun _ h9 => h9) rfl dX7_digit_2 ?_
  refine lv_iconst (v := 2) hx hb dX7_digit_5 (by decide) ?_
  refine lv_icmp_ne (tgt := 25) hx hb dX7_digit_6 (by decide) (fun c_6 => ?_) (fun c_6 => ?_)
  ·
    have hdg : dgB t lo hi = false := by simp [dgB, c_6]
    refine lv_iconst (v := 0) hx hb dX7_digit_25 (by decide) ?_
    refine W.eq (g2 := F0 m 26 ls [.int (bI (dgB t lo hi)), .ref m0]) (by rw [hdg]; rfl) ?_
    refine call_Vi (rest := []) (As := [.int (bI (dgB t lo hi))]) (wr := []) (c1 := 0) (s1 := 0) ⟨hx, hb, hml, hown, hts⟩ (c_X7_take l G m0 a1 a2 a3 a5 a6 a7 a14 a16 th ud ln rq t tf (dgB t lo hi) (by first | assumption | omega) (by first | assumption | omega)) (cwV 1 hts gX7_digit_X7_take rfl rfl rfl (by decide +kernel) ⟨Nat.le_of_ble_eq_true rfl, Nat.le_of_ble_eq_true rfl⟩) hK hN hSS hP hD hS hA 0 7 rfl rfl rfl [0, 1] [] rfl rfl (by decide) (by decide) (by decide) rfl hl.1 rfl (Nat.le_of_ble_eq_true rfl) dX7_digit_26 ⟨Nat.le_of_ble_eq_true rfl, Nat.le_of_ble_eq_true rfl⟩ rfl rfl (fun r_26 u_26 H locs hpo hP hD hS => ?_)
    obtain ⟨hr9, rfl⟩ := hpo
    subst r_26
    have hP : va_P G.1 vwCl [(m0, OB 7 [.int th, .ref a1, .ref a2, .ref a3, .int (nI ud), .ref a5, .ref a6, .ref a7, .int (nI ln), .int (nI ((tkeM tf ln (dgB t lo hi) t).1)), .int (nI ((tkeM tf ln (dgB t lo hi) t).2.1)), .int ((tkeM tf ln (dgB t lo hi) t).2.2.1), .int ((tkeM tf ln (dgB t lo hi) t).2.2.2.1), .int ((tkeM tf ln (dgB t lo hi) t).2.2.2.2), .ref a14, .int rq, .ref a16]), (a7, AI G 120 tf)] H := hP
    have hD : va_D A [(m0, OB 7 [.int th, .ref a1, .ref a2, .ref a3, .int (nI ud), .ref a5, .ref a6, .ref a7, .int (nI ln), .int (nI ((tkeM tf ln (dgB t lo hi) t).1)), .int (nI ((tkeM tf ln (dgB t lo hi) t).2.1)), .int ((tkeM tf ln (dgB t lo hi) t).2.2.1), .int ((tkeM tf ln (dgB t lo hi) t).2.2.2.1), .int ((tkeM tf ln (dgB t lo hi) t).2.2.2.2), .ref a14, .int rq, .ref a16]), (a7, AI G 120 tf)] := hD
    exact ret t.2.2.2.1 _ _ _ _ _ _ _ (Nat.le_of_ble_eq_true rfl) (Nat.le_of_ble_eq_true rfl) (rfl) (⟨rfl, rfl⟩) (hP.sub (ws' := [(m0, OB 7 [.int th, .ref a1, .ref a2, .ref a3, .int (nI ud), .ref a5, .ref a6, .ref a7, .int (nI ln), .int (nI ((tkeM tf ln (dgB t lo hi) t).1)), .int (nI ((tkeM tf ln (dgB t lo hi) t).2.1)), .int ((tkeM tf ln (dgB t lo hi) t).2.2.1), .int ((tkeM tf ln (dgB t lo hi) t).2.2.2.1), .int ((tkeM tf ln (dgB t lo hi) t).2.2.2.2), .ref a14, .int rq, .ref a16]), (a7, AI G 120 tf)]) [0, 1] rfl) (hD.sub (ws' := [(m0, OB 7 [.int th, .ref a1, .ref a2, .ref a3, .int (nI ud), .ref a5, .ref a6, .ref a7, .int (nI ln), .int (nI ((tkeM tf ln (dgB t lo hi) t).1)), .int (nI ((tkeM tf ln (dgB t lo hi) t).2.1)), .int ((tkeM tf ln (dgB t lo hi) t).2.2.1), .int ((tkeM tf ln (dgB t lo hi) t).2.2.2.1), .int ((tkeM tf ln (dgB t lo hi) t).2.2.2.2), .ref a14, .int rq, .ref a16]), (a7, AI G 120 tf)]) [0, 1] (by decide) rfl) hS dX7_digit_29
  ·
    refine lv_aload_n hx hb dX7_digit_9 rfl (lv_at hl 0 rfl) ?_
    refine va_get (D := G.1) (ci := 7) (v := .int t.2.2.2.1) (C := RX7) (T := TX7) (N := 17) hx hb hts hi7 hown hK hP 0 rfl rfl 12 (by decide) (hts (.fieldLink RX7 67 "ConflictEnumeratorModel" "value" "I") (List.mem_of_getElem? (i := 2) rfl)) (fun _ h9 => h9) rfl dX7_digit_10 ?_
    refine lv_iload_n hx hb dX7_digit_13 rfl (lv_at hl 1 rfl) ?_
    refine lv_iload_n hx hb dX7_digit_14 rfl (lv_at hl 2 rfl) ?_
    refine call_Si (rest := [.ref m0]) (As := [.int t.2.2.2.1, .int lo, .int hi]) (wr := [(m0, OB 7 [.int th, .ref a1, .ref a2, .ref a3, .int (nI ud), .ref a5, .ref a6, .ref a7, .int (nI ln), .int (nI t.1), .int (nI t.2.1), .int t.2.2.1, .int t.2.2.2.1, .int t.2.2.2.2, .ref a14, .int rq, .ref a16]), (a7, AI G 120 tf)]) (c1 := 0) (s1 := 0) ⟨hx, hb, hml, hown, hts⟩ (c_X7_in l G t.2.2.2.1 lo hi ) (va_cwS 3 hts gX7_digit_X7_in rfl rfl rfl (by decide +kernel) ⟨Nat.le_of_ble_eq_true rfl, Nat.le_of_ble_eq_true rfl⟩) hK hN hSS hP hD hS hA [] [0, 1] rfl rfl (by decide) (by decide) (by decide) rfl hl.1 rfl (Nat.le_of_ble_eq_true rfl) dX7_digit_15 ⟨Nat.le_of_ble_eq_true rfl, Nat.le_of_ble_eq_true rfl⟩ rfl rfl (fun r_15 u_15 H locs hpo hP hD hS => ?_)
    obtain ⟨hr9, rfl⟩ := hpo
    subst r_15
    have hP : va_P G.1 vwCl [(m0, OB 7 [.int th, .ref a1, .ref a2, .ref a3, .int (nI ud), .ref a5, .ref a6, .ref a7, .int (nI ln), .int (nI t.1), .int (nI t.2.1), .int t.2.2.1, .int t.2.2.2.1, .int t.2.2.2.2, .ref a14, .int rq, .ref a16]), (a7, AI G 120 tf)] H := hP
    have hD : va_D A [(m0, OB 7 [.int th, .ref a1, .ref a2, .ref a3, .int (nI ud), .ref a5, .ref a6, .ref a7, .int (nI ln), .int (nI t.1), .int (nI t.2.1), .int t.2.2.1, .int t.2.2.2.1, .int t.2.2.2.2, .ref a14, .int rq, .ref a16]), (a7, AI G 120 tf)] := hD
    refine wb_eq (tgt := 25) hx hb dX7_digit_18 (by decide) (fun c_18 => ?_) (fun c_18 => ?_)
    ·
      have hdg : dgB t lo hi = false := by simp [dgB, c_6, c_18]
      refine lv_iconst (v := 0) hx hb dX7_digit_25 (by decide) ?_
      refine W.eq (g2 := F0 m 26 ls [.int (bI (dgB t lo hi)), .ref m0]) (by rw [hdg]; rfl) ?_
      refine call_Vi (rest := []) (As := [.int (bI (dgB t lo hi))]) (wr := []) (c1 := 0) (s1 := 0) ⟨hx, hb, hml, hown, hts⟩ (c_X7_take l G m0 a1 a2 a3 a5 a6 a7 a14 a16 th ud ln rq t tf (dgB t lo hi) (by first | assumption | omega) (by first | assumption | omega)) (cwV 1 hts gX7_digit_X7_take rfl rfl rfl (by decide +kernel) ⟨Nat.le_of_ble_eq_true rfl, Nat.le_of_ble_eq_true rfl⟩) hK hN hSS hP hD hS hA 0 7 rfl rfl rfl [0, 1] [] rfl rfl (by decide) (by decide) (by decide) rfl hl.1 rfl (Nat.le_of_ble_eq_true rfl) dX7_digit_26 ⟨Nat.le_of_ble_eq_true rfl, Nat.le_of_ble_eq_true rfl⟩ rfl rfl (fun r_26 u_26 H locs hpo hP hD hS => ?_)
      obtain ⟨hr9, rfl⟩ := hpo
      subst r_26
      have hP : va_P G.1 vwCl [(m0, OB 7 [.int th, .ref a1, .ref a2, .ref a3, .int (nI ud), .ref a5, .ref a6, .ref a7, .int (nI ln), .int (nI ((tkeM tf ln (dgB t lo hi) t).1)), .int (nI ((tkeM tf ln (dgB t lo hi) t).2.1)), .int ((tkeM tf ln (dgB t lo hi) t).2.2.1), .int ((tkeM tf ln (dgB t lo hi) t).2.2.2.1), .int ((tkeM tf ln (dgB t lo hi) t).2.2.2.2), .ref a14, .int rq, .ref a16]), (a7, AI G 120 tf)] H := hP
      have hD : va_D A [(m0, OB 7 [.int th, .ref a1, .ref a2, .ref a3, .int (nI ud), .ref a5, .ref a6, .ref a7, .int (nI ln), .int (nI ((tkeM tf ln (dgB t lo hi) t).1)), .int (nI ((tkeM tf ln (dgB t lo hi) t).2.1)), .int ((tkeM tf ln (dgB t lo hi) t).2.2.1), .int ((tkeM tf ln (dgB t lo hi) t).2.2.2.1), .int ((tkeM tf ln (dgB t lo hi) t).2.2.2.2), .ref a14, .int rq, .ref a16]), (a7, AI G 120 tf)] := hD
      exact ret t.2.2.2.1 _ _ _ _ _ _ _ (Nat.le_of_ble_eq_true rfl) (Nat.le_of_ble_eq_true rfl) (rfl) (⟨rfl, rfl⟩) (hP.sub (ws' := [(m0, OB 7 [.int th, .ref a1, .ref a2, .ref a3, .int (nI ud), .ref a5, .ref a6, .ref a7, .int (nI ln), .int (nI ((tkeM tf ln (dgB t lo hi) t).1)), .int (nI ((tkeM tf ln (dgB t lo hi) t).2.1)), .int ((tkeM tf ln (dgB t lo hi) t).2.2.1), .int ((tkeM tf ln (dgB t lo hi) t).2.2.2.1), .int ((tkeM tf ln (dgB t lo hi) t).2.2.2.2), .ref a14, .int rq, .ref a16]), (a7, AI G 120 tf)]) [0, 1] rfl) (hD.sub (ws' := [(m0, OB 7 [.int th, .ref a1, .ref a2, .ref a3, .int (nI ud), .ref a5, .ref a6, .ref a7, .int (nI ln), .int (nI ((tkeM tf ln (dgB t lo hi) t).1)), .int (nI ((tkeM tf ln (dgB t lo hi) t).2.1)), .int ((tkeM tf ln (dgB t lo hi) t).2.2.1), .int ((tkeM tf ln (dgB t lo hi) t).2.2.2.1), .int ((tkeM tf ln (dgB t lo hi) t).2.2.2.2), .ref a14, .int rq, .ref a16]), (a7, AI G 120 tf)]) [0, 1] (by decide) rfl) hS dX7_digit_29
    ·
      have hdg : dgB t lo hi = true := by simp [dgB, c_6, c_18]
      refine lv_iconst (v := 1) hx hb dX7_digit_21 (by decide) ?_
      refine lv_goto (tgt := 26) hx hb dX7_digit_22 (by decide) ?_
      refine W.eq (g2 := F0 m 26 ls [.int (bI (dgB t lo hi)), .ref m0]) (by rw [hdg]; rfl) ?_
      refine call_Vi (rest := []) (As := [.int (bI (dgB t lo hi))]) (wr := []) (c1 := 0) (s1 := 0) ⟨hx, hb, hml, hown, hts⟩ (c_X7_take l G m0 a1 a2 a3 a5 a6 a7 a14 a16 th ud ln rq t tf (dgB t lo hi) (by first | assumption | omega) (by first | assumption | omega)) (cwV 1 hts gX7_digit_X7_take rfl rfl rfl (by decide +kernel) ⟨Nat.le_of_ble_eq_true rfl, Nat.le_of_ble_eq_true rfl⟩) hK hN hSS hP hD hS hA 0 7 rfl rfl rfl [0, 1] [] rfl rfl (by decide) (by decide) (by decide) rfl hl.1 rfl (Nat.le_of_ble_eq_true rfl) dX7_digit_26 ⟨Nat.le_of_ble_eq_true rfl, Nat.le_of_ble_eq_true rfl⟩ rfl rfl (fun r_26 u_26 H locs hpo hP hD hS => ?_)
      obtain ⟨hr9, rfl⟩ := hpo
      subst r_26
      have hP : va_P G.1 vwCl [(m0, OB 7 [.int th, .ref a1, .ref a2, .ref a3, .int (nI ud), .ref a5, .ref a6, .ref a7, .int (nI ln), .int (nI ((tkeM tf ln (dgB t lo hi) t).1)), .int (nI ((tkeM tf ln (dgB t lo hi) t).2.1)), .int ((tkeM tf ln (dgB t lo hi) t).2.2.1), .int ((tkeM tf ln (dgB t lo hi) t).2.2.2.1), .int ((tkeM tf ln (dgB t lo hi) t).2.2.2.2), .ref a14, .int rq, .ref a16]), (a7, AI G 120 tf)] H := hP
      have hD : va_D A [(m0, OB 7 [.int th, .ref a1, .ref a2, .ref a3, .int (nI ud), .ref a5, .ref a6, .ref a7, .int (nI ln), .int (nI ((tkeM tf ln (dgB t lo hi) t).1)), .int (nI ((tkeM tf ln (dgB t lo hi) t).2.1)), .int ((tkeM tf ln (dgB t lo hi) t).2.2.1), .int ((tkeM tf ln (dgB t lo hi) t).2.2.2.1), .int ((tkeM tf ln (dgB t lo hi) t).2.2.2.2), .ref a14, .int rq, .ref a16]), (a7, AI G 120 tf)] := hD
      exact ret t.2.2.2.1 _ _ _ _ _ _ _ (Nat.le_of_ble_eq_true rfl) (Nat.le_of_ble_eq_true rfl) (rfl) (⟨rfl, rfl⟩) (hP.sub (ws' := [(m0, OB 7 [.int th, .ref a1, .ref a2, .ref a3, .int (nI ud), .ref a5, .ref a6, .ref a7, .int (nI ln), .int (nI ((tkeM tf ln (dgB t lo hi) t).1)), .int (nI ((tkeM tf ln (dgB t lo hi) t).2.1)), .int ((tkeM tf ln (dgB t lo hi) t).2.2.1), .int ((tkeM tf ln (dgB t lo hi) t).2.2.2.1), .int ((tkeM tf ln (dgB t lo hi) t).2.2.2.2), .ref a14, .int rq, .ref a16]), (a7, AI G 120 tf)]) [0, 1] rfl) (hD.sub (ws' := [(m0, OB 7 [.int th, .ref a1, .ref a2, .ref a3, .int (nI ud), .ref a5, .ref a6, .ref a7, .int (nI ln), .int (nI ((tkeM tf ln (dgB t lo hi) t).1)), .int (nI ((tkeM tf ln (dgB t lo hi) t).2.1)), .int ((tkeM tf ln (dgB t lo hi) t).2.2.1), .int ((tkeM tf ln (dgB t lo hi) t).2.2.2.1), .int ((tkeM tf ln (dgB t lo hi) t).2.2.2.2), .ref a14, .int rq, .ref a16]), (a7, AI G 120 tf)]) [0, 1] (by decide) rfl) hS dX7_digit_29
abbrev rmX7_readLiteral : Room := { frames := 4, cells := 0, slots := 0, locals := 89 }
set_option maxHeartbeats 4000000 in
set_option maxRecDepth 100000 in
theorem c_X7_readLiteral (l : Launch) (G : GT) (m0 a1 a2 a3 a5 a6 a7 a14 a16 : Nat) (th : Int32) (ud ln : Nat) (rq : Int32) (t : PT) (tf df : Nat → Int32) (w : Nat) (hln : ln ≤ 120) (hok : okP ln t) (hw9 : w + 6 ≤ 64) : Cv l yX7_readLiteral wsX7_readLiteral rmX7_readLiteral G [.ref m0, .int (nI w)] [(m0, OB 7 [.int th, .ref a1, .ref a2, .ref a3, .int (nI ud), .ref a5, .ref a6, .ref a7, .int (nI ln), .int (nI t.1), .int (nI t.2.1), .int t.2.2.1, .int t.2.2.2.1, .int t.2.2.2.2, .ref a14, .int rq, .ref a16]), (a7, AI G 120 tf), (a2, AI G 64 df)] (fun u => u = [(m0, OB 7 [.int th, .ref a1, .ref a2, .ref a3, .int (nI ud), .ref a5, .ref a6, .ref a7, .int (nI ln), .int (nI ((ltB tf ln w (t, df)).1)), .int (nI ((ltB tf ln w (t, df)).2.1)), .int ((ltB tf ln w (t, df)).2.2.1), .int ((ltB tf ln w (t, df)).2.2.2.1), .int ((ltB tf ln w (t, df)).2.2.2.2), .ref a14, .int rq, .ref a16]), (a7, AI G 120 tf), (a2, AI G 64 (litD tf ln w (t, df)))]) := by
  refine Cv.of (cc := cX7_readLiteral) (maxL := 4) (by decide) rfl (Nat.le_of_ble_eq_true rfl) ?_
  intro p e s m below meth c A ls Q hx hb hml hts hown hin hA hS hP hK hN hSS hD hl ret
  have hown : s.vm.findClass RX7 = some m.cls := hown
  have hl : lv_has ls 4 [(0, .ref m0), (1, .int (nI w))] := hl
  have hi7 : ∀ w ∈ wsX70, w ∈ wsX7_readLiteral := mem_places [40, 41, 42, 43, 44, 45, 46, 47, 48, 49, 50, 51, 52, 53, 54, 55, 56] (by decide +kernel)
  refine lv_aload_n hx hb dX7_readLiteral_0 rfl (lv_at hl 0 rfl) ?_
  refine va_get (D := G.1) (ci := 7) (v := .int t.2.2.1) (C := RX7) (T := TX7) (N := 17) hx hb hts hi7 hown hK hP 0 rfl rfl 11 (by decide) (hts (.fieldLink RX7 56 "ConflictEnumeratorModel" "token" "I") (List.mem_of_getElem? (i := 1) rfl)) (fun _ h9 => h9) rfl dX7_readLiteral_1 ?_
  refine lv_iconst (v := 3) hx hb dX7_readLiteral_4 (by decide) ?_
  refine lv_icmp_ne (tgt := 12) hx hb dX7_readLiteral_5 (by decide) (fun c_5 => ?_) (fun c_5 => ?_)
  ·
    have hl1 : ltA tf ln t = t := by unfold ltA; rw [if_neg c_5]
    have hn1 : (if t.2.2.1 = 3 then (1 : Int32) <<< ((ltA tf ln t).2.2.2.1 &&& 31) else 0) = 0 := by rw [if_neg c_5]
    refine lv_iconst (v := 0) hx hb dX7_readLiteral_12 (by decide) ?_
    refine lv_istore_n (lv' := [(2, .int 0), (0, .ref m0), (1, .int (nI w))]) hx hb dX7_readLiteral_13 rfl hl (by decide) rfl (fun ls hl => ?_)
    refine lv_iload_n hx hb dX7_readLiteral_14 rfl (lv_at hl 0 rfl) ?_
    refine lv_if_eq (tgt := 24) hx hb dX7_readLiteral_15 (by decide) (fun c_15 => ?_) (fun c_15 => absurd c_15 (by decide))
    have hP : va_P G.1 vwCl [(m0, OB 7 [.int th, .ref a1, .ref a2, .ref a3, .int (nI ud), .ref a5, .ref a6, .ref a7, .int (nI ln), .int (nI ((ltA tf ln t).1)), .int (nI ((ltA tf ln t).2.1)), .int ((ltA tf ln t).2.2.1), .int ((ltA tf ln t).2.2.2.1), .int ((ltA tf ln t).2.2.2.2), .ref a14, .int rq, .ref a16]), (a7, AI G 120 tf), (a2, AI G 64 df)] s.heap := (by rw [hl1]; exact hP)
    have hD : va_D A [(m0, OB 7 [.int th, .ref a1, .ref a2, .ref a3, .int (nI ud), .ref a5, .ref a6, .ref a7, .int (nI ln), .int (nI ((ltA tf ln t).1)), .int (nI ((ltA tf ln t).2.1)), .int ((ltA tf ln t).2.2.1), .int ((ltA tf ln t).2.2.2.1), .int ((ltA tf ln t).2.2.2.2), .ref a14, .int rq, .ref a16]), (a7, AI G 120 tf), (a2, AI G 64 df)] := (by rw [hl1]; exact hD)
    refine lv_aload_n hx hb dX7_readLiteral_24 rfl (lv_at hl 1 rfl) ?_
    refine lv_aload_n hx hb dX7_readLiteral_25 rfl (lv_at hl 1 rfl) ?_
    refine va_get (D := G.1) (ci := 7) (v := .int ((ltA tf ln t).2.2.1)) (C := RX7) (T := TX7) (N := 17) hx hb hts hi7 hown hK hP 0 rfl rfl 11 (by decide) (hts (.fieldLink RX7 56 "ConflictEnumeratorModel" "token" "I") (List.mem_of_getElem? (i := 1) rfl)) (fun _ h9 => h9) rfl dX7_readLiteral_26 ?_
    refine lv_iconst (v := 2) hx hb dX7_readLiteral_29 (by decide) ?_
    refine lv_icmp_ne (tgt := 68) hx hb dX7_readLiteral_30 (by decide) (fun c_30 => ?_) (fun c_30 => ?_)
    ·
      have hlb : litB df w (ltA tf ln t) = false := by simp [litB, c_30]
      refine lv_iconst (v := 0) hx hb dX7_readLiteral_68 (by decide) ?_
      refine W.eq (g2 := F0 m 69 ls [.int (bI (litB df w (ltA tf ln t))), .ref m0]) (by rw [hlb]; rfl) ?_
      refine call_Vi (rest := []) (As := [.int (bI (litB df w (ltA tf ln t)))]) (wr := [(a2, AI G 64 df)]) (c1 := 0) (s1 := 0) ⟨hx, hb, hml, hown, hts⟩ (c_X7_take l G m0 a1 a2 a3 a5 a6 a7 a14 a16 th ud ln rq (ltA tf ln t) tf (litB df w (ltA tf ln t)) (by first | assumption | omega) ((okP_ltA hok).1)) (cwV 1 hts gX7_readLiteral_X7_take rfl rfl rfl (by decide +kernel) ⟨Nat.le_of_ble_eq_true rfl, Nat.le_of_ble_eq_true rfl⟩) hK hN hSS hP hD hS hA 0 7 rfl rfl rfl [0, 1] [2] rfl rfl (by decide) (by decide) (by decide) rfl hl.1 rfl (Nat.le_of_ble_eq_true rfl) dX7_readLiteral_69 ⟨Nat.le_of_ble_eq_true rfl, Nat.le_of_ble_eq_true rfl⟩ rfl rfl (fun r_69 u_69 H locs hpo hP hD hS => ?_)
      obtain ⟨hr9, rfl⟩ := hpo
      subst r_69
      have hP : va_P G.1 vwCl [(a2, AI G 64 df), (m0, OB 7 [.int th, .ref a1, .ref a2, .ref a3, .int (nI ud), .ref a5, .ref a6, .ref a7, .int (nI ln), .int (nI ((tkeM tf ln (litB df w (ltA tf ln t)) (ltA tf ln t)).1)), .int (nI ((tkeM tf ln (litB df w (ltA tf ln t)) (ltA tf ln t)).2.1)), .int ((tkeM tf ln (litB df w (ltA tf ln t)) (ltA tf ln t)).2.2.1), .int ((tkeM tf ln (litB df w (ltA tf ln t)) (ltA tf ln t)).2.2.2.1), .int ((tkeM tf ln (litB df w (ltA tf ln t)) (ltA tf ln t)).2.2.2.2), .ref a14, .int rq, .ref a16]), (a7, AI G 120 tf)] H := hP
      have hD : va_D A [(a2, AI G 64 df), (m0, OB 7 [.int th, .ref a1, .ref a2, .ref a3, .int (nI ud), .ref a5, .ref a6, .ref a7, .int (nI ln), .int (nI ((tkeM tf ln (litB df w (ltA tf ln t)) (ltA tf ln t)).1)), .int (nI ((tkeM tf ln (litB df w (ltA tf ln t)) (ltA tf ln t)).2.1)), .int ((tkeM tf ln (litB df w (ltA tf ln t)) (ltA tf ln t)).2.2.1), .int ((tkeM tf ln (litB df w (ltA tf ln t)) (ltA tf ln t)).2.2.2.1), .int ((tkeM tf ln (litB df w (ltA tf ln t)) (ltA tf ln t)).2.2.2.2), .ref a14, .int rq, .ref a16]), (a7, AI G 120 tf)] := hD
      refine lv_istore_n (lv' := [(3, .int ((ltA tf ln t).2.2.2.1)), (2, .int 0), (0, .ref m0), (1, .int (nI w))]) hx hb dX7_readLiteral_72 rfl hl (by decide) rfl (fun ls hl => ?_)
      have hP : va_P G.1 vwCl [(a2, AI G 64 df), (m0, OB 7 [.int th, .ref a1, .ref a2, .ref a3, .int (nI ud), .ref a5, .ref a6, .ref a7, .int (nI ln), .int (nI ((ltB tf ln w (t, df)).1)), .int (nI ((ltB tf ln w (t, df)).2.1)), .int ((ltB tf ln w (t, df)).2.2.1), .int ((ltB tf ln w (t, df)).2.2.2.1), .int ((ltB tf ln w (t, df)).2.2.2.2), .ref a14, .int rq, .ref a16]), (a7, AI G 120 tf)] H := (hP)
      have hD : va_D A [(a2, AI G 64 df), (m0, OB 7 [.int th, .ref a1, .ref a2, .ref a3, .int (nI ud), .ref a5, .ref a6, .ref a7, .int (nI ln), .int (nI ((ltB tf ln w (t, df)).1)), .int (nI ((ltB tf ln w (t, df)).2.1)), .int ((ltB tf ln w (t, df)).2.2.1), .int ((ltB tf ln w (t, df)).2.2.2.1), .int ((ltB tf ln w (t, df)).2.2.2.2), .ref a14, .int rq, .ref a16]), (a7, AI G 120 tf)] := (hD)
      refine lv_aload_n hx hb dX7_readLiteral_73 rfl (lv_at hl 2 rfl) ?_
      refine call_Vi (rest := []) (As := []) (wr := [(a2, AI G 64 df), (a7, AI G 120 tf)]) (c1 := 0) (s1 := 0) ⟨hx, hb, hml, hown, hts⟩ (c_X7_isFine l G m0 a1 a2 a3 a5 a6 a7 a14 a16 th ud ln ((ltB tf ln w (t, df)).1) ((ltB tf ln w (t, df)).2.1) ((ltB tf ln w (t, df)).2.2.1) ((ltB tf ln w (t, df)).2.2.2.1) ((ltB tf ln w (t, df)).2.2.2.2) rq ) (cwV 0 hts gX7_readLiteral_X7_isFine rfl rfl rfl (by decide +kernel) ⟨Nat.le_of_ble_eq_true rfl, Nat.le_of_ble_eq_true rfl⟩) hK hN hSS hP hD hS hA 0 7 rfl rfl rfl [1] [0, 2] rfl rfl (by decide) (by decide) (by decide) rfl hl.1 rfl (Nat.le_of_ble_eq_true rfl) dX7_readLiteral_74 ⟨Nat.le_of_ble_eq_true rfl, Nat.le_of_ble_eq_true rfl⟩ rfl rfl (fun r_74 u_74 H locs hpo hP hD hS => ?_)
      obtain ⟨hr9, rfl⟩ := hpo
      subst r_74
      have hP : va_P G.1 vwCl [(a2, AI G 64 df), (a7, AI G 120 tf), (m0, OB 7 [.int th, .ref a1, .ref a2, .ref a3, .int (nI ud), .ref a5, .ref a6, .ref a7, .int (nI ln), .int (nI ((ltB tf ln w (t, df)).1)), .int (nI ((ltB tf ln w (t, df)).2.1)), .int ((ltB tf ln w (t, df)).2.2.1), .int ((ltB tf ln w (t, df)).2.2.2.1), .int ((ltB tf ln w (t, df)).2.2.2.2), .ref a14, .int rq, .ref a16])] H := hP
      have hD : va_D A [(a2, AI G 64 df), (a7, AI G 120 tf), (m0, OB 7 [.int th, .ref a1, .ref a2, .ref a3, .int (nI ud), .ref a5, .ref a6, .ref a7, .int (nI ln), .int (nI ((ltB tf ln w (t, df)).1)), .int (nI ((ltB tf ln w (t, df)).2.1)), .int ((ltB tf ln w (t, df)).2.2.1), .int ((ltB tf ln w (t, df)).2.2.2.1), .int ((ltB tf ln w (t, df)).2.2.2.2), .ref a14, .int rq, .ref a16])] := hD
      refine wb_eq (tgt := 116) hx hb dX7_readLiteral_77 (by decide) (fun c_77 => ?_) (fun c_77 => ?_)
      ·
        have c_77 : ¬ (ltB tf ln w (t, df)).2.2.2.2 = -9 := by simpa using c_77
        exact ret _ _ _ _ _ _ _ (Nat.le_of_ble_eq_true rfl) (Nat.le_of_ble_eq_true rfl) (by first | (simp only [litD, if_neg c_77]; done) | (simp only [litD, if_pos c_77, hn1]; done)) (hP.sub (ws' := [(m0, OB 7 [.int th, .ref a1, .ref a2, .ref a3, .int (nI ud), .ref a5, .ref a6, .ref a7, .int (nI ln), .int (nI ((ltB tf ln w (t, df)).1)), .int (nI ((ltB tf ln w (t, df)).2.1)), .int ((ltB tf ln w (t, df)).2.2.1), .int ((ltB tf ln w (t, df)).2.2.2.1), .int ((ltB tf ln w (t, df)).2.2.2.2), .ref a14, .int rq, .ref a16]), (a7, AI G 120 tf), (a2, AI G 64 df)]) [2, 1, 0] rfl) (hD.sub (ws' := [(m0, OB 7 [.int th, .ref a1, .ref a2, .ref a3, .int (nI ud), .ref a5, .ref a6, .ref a7, .int (nI ln), .int (nI ((ltB tf ln w (t, df)).1)), .int (nI ((ltB tf ln w (t, df)).2.1)), .int ((ltB tf ln w (t, df)).2.2.1), .int ((ltB tf ln w (t, df)).2.2.2.1), .int ((ltB tf ln w (t, df)).2.2.2.2), .ref a14, .int rq, .ref a16]), (a7, AI G 120 tf), (a2, AI G 64 df)]) [2, 1, 0] (by decide) rfl) hS dX7_readLiteral_116
      ·
        have c_77 : (ltB tf ln w (t, df)).2.2.2.2 = -9 := by simpa using c_77
        refine lv_aload_n hx hb dX7_readLiteral_80 rfl (lv_at hl 2 rfl) ?_
        refine va_get (D := G.1) (ci := 7) (v := .ref a2) (C := RX7) (T := TX7) (N := 17) hx hb hts hi7 hown hK hP 2 rfl rfl 2 (by decide) (hts (.fieldLink RX7 13 "ConflictEnumeratorModel" "draft" "[I") (List.mem_of_getElem? (i := 3) rfl)) (fun _ h9 => h9) rfl dX7_readLiteral_81 ?_
        refine lv_iload_n hx hb dX7_readLiteral_84 rfl (lv_at hl 3 rfl) ?_
        refine lv_iconst (v := 2) hx hb dX7_readLiteral_85 (by decide) ?_
        refine wn_iadd hx hb (w) (2) rfl rfl dX7_readLiteral_86 ?_
        refine lv_dup2_11 hx hb dX7_readLiteral_87 rfl rfl ?_
        refine wa_iald hx hb hK hP 0 rfl (w + 2) (rfl) (by omega) (by decide) dX7_readLiteral_88 ?_
        refine lv_iconst (v := 1) hx hb dX7_readLiteral_89 (by decide) ?_
        refine lv_iload_n hx hb dX7_readLiteral_90 rfl (lv_at hl 0 rfl) ?_
        refine lv_ishl hx hb dX7_readLiteral_91 ?_
        refine lv_ior hx hb dX7_readLiteral_92 ?_
        refine wa_iast hx hb hK hP hD hS 0 rfl (w + 2) (rfl) (by omega) (by decide) dX7_readLiteral_93 (fun H locs hP hD hS => ?_)
        have hP : va_P G.1 vwCl [(a2, AI G 64 (va_up df (w + 2) ((df (w + 2)) ||| (1 <<< (((ltA tf ln t).2.2.2.1) &&& 31))))), (a7, AI G 120 tf), (m0, OB 7 [.int th, .ref a1, .ref a2, .ref a3, .int (nI ud), .ref a5, .ref a6, .ref a7, .int (nI ln), .int (nI ((ltB tf ln w (t, df)).1)), .int (nI ((ltB tf ln w (t, df)).2.1)), .int ((ltB tf ln w (t, df)).2.2.1), .int ((ltB tf ln w (t, df)).2.2.2.1), .int ((ltB tf ln w (t, df)).2.2.2.2), .ref a14, .int rq, .ref a16])] H := hP
        have hD : va_D A [(a2, AI G 64 (va_up df (w + 2) ((df (w + 2)) ||| (1 <<< (((ltA tf ln t).2.2.2.1) &&& 31))))), (a7, AI G 120 tf), (m0, OB 7 [.int th, .ref a1, .ref a2, .ref a3, .int (nI ud), .ref a5, .ref a6, .ref a7, .int (nI ln), .int (nI ((ltB tf ln w (t, df)).1)), .int (nI ((ltB tf ln w (t, df)).2.1)), .int ((ltB tf ln w (t, df)).2.2.1), .int ((ltB tf ln w (t, df)).2.2.2.1), .int ((ltB tf ln w (t, df)).2.2.2.2), .ref a14, .int rq, .ref a16])] := hD
        refine lv_aload_n hx hb dX7_readLiteral_94 rfl (lv_at hl 2 rfl) ?_
        refine va_get (D := G.1) (ci := 7) (v := .ref a2) (C := RX7) (T := TX7) (N := 17) hx hb hts hi7 hown hK hP 2 rfl rfl 2 (by decide) (hts (.fieldLink RX7 13 "ConflictEnumeratorModel" "draft" "[I") (List.mem_of_getElem? (i := 3) rfl)) (fun _ h9 => h9) rfl dX7_readLiteral_95 ?_
        refine lv_iload_n hx hb dX7_readLiteral_98 rfl (lv_at hl 3 rfl) ?_
        refine lv_iconst (v := 3) hx hb dX7_readLiteral_99 (by decide) ?_
        refine wn_iadd hx hb (w) (3) rfl rfl dX7_readLiteral_100 ?_
        refine lv_dup2_11 hx hb dX7_readLiteral_101 rfl rfl ?_
        refine wa_iald hx hb hK hP 0 rfl (w + 3) (rfl) (by omega) (by decide) dX7_readLiteral_102 ?_
        rw [show (va_up df (w + 2) ((df (w + 2)) ||| (1 <<< (((ltA tf ln t).2.2.2.1) &&& 31)))) (w + 3) = df (w + 3) from by simp [va_up]]
        refine lv_iload_n hx hb dX7_readLiteral_103 rfl (lv_at hl 1 rfl) ?_
        refine lv_if_eq (tgt := 113) hx hb dX7_readLiteral_104 (by decide) (fun c_104 => ?_) (fun c_104 => absurd c_104 (by decide))
        refine lv_iconst (v := 0) hx hb dX7_readLiteral_113 (by decide) ?_
        refine lv_ior hx hb dX7_readLiteral_114 ?_
        refine wa_iast hx hb hK hP hD hS 0 rfl (w + 3) (rfl) (by omega) (by decide) dX7_readLiteral_115 (fun H locs hP hD hS => ?_)
        have hP : va_P G.1 vwCl [(a2, AI G 64 (va_up (va_up df (w + 2) ((df (w + 2)) ||| (1 <<< (((ltA tf ln t).2.2.2.1) &&& 31)))) (w + 3) ((df (w + 3)) ||| 0))), (a7, AI G 120 tf), (m0, OB 7 [.int th, .ref a1, .ref a2, .ref a3, .int (nI ud), .ref a5, .ref a6, .ref a7, .int (nI ln), .int (nI ((ltB tf ln w (t, df)).1)), .int (nI ((ltB tf ln w (t, df)).2.1)), .int ((ltB tf ln w (t, df)).2.2.1), .int ((ltB tf ln w (t, df)).2.2.2.1), .int ((ltB tf ln w (t, df)).2.2.2.2), .ref a14, .int rq, .ref a16])] H := hP
        have hD : va_D A [(a2, AI G 64 (va_up (va_up df (w + 2) ((df (w + 2)) ||| (1 <<< (((ltA tf ln t).2.2.2.1) &&& 31)))) (w + 3) ((df (w + 3)) ||| 0))), (a7, AI G 120 tf), (m0, OB 7 [.int th, .ref a1, .ref a2, .ref a3, .int (nI ud), .ref a5, .ref a6, .ref a7, .int (nI ln), .int (nI ((ltB tf ln w (t, df)).1)), .int (nI ((ltB tf ln w (t, df)).2.1)), .int ((ltB tf ln w (t, df)).2.2.1), .int ((ltB tf ln w (t, df)).2.2.2.1), .int ((ltB tf ln w (t, df)).2.2.2.2), .ref a14, .int rq, .ref a16])] := hD
        exact ret _ _ _ _ _ _ _ (Nat.le_of_ble_eq_true rfl) (Nat.le_of_ble_eq_true rfl) (by first | (simp only [litD, if_neg c_77]; done) | (simp only [litD, if_pos c_77, hn1]; done)) (hP.sub (ws' := [(m0, OB 7 [.int th, .ref a1, .ref a2, .ref a3, .int (nI ud), .ref a5, .ref a6, .ref a7, .int (nI ln), .int (nI ((ltB tf ln w (t, df)).1)), .int (nI ((ltB tf ln w (t, df)).2.1)), .int ((ltB tf ln w (t, df)).2.2.1), .int ((ltB tf ln w (t, df)).2.2.2.1), .int ((ltB tf ln w (t, df)).2.2.2.2), .ref a14, .int rq, .ref a16]), (a7, AI G 120 tf), (a2, AI G 64 (va_up (va_up df (w + 2) ((df (w + 2)) ||| (1 <<< (((ltA tf ln t).2.2.2.1) &&& 31)))) (w + 3) ((df (w + 3)) ||| 0)))]) [2, 1, 0] rfl) (hD.sub (ws' := [(m0, OB 7 [.int th, .ref a1, .ref a2, .ref a3, .int (nI ud), .ref a5, .ref a6, .ref a7, .int (nI ln), .int (nI ((ltB tf ln w (t, df)).1)), .int (nI ((ltB tf ln w (t, df)).2.1)), .int ((ltB tf ln w (t, df)).2.2.1), .int ((ltB tf ln w (t, df)).2.2.2.1), .int ((ltB tf ln w (t, df)).2.2.2.2), .ref a14, .int rq, .ref a16]), (a7, AI G 120 tf), (a2, AI G 64 (va_up (va_up df (w + 2) ((df (w + 2)) ||| (1 <<< (((ltA tf ln t).2.2.2.1) &&& 31)))) (w + 3) ((df (w + 3)) ||| 0)))]) [2, 1, 0] (by decide) rfl) hS dX7_readLiteral_116
    ·
      refine lv_aload_n hx hb dX7_readLiteral_33 rfl (lv_at hl 1 rfl) ?_
      refine va_get (D := G.1) (ci := 7) (v := .int ((ltA tf ln t).2.2.2.1)) (C := RX7) (T := TX7) (N := 17) hx hb hts hi7 hown hK hP 0 rfl rfl 12 (by decide) (hts (.fieldLink RX7 67 "ConflictEnumeratorModel" "value" "I") (List.mem_of_getElem? (i := 2) rfl)) (fun _ h9 => h9) rfl dX7_readLiteral_34 ?_
      refine lv_iconst (v := 1) hx hb dX7_readLiteral_37 (by decide) ?_
      refine lv_bipush (v := 6) hx hb dX7_readLiteral_38 (by decide) ?_
      refine call_Si (rest := [.ref m0]) (As := [.int ((ltA tf ln t).2.2.2.1), .int 1, .int 6]) (wr := [(m0, OB 7 [.int th, .ref a1, .ref a2, .ref a3, .int (nI ud), .ref a5, .ref a6, .ref a7, .int (nI ln), .int (nI ((ltA tf ln t).1)), .int (nI ((ltA tf ln t).2.1)), .int ((ltA tf ln t).2.2.1), .int ((ltA tf ln t).2.2.2.1), .int ((ltA tf ln t).2.2.2.2), .ref a14, .int rq, .ref a16]), (a7, AI G 120 tf), (a2, AI G 64 df)]) (c1 := 0) (s1 := 0) ⟨hx, hb, hml, hown, hts⟩ (c_X7_in l G ((ltA tf ln t).2.2.2.1) 1 6 ) (va_cwS 3 hts gX7_readLiteral_X7_in rfl rfl rfl (by decide +kernel) ⟨Nat.le_of_ble_eq_true rfl, Nat.le_of_ble_eq_true rfl⟩) hK hN hSS hP hD hS hA [] [0, 1, 2] rfl rfl (by decide) (by decide) (by decide) rfl hl.1 rfl (Nat.le_of_ble_eq_true rfl) dX7_readLiteral_40 ⟨Nat.le_of_ble_eq_true rfl, Nat.le_of_ble_eq_true rfl⟩ rfl rfl (fun r_40 u_40 H locs hpo hP hD hS => ?_)
      obtain ⟨hr9, rfl⟩ := hpo
      subst r_40
      have hP : va_P G.1 vwCl [(m0, OB 7 [.int th, .ref a1, .ref a2, .ref a3, .int (nI ud), .ref a5, .ref a6, .ref a7, .int (nI ln), .int (nI ((ltA tf ln t).1)), .int (nI ((ltA tf ln t).2.1)), .int ((ltA tf ln t).2.2.1), .int ((ltA tf ln t).2.2.2.1), .int ((ltA tf ln t).2.2.2.2), .ref a14, .int rq, .ref a16]), (a7, AI G 120 tf), (a2, AI G 64 df)] H := hP
      have hD : va_D A [(m0, OB 7 [.int th, .ref a1, .ref a2, .ref a3, .int (nI ud), .ref a5, .ref a6, .ref a7, .int (nI ln), .int (nI ((ltA tf ln t).1)), .int (nI ((ltA tf ln t).2.1)), .int ((ltA tf ln t).2.2.1), .int ((ltA tf ln t).2.2.2.1), .int ((ltA tf ln t).2.2.2.2), .ref a14, .int rq, .ref a16]), (a7, AI G 120 tf), (a2, AI G 64 df)] := hD
      refine wb_eq (tgt := 68) hx hb dX7_readLiteral_43 (by decide) (fun c_43 => ?_) (fun c_43 => ?_)
      ·
        have hlb : litB df w (ltA tf ln t) = false := by simp [litB, c_30, c_43]
        refine lv_iconst (v := 0) hx hb dX7_readLiteral_68 (by decide) ?_
        refine W.eq (g2 := F0 m 69 ls [.int (bI (litB df w (ltA tf ln t))), .ref m0]) (by rw [hlb]; rfl) ?_
        refine call_Vi (rest := []) (As := [.int (bI (litB df w (ltA tf ln t)))]) (wr := [(a2, AI G 64 df)]) (c1 := 0) (s1 := 0) ⟨hx, hb, hml, hown, hts⟩ (c_X7_take l G m0 a1 a2 a3 a5 a6 a7 a14 a16 th ud ln rq (ltA tf ln t) tf (litB df w (ltA tf ln t)) (by first | assumption | omega) ((okP_ltA hok).1)) (cwV 1 hts gX7_readLiteral_X7_take rfl rfl rfl (by decide +kernel) ⟨Nat.le_of_ble_eq_true rfl, Nat.le_of_ble_eq_true rfl⟩) hK hN hSS hP hD hS hA 0 7 rfl rfl rfl [0, 1] [2] rfl rfl (by decide) (by decide) (by decide) rfl hl.1 rfl (Nat.le_of_ble_eq_true rfl) dX7_readLiteral_69 ⟨Nat.le_of_ble_eq_true rfl, Nat.le_of_ble_eq_true rfl⟩ rfl rfl (fun r_69 u_69 H locs hpo hP hD hS => ?_)
        obtain ⟨hr9, rfl⟩ := hpo
        subst r_69
        have hP : va_P G.1 vwCl [(a2, AI G 64 df), (m0, OB 7 [.int th, .ref a1, .ref a2, .ref a3, .int (nI ud), .ref a5, .ref a6, .ref a7, .int (nI ln), .int (nI ((tkeM tf ln (litB df w (ltA tf ln t)) (ltA tf ln t)).1)), .int (nI ((tkeM tf ln (litB df w (ltA tf ln t)) (ltA tf ln t)).2.1)), .int ((tkeM tf ln (litB df w (ltA tf ln t)) (ltA tf ln t)).2.2.1), .int ((tkeM tf ln (litB df w (ltA tf ln t)) (ltA tf ln t)).2.2.2.1), .int ((tkeM tf ln (litB df w (ltA tf ln t)) (ltA tf ln t)).2.2.2.2), .ref a14, .int rq, .ref a16]), (a7, AI G 120 tf)] H := hP
        have hD : va_D A [(a2, AI G 64 df), (m0, OB 7 [.int th, .ref a1, .ref a2, .ref a3, .int (nI ud), .ref a5, .ref a6, .ref a7, .int (nI ln), .int (nI ((tkeM tf ln (litB df w (ltA tf ln t)) (ltA tf ln t)).1)), .int (nI ((tkeM tf ln (litB df w (ltA tf ln t)) (ltA tf ln t)).2.1)), .int ((tkeM tf ln (litB df w (ltA tf ln t)) (ltA tf ln t)).2.2.1), .int ((tkeM tf ln (litB df w (ltA tf ln t)) (ltA tf ln t)).2.2.2.1), .int ((tkeM tf ln (litB df w (ltA tf ln t)) (ltA tf ln t)).2.2.2.2), .ref a14, .int rq, .ref a16]), (a7, AI G 120 tf)] := hD
        refine lv_istore_n (lv' := [(3, .int ((ltA tf ln t).2.2.2.1)), (2, .int 0), (0, .ref m0), (1, .int (nI w))]) hx hb dX7_readLiteral_72 rfl hl (by decide) rfl (fun ls hl => ?_)
        have hP : va_P G.1 vwCl [(a2, AI G 64 df), (m0, OB 7 [.int th, .ref a1, .ref a2, .ref a3, .int (nI ud), .ref a5, .ref a6, .ref a7, .int (nI ln), .int (nI ((ltB tf ln w (t, df)).1)), .int (nI ((ltB tf ln w (t, df)).2.1)), .int ((ltB tf ln w (t, df)).2.2.1), .int ((ltB tf ln w (t, df)).2.2.2.1), .int ((ltB tf ln w (t, df)).2.2.2.2), .ref a14, .int rq, .ref a16]), (a7, AI G 120 tf)] H := (hP)
        have hD : va_D A [(a2, AI G 64 df), (m0, OB 7 [.int th, .ref a1, .ref a2, .ref a3, .int (nI ud), .ref a5, .ref a6, .ref a7, .int (nI ln), .int (nI ((ltB tf ln w (t, df)).1)), .int (nI ((ltB tf ln w (t, df)).2.1)), .int ((ltB tf ln w (t, df)).2.2.1), .int ((ltB tf ln w (t, df)).2.2.2.1), .int ((ltB tf ln w (t, df)).2.2.2.2), .ref a14, .int rq, .ref a16]), (a7, AI G 120 tf)] := (hD)
        refine lv_aload_n hx hb dX7_readLiteral_73 rfl (lv_at hl 2 rfl) ?_
        refine call_Vi (rest := []) (As := []) (wr := [(a2, AI G 64 df), (a7, AI G 120 tf)]) (c1 := 0) (s1 := 0) ⟨hx, hb, hml, hown, hts⟩ (c_X7_isFine l G m0 a1 a2 a3 a5 a6 a7 a14 a16 th ud ln ((ltB tf ln w (t, df)).1) ((ltB tf ln w (t, df)).2.1) ((ltB tf ln w (t, df)).2.2.1) ((ltB tf ln w (t, df)).2.2.2.1) ((ltB tf ln w (t, df)).2.2.2.2) rq ) (cwV 0 hts gX7_readLiteral_X7_isFine rfl rfl rfl (by decide +kernel) ⟨Nat.le_of_ble_eq_true rfl, Nat.le_of_ble_eq_true rfl⟩) hK hN hSS hP hD hS hA 0 7 rfl rfl rfl [1] [0, 2] rfl rfl (by decide) (by decide) (by decide) rfl hl.1 rfl (Nat.le_of_ble_eq_true rfl) dX7_readLiteral_74 ⟨Nat.le_of_ble_eq_true rfl, Nat.le_of_ble_eq_true rfl⟩ rfl rfl (fun r_74 u_74 H locs hpo hP hD hS => ?_)
        obtain ⟨hr9, rfl⟩ := hpo
        subst r_74
        have hP : va_P G.1 vwCl [(a2, AI G 64 df), (a7, AI G 120 tf), (m0, OB 7 [.int th, .ref a1, .ref a2, .ref a3, .int (nI ud), .ref a5, .ref a6, .ref a7, .int (nI ln), .int (nI ((ltB tf ln w (t, df)).1)), .int (nI ((ltB tf ln w (t, df)).2.1)), .int ((ltB tf ln w (t, df)).2.2.1), .int ((ltB tf ln w (t, df)).2.2.2.1), .int ((ltB tf ln w (t, df)).2.2.2.2), .ref a14, .int rq, .ref a16])] H := hP
        have hD : va_D A [(a2, AI G 64 df), (a7, AI G 120 tf), (m0, OB 7 [.int th, .ref a1, .ref a2, .ref a3, .int (nI ud), .ref a5, .ref a6, .ref a7, .int (nI ln), .int (nI ((ltB tf ln w (t, df)).1)), .int (nI ((ltB tf ln w (t, df)).2.1)), .int ((ltB tf ln w (t, df)).2.2.1), .int ((ltB tf ln w (t, df)).2.2.2.1), .int ((ltB tf ln w (t, df)).2.2.2.2), .ref a14, .int rq, .ref a16])] := hD
        refine wb_eq (tgt := 116) hx hb dX7_readLiteral_77 (by decide) (fun c_77 => ?_) (fun c_77 => ?_)
        ·
          have c_77 : ¬ (ltB tf ln w (t, df)).2.2.2.2 = -9 := by simpa using c_77
          exact ret _ _ _ _ _ _ _ (Nat.le_of_ble_eq_true rfl) (Nat.le_of_ble_eq_true rfl) (by first | (simp only [litD, if_neg c_77]; done) | (simp only [litD, if_pos c_77, hn1]; done)) (hP.sub (ws' := [(m0, OB 7 [.int th, .ref a1, .ref a2, .ref a3, .int (nI ud), .ref a5, .ref a6, .ref a7, .int (nI ln), .int (nI ((ltB tf ln w (t, df)).1)), .int (nI ((ltB tf ln w (t, df)).2.1)), .int ((ltB tf ln w (t, df)).2.2.1), .int ((ltB tf ln w (t, df)).2.2.2.1), .int ((ltB tf ln w (t, df)).2.2.2.2), .ref a14, .int rq, .ref a16]), (a7, AI G 120 tf), (a2, AI G 64 df)]) [2, 1, 0] rfl) (hD.sub (ws' := [(m0, OB 7 [.int th, .ref a1, .ref a2, .ref a3, .int (nI ud), .ref a5, .ref a6, .ref a7, .int (nI ln), .int (nI ((ltB tf ln w (t, df)).1)), .int (nI ((ltB tf ln w (t, df)).2.1)), .int ((ltB tf ln w (t, df)).2.2.1), .int ((ltB tf ln w (t, df)).2.2.2.1), .int ((ltB tf ln w (t, df)).2.2.2.2), .ref a14, .int rq, .ref a16]), (a7, AI G 120 tf), (a2, AI G 64 df)]) [2, 1, 0] (by decide) rfl) hS dX7_readLiteral_116
        ·
          have c_77 : (ltB tf ln w (t, df)).2.2.2.2 = -9 := by simpa using c_77
          refine lv_aload_n hx hb dX7_readLiteral_80 rfl (lv_at hl 2 rfl) ?_
          refine va_get (D := G.1) (ci := 7) (v := .ref a2) (C := RX7) (T := TX7) (N := 17) hx hb hts hi7 hown hK hP 2 rfl rfl 2 (by decide) (hts (.fieldLink RX7 13 "ConflictEnumeratorModel" "draft" "[I") (List.mem_of_getElem? (i := 3) rfl)) (fun _ h9 => h9) rfl dX7_readLiteral_81 ?_
          refine lv_iload_n hx hb dX7_readLiteral_84 rfl (lv_at hl 3 rfl) ?_
          refine lv_iconst (v := 2) hx hb dX7_readLiteral_85 (by decide) ?_
          refine wn_iadd hx hb (w) (2) rfl rfl dX7_readLiteral_86 ?_
          refine lv_dup2_11 hx hb dX7_readLiteral_87 rfl rfl ?_
          refine wa_iald hx hb hK hP 0 rfl (w + 2) (rfl) (by omega) (by decide) dX7_readLiteral_88 ?_
          refine lv_iconst (v := 1) hx hb dX7_readLiteral_89 (by decide) ?_
          refine lv_iload_n hx hb dX7_readLiteral_90 rfl (lv_at hl 0 rfl) ?_
          refine lv_ishl hx hb dX7_readLiteral_91 ?_
          refine lv_ior hx hb dX7_readLiteral_92 ?_
          refine wa_iast hx hb hK hP hD hS 0 rfl (w + 2) (rfl) (by omega) (by decide) dX7_readLiteral_93 (fun H locs hP hD hS => ?_)
          have hP : va_P G.1 vwCl [(a2, AI G 64 (va_up df (w + 2) ((df (w + 2)) ||| (1 <<< (((ltA tf ln t).2.2.2.1) &&& 31))))), (a7, AI G 120 tf), (m0, OB 7 [.int th, .ref a1, .ref a2, .ref a3, .int (nI ud), .ref a5, .ref a6, .ref a7, .int (nI ln), .int (nI ((ltB tf ln w (t, df)).1)), .int (nI ((ltB tf ln w (t, df)).2.1)), .int ((ltB tf ln w (t, df)).2.2.1), .int ((ltB tf ln w (t, df)).2.2.2.1), .int ((ltB tf ln w (t, df)).2.2.2.2), .ref a14, .int rq, .ref a16])] H := hP
          have hD : va_D A [(a2, AI G 64 (va_up df (w + 2) ((df (w + 2)) ||| (1 <<< (((ltA tf ln t).2.2.2.1) &&& 31))))), (a7, AI G 120 tf), (m0, OB 7 [.int th, .ref a1, .ref a2, .ref a3, .int (nI ud), .ref a5, .ref a6, .ref a7, .int (nI ln), .int (nI ((ltB tf ln w (t, df)).1)), .int (nI ((ltB tf ln w (t, df)).2.1)), .int ((ltB tf ln w (t, df)).2.2.1), .int ((ltB tf ln w (t, df)).2.2.2.1), .int ((ltB tf ln w (t, df)).2.2.2.2), .ref a14, .int rq, .ref a16])] := hD
          refine lv_aload_n hx hb dX7_readLiteral_94 rfl (lv_at hl 2 rfl) ?_
          refine va_get (D := G.1) (ci := 7) (v := .ref a2) (C := RX7) (T := TX7) (N := 17) hx hb hts hi7 hown hK hP 2 rfl rfl 2 (by decide) (hts (.fieldLink RX7 13 "ConflictEnumeratorModel" "draft" "[I") (List.mem_of_getElem? (i := 3) rfl)) (fun _ h9 => h9) rfl dX7_readLiteral_95 ?_
          refine lv_iload_n hx hb dX7_readLiteral_98 rfl (lv_at hl 3 rfl) ?_
          refine lv_iconst (v := 3) hx hb dX7_readLiteral_99 (by decide) ?_
          refine wn_iadd hx hb (w) (3) rfl rfl dX7_readLiteral_100 ?_
          refine lv_dup2_11 hx hb dX7_readLiteral_101 rfl rfl ?_
          refine wa_iald hx hb hK hP 0 rfl (w + 3) (rfl) (by omega) (by decide) dX7_readLiteral_102 ?_
          rw [show (va_up df (w + 2) ((df (w + 2)) ||| (1 <<< (((ltA tf ln t).2.2.2.1) &&& 31)))) (w + 3) = df (w + 3) from by simp [va_up]]
          refine lv_iload_n hx hb dX7_readLiteral_103 rfl (lv_at hl 1 rfl) ?_
          refine lv_if_eq (tgt := 113) hx hb dX7_readLiteral_104 (by decide) (fun c_104 => ?_) (fun c_104 => absurd c_104 (by decide))
          refine lv_iconst (v := 0) hx hb dX7_readLiteral_113 (by decide) ?_
          refine lv_ior hx hb dX7_readLiteral_114 ?_
          refine wa_iast hx hb hK hP hD hS 0 rfl (w + 3) (rfl) (by omega) (by decide) dX7_readLiteral_115 (fun H locs hP hD hS => ?_)
          have hP : va_P G.1 vwCl [(a2, AI G 64 (va_up (va_up df (w + 2) ((df (w + 2)) ||| (1 <<< (((ltA tf ln t).2.2.2.1) &&& 31)))) (w + 3) ((df (w + 3)) ||| 0))), (a7, AI G 120 tf), (m0, OB 7 [.int th, .ref a1, .ref a2, .ref a3, .int (nI ud), .ref a5, .ref a6, .ref a7, .int (nI ln), .int (nI ((ltB tf ln w (t, df)).1)), .int (nI ((ltB tf ln w (t, df)).2.1)), .int ((ltB tf ln w (t, df)).2.2.1), .int ((ltB tf ln w (t, df)).2.2.2.1), .int ((ltB tf ln w (t, df)).2.2.2.2), .ref a14, .int rq, .ref a16])] H := hP
          have hD : va_D A [(a2, AI G 64 (va_up (va_up df (w + 2) ((df (w + 2)) ||| (1 <<< (((ltA tf ln t).2.2.2.1) &&& 31)))) (w + 3) ((df (w + 3)) ||| 0))), (a7, AI G 120 tf), (m0, OB 7 [.int th, .ref a1, .ref a2, .ref a3, .int (nI ud), .ref a5, .ref a6, .ref a7, .int (nI ln), .int (nI ((ltB tf ln w (t, df)).1)), .int (nI ((ltB tf ln w (t, df)).2.1)), .int ((ltB tf ln w (t, df)).2.2.1), .int ((ltB tf ln w (t, df)).2.2.2.1), .int ((ltB tf ln w (t, df)).2.2.2.2), .ref a14, .int rq, .ref a16])] := hD
          exact ret _ _ _ _ _ _ _ (Nat.le_of_ble_eq_true rfl) (Nat.le_of_ble_eq_true rfl) (by first | (simp only [litD, if_neg c_77]; done) | (simp only [litD, if_pos c_77, hn1]; done)) (hP.sub (ws' := [(m0, OB 7 [.int th, .ref a1, .ref a2, .ref a3, .int (nI ud), .ref a5, .ref a6, .ref a7, .int (nI ln), .int (nI ((ltB tf ln w (t, df)).1)), .int (nI ((ltB tf ln w (t, df)).2.1)), .int ((ltB tf ln w (t, df)).2.2.1), .int ((ltB tf ln w (t, df)).2.2.2.1), .int ((ltB tf ln w (t, df)).2.2.2.2), .ref a14, .int rq, .ref a16]), (a7, AI G 120 tf), (a2, AI G 64 (va_up (va_up df (w + 2) ((df (w + 2)) ||| (1 <<< (((ltA tf ln t).2.2.2.1) &&& 31)))) (w + 3) ((df (w + 3)) ||| 0)))]) [2, 1, 0] rfl) (hD.sub (ws' := [(m0, OB 7 [.int th, .ref a1, .ref a2, .ref a3, .int (nI ud), .ref a5, .ref a6, .ref a7, .int (nI ln), .int (nI ((ltB tf ln w (t, df)).1)), .int (nI ((ltB tf ln w (t, df)).2.1)), .int ((ltB tf ln w (t, df)).2.2.1), .int ((ltB tf ln w (t, df)).2.2.2.1), .int ((ltB tf ln w (t, df)).2.2.2.2), .ref a14, .int rq, .ref a16]), (a7, AI G 120 tf), (a2, AI G 64 (va_up (va_up df (w + 2) ((df (w + 2)) ||| (1 <<< (((ltA tf ln t).2.2.2.1) &&& 31)))) (w + 3) ((df (w + 3)) ||| 0)))]) [2, 1, 0] (by decide) rfl) hS dX7_readLiteral_116
      ·
        refine lv_aload_n hx hb dX7_readLiteral_46 rfl (lv_at hl 1 rfl) ?_
        refine va_get (D := G.1) (ci := 7) (v := .ref a2) (C := RX7) (T := TX7) (N := 17) hx hb hts hi7 hown hK hP 0 rfl rfl 2 (by decide) (hts (.fieldLink RX7 13 "ConflictEnumeratorModel" "draft" "[I") (List.mem_of_getElem? (i := 3) rfl)) (fun _ h9 => h9) rfl dX7_readLiteral_47 ?_
        refine lv_iload_n hx hb dX7_readLiteral_50 rfl (lv_at hl 2 rfl) ?_
        refine lv_iconst (v := 2) hx hb dX7_readLiteral_51 (by decide) ?_
        refine wn_iadd hx hb (w) (2) rfl rfl dX7_readLiteral_52 ?_
        refine wa_iald hx hb hK hP 2 rfl (w + 2) (rfl) (by omega) (by decide) dX7_readLiteral_53 ?_
        refine lv_aload_n hx hb dX7_readLiteral_54 rfl (lv_at hl 1 rfl) ?_
        refine va_get (D := G.1) (ci := 7) (v := .int ((ltA tf ln t).2.2.2.1)) (C := RX7) (T := TX7) (N := 17) hx hb hts hi7 hown hK hP 0 rfl rfl 12 (by decide) (hts (.fieldLink RX7 67 "ConflictEnumeratorModel" "value" "I") (List.mem_of_getElem? (i := 2) rfl)) (fun _ h9 => h9) rfl dX7_readLiteral_55 ?_
        refine call_Si (rest := [.ref m0]) (As := [.int (df (w + 2)), .int ((ltA tf ln t).2.2.2.1)]) (wr := [(m0, OB 7 [.int th, .ref a1, .ref a2, .ref a3, .int (nI ud), .ref a5, .ref a6, .ref a7, .int (nI ln), .int (nI ((ltA tf ln t).1)), .int (nI ((ltA tf ln t).2.1)), .int ((ltA tf ln t).2.2.1), .int ((ltA tf ln t).2.2.2.1), .int ((ltA tf ln t).2.2.2.2), .ref a14, .int rq, .ref a16]), (a7, AI G 120 tf), (a2, AI G 64 df)]) (c1 := 0) (s1 := 0) ⟨hx, hb, hml, hown, hts⟩ (c_X7_has l G (df (w + 2)) ((ltA tf ln t).2.2.2.1) ) (va_cwS 2 hts gX7_readLiteral_X7_has rfl rfl rfl (by decide +kernel) ⟨Nat.le_of_ble_eq_true rfl, Nat.le_of_ble_eq_true rfl⟩) hK hN hSS hP hD hS hA [] [0, 1, 2] rfl rfl (by decide) (by decide) (by decide) rfl hl.1 rfl (Nat.le_of_ble_eq_true rfl) dX7_readLiteral_58 ⟨Nat.le_of_ble_eq_true rfl, Nat.le_of_ble_eq_true rfl⟩ rfl rfl (fun r_58 u_58 H locs hpo hP hD hS => ?_)
        obtain ⟨hr9, rfl⟩ := hpo
        subst r_58
        have hP : va_P G.1 vwCl [(m0, OB 7 [.int th, .ref a1, .ref a2, .ref a3, .int (nI ud), .ref a5, .ref a6, .ref a7, .int (nI ln), .int (nI ((ltA tf ln t).1)), .int (nI ((ltA tf ln t).2.1)), .int ((ltA tf ln t).2.2.1), .int ((ltA tf ln t).2.2.2.1), .int ((ltA tf ln t).2.2.2.2), .ref a14, .int rq, .ref a16]), (a7, AI G 120 tf), (a2, AI G 64 df)] H := hP
        have hD : va_D A [(m0, OB 7 [.int th, .ref a1, .ref a2, .ref a3, .int (nI ud), .ref a5, .ref a6, .ref a7, .int (nI ln), .int (nI ((ltA tf ln t).1)), .int (nI ((ltA tf ln t).2.1)), .int ((ltA tf ln t).2.2.1), .int ((ltA tf ln t).2.2.2.1), .int ((ltA tf ln t).2.2.2.2), .ref a14, .int rq, .ref a16]), (a7, AI G 120 tf), (a2, AI G 64 df)] := hD
        refine wb_ne (tgt := 68) hx hb dX7_readLiteral_61 (by decide) (fun c_61 => ?_) (fun c_61 => ?_)
        ·
          have hlb : litB df w (ltA tf ln t) = false := by simp [litB, c_30, c_43, c_61]
          refine lv_iconst (v := 0) hx hb dX7_readLiteral_68 (by decide) ?_
          refine W.eq (g2 := F0 m 69 ls [.int (bI (litB df w (ltA tf ln t))), .ref m0]) (by rw [hlb]; rfl) ?_
          refine call_Vi (rest := []) (As := [.int (bI (litB df w (ltA tf ln t)))]) (wr := [(a2, AI G 64 df)]) (c1 := 0) (s1 := 0) ⟨hx, hb, hml, hown, hts⟩ (c_X7_take l G m0 a1 a2 a3 a5 a6 a7 a14 a16 th ud ln rq (ltA tf ln t) tf (litB df w (ltA tf ln t)) (by first | assumption | omega) ((okP_ltA hok).1)) (cwV 1 hts gX7_readLiteral_X7_take rfl rfl rfl (by decide +kernel) ⟨Nat.le_of_ble_eq_true rfl, Nat.le_of_ble_eq_true rfl⟩) hK hN hSS hP hD hS hA 0 7 rfl rfl rfl [0, 1] [2] rfl rfl (by decide) (by decide) (by decide) rfl hl.1 rfl (Nat.le_of_ble_eq_true rfl) dX7_readLiteral_69 ⟨Nat.le_of_ble_eq_true rfl, Nat.le_of_ble_eq_true rfl⟩ rfl rfl (fun r_69 u_69 H locs hpo hP hD hS => ?_)
          obtain ⟨hr9, rfl⟩ := hpo
          subst r_69
          have hP : va_P G.1 vwCl [(a2, AI G 64 df), (m0, OB 7 [.int th, .ref a1, .ref a2, .ref a3, .int (nI ud), .ref a5, .ref a6, .ref a7, .int (nI ln), .int (nI ((tkeM tf ln (litB df w (ltA tf ln t)) (ltA tf ln t)).1)), .int (nI ((tkeM tf ln (litB df w (ltA tf ln t)) (ltA tf ln t)).2.1)), .int ((tkeM tf ln (litB df w (ltA tf ln t)) (ltA tf ln t)).2.2.1), .int ((tkeM tf ln (litB df w (ltA tf ln t)) (ltA tf ln t)).2.2.2.1), .int ((tkeM tf ln (litB df w (ltA tf ln t)) (ltA tf ln t)).2.2.2.2), .ref a14, .int rq, .ref a16]), (a7, AI G 120 tf)] H := hP
          have hD : va_D A [(a2, AI G 64 df), (m0, OB 7 [.int th, .ref a1, .ref a2, .ref a3, .int (nI ud), .ref a5, .ref a6, .ref a7, .int (nI ln), .int (nI ((tkeM tf ln (litB df w (ltA tf ln t)) (ltA tf ln t)).1)), .int (nI ((tkeM tf ln (litB df w (ltA tf ln t)) (ltA tf ln t)).2.1)), .int ((tkeM tf ln (litB df w (ltA tf ln t)) (ltA tf ln t)).2.2.1), .int ((tkeM tf ln (litB df w (ltA tf ln t)) (ltA tf ln t)).2.2.2.1), .int ((tkeM tf ln (litB df w (ltA tf ln t)) (ltA tf ln t)).2.2.2.2), .ref a14, .int rq, .ref a16]), (a7, AI G 120 tf)] := hD
          refine lv_istore_n (lv' := [(3, .int ((ltA tf ln t).2.2.2.1)), (2, .int 0), (0, .ref m0), (1, .int (nI w))]) hx hb dX7_readLiteral_72 rfl hl (by decide) rfl (fun ls hl => ?_)
          have hP : va_P G.1 vwCl [(a2, AI G 64 df), (m0, OB 7 [.int th, .ref a1, .ref a2, .ref a3, .int (nI ud), .ref a5, .ref a6, .ref a7, .int (nI ln), .int (nI ((ltB tf ln w (t, df)).1)), .int (nI ((ltB tf ln w (t, df)).2.1)), .int ((ltB tf ln w (t, df)).2.2.1), .int ((ltB tf ln w (t, df)).2.2.2.1), .int ((ltB tf ln w (t, df)).2.2.2.2), .ref a14, .int rq, .ref a16]), (a7, AI G 120 tf)] H := (hP)
          have hD : va_D A [(a2, AI G 64 df), (m0, OB 7 [.int th, .ref a1, .ref a2, .ref a3, .int (nI ud), .ref a5, .ref a6, .ref a7, .int (nI ln), .int (nI ((ltB tf ln w (t, df)).1)), .int (nI ((ltB tf ln w (t, df)).2.1)), .int ((ltB tf ln w (t, df)).2.2.1), .int ((ltB tf ln w (t, df)).2.2.2.1), .int ((ltB tf ln w (t, df)).2.2.2.2), .ref a14, .int rq, .ref a16]), (a7, AI G 120 tf)] := (hD)
          refine lv_aload_n hx hb dX7_readLiteral_73 rfl (lv_at hl 2 rfl) ?_
          refine call_Vi (rest := []) (As := []) (wr := [(a2, AI G 64 df), (a7, AI G 120 tf)]) (c1 := 0) (s1 := 0) ⟨hx, hb, hml, hown, hts⟩ (c_X7_isFine l G m0 a1 a2 a3 a5 a6 a7 a14 a16 th ud ln ((ltB tf ln w (t, df)).1) ((ltB tf ln w (t, df)).2.1) ((ltB tf ln w (t, df)).2.2.1) ((ltB tf ln w (t, df)).2.2.2.1) ((ltB tf ln w (t, df)).2.2.2.2) rq ) (cwV 0 hts gX7_readLiteral_X7_isFine rfl rfl rfl (by decide +kernel) ⟨Nat.le_of_ble_eq_true rfl, Nat.le_of_ble_eq_true rfl⟩) hK hN hSS hP hD hS hA 0 7 rfl rfl rfl [1] [0, 2] rfl rfl (by decide) (by decide) (by decide) rfl hl.1 rfl (Nat.le_of_ble_eq_true rfl) dX7_readLiteral_74 ⟨Nat.le_of_ble_eq_true rfl, Nat.le_of_ble_eq_true rfl⟩ rfl rfl (fun r_74 u_74 H locs hpo hP hD hS => ?_)
          obtain ⟨hr9, rfl⟩ := hpo
          subst r_74
          have hP : va_P G.1 vwCl [(a2, AI G 64 df), (a7, AI G 120 tf), (m0, OB 7 [.int th, .ref a1, .ref a2, .ref a3, .int (nI ud), .ref a5, .ref a6, .ref a7, .int (nI ln), .int (nI ((ltB tf ln w (t, df)).1)), .int (nI ((ltB tf ln w (t, df)).2.1)), .int ((ltB tf ln w (t, df)).2.2.1), .int ((ltB tf ln w (t, df)).2.2.2.1), .int ((ltB tf ln w (t, df)).2.2.2.2), .ref a14, .int rq, .ref a16])] H := hP
          have hD : va_D A [(a2, AI G 64 df), (a7, AI G 120 tf), (m0, OB 7 [.int th, .ref a1, .ref a2, .ref a3, .int (nI ud), .ref a5, .ref a6, .ref a7, .int (nI ln), .int (nI ((ltB tf ln w (t, df)).1)), .int (nI ((ltB tf ln w (t, df)).2.1)), .int ((ltB tf ln w (t, df)).2.2.1), .int ((ltB tf ln w (t, df)).2.2.2.1), .int ((ltB tf ln w (t, df)).2.2.2.2), .ref a14, .int rq, .ref a16])] := hD
          refine wb_eq (tgt := 116) hx hb dX7_readLiteral_77 (by decide) (fun c_77 => ?_) (fun c_77 => ?_)
          ·
            have c_77 : ¬ (ltB tf ln w (t, df)).2.2.2.2 = -9 := by simpa using c_77
            exact ret _ _ _ _ _ _ _ (Nat.le_of_ble_eq_true rfl) (Nat.le_of_ble_eq_true rfl) (by first | (simp only [litD, if_neg c_77]; done) | (simp only [litD, if_pos c_77, hn1]; done)) (hP.sub (ws' := [(m0, OB 7 [.int th, .ref a1, .ref a2, .ref a3, .int (nI ud), .ref a5, .ref a6, .ref a7, .int (nI ln), .int (nI ((ltB tf ln w (t, df)).1)), .int (nI ((ltB tf ln w (t, df)).2.1)), .int ((ltB tf ln w (t, df)).2.2.1), .int ((ltB tf ln w (t, df)).2.2.2.1), .int ((ltB tf ln w (t, df)).2.2.2.2), .ref a14, .int rq, .ref a16]), (a7, AI G 120 tf), (a2, AI G 64 df)]) [2, 1, 0] rfl) (hD.sub (ws' := [(m0, OB 7 [.int th, .ref a1, .ref a2, .ref a3, .int (nI ud), .ref a5, .ref a6, .ref a7, .int (nI ln), .int (nI ((ltB tf ln w (t, df)).1)), .int (nI ((ltB tf ln w (t, df)).2.1)), .int ((ltB tf ln w (t, df)).2.2.1), .int ((ltB tf ln w (t, df)).2.2.2.1), .int ((ltB tf ln w (t, df)).2.2.2.2), .ref a14, .int rq, .ref a16]), (a7, AI G 120 tf), (a2, AI G 64 df)]) [2, 1, 0] (by decide) rfl) hS dX7_readLiteral_116
          ·
            have c_77 : (ltB tf ln w (t, df)).2.2.2.2 = -9 := by simpa using c_77
            refine lv_aload_n hx hb dX7_readLiteral_80 rfl (lv_at hl 2 rfl) ?_
            refine va_get (D := G.1) (ci := 7) (v := .ref a2) (C := RX7) (T := TX7) (N := 17) hx hb hts hi7 hown hK hP 2 rfl rfl 2 (by decide) (hts (.fieldLink RX7 13 "ConflictEnumeratorModel" "draft" "[I") (List.mem_of_getElem? (i := 3) rfl)) (fun _ h9 => h9) rfl dX7_readLiteral_81 ?_
            refine lv_iload_n hx hb dX7_readLiteral_84 rfl (lv_at hl 3 rfl) ?_
            refine lv_iconst (v := 2) hx hb dX7_readLiteral_85 (by decide) ?_
            refine wn_iadd hx hb (w) (2) rfl rfl dX7_readLiteral_86 ?_
            refine lv_dup2_11 hx hb dX7_readLiteral_87 rfl rfl ?_
            refine wa_iald hx hb hK hP 0 rfl (w + 2) (rfl) (by omega) (by decide) dX7_readLiteral_88 ?_
            refine lv_iconst (v := 1) hx hb dX7_readLiteral_89 (by decide) ?_
            refine lv_iload_n hx hb dX7_readLiteral_90 rfl (lv_at hl 0 rfl) ?_
            refine lv_ishl hx hb dX7_readLiteral_91 ?_
            refine lv_ior hx hb dX7_readLiteral_92 ?_
            refine wa_iast hx hb hK hP hD hS 0 rfl (w + 2) (rfl) (by omega) (by decide) dX7_readLiteral_93 (fun H locs hP hD hS => ?_)
            have hP : va_P G.1 vwCl [(a2, AI G 64 (va_up df (w + 2) ((df (w + 2)) ||| (1 <<< (((ltA tf ln t).2.2.2.1) &&& 31))))), (a7, AI G 120 tf), (m0, OB 7 [.int th, .ref a1, .ref a2, .ref a3, .int (nI ud), .ref a5, .ref a6, .ref a7, .int (nI ln), .int (nI ((ltB tf ln w (t, df)).1)), .int (nI ((ltB tf ln w (t, df)).2.1)), .int ((ltB tf ln w (t, df)).2.2.1), .int ((ltB tf ln w (t, df)).2.2.2.1), .int ((ltB tf ln w (t, df)).2.2.2.2), .ref a14, .int rq, .ref a16])] H := hP
            have hD : va_D A [(a2, AI G 64 (va_up df (w + 2) ((df (w + 2)) ||| (1 <<< (((ltA tf ln t).2.2.2.1) &&& 31))))), (a7, AI G 120 tf), (m0, OB 7 [.int th, .ref a1, .ref a2, .ref a3, .int (nI ud), .ref a5, .ref a6, .ref a7, .int (nI ln), .int (nI ((ltB tf ln w (t, df)).1)), .int (nI ((ltB tf ln w (t, df)).2.1)), .int ((ltB tf ln w (t, df)).2.2.1), .int ((ltB tf ln w (t, df)).2.2.2.1), .int ((ltB tf ln w (t, df)).2.2.2.2), .ref a14, .int rq, .ref a16])] := hD
            refine lv_aload_n hx hb dX7_readLiteral_94 rfl (lv_at hl 2 rfl) ?_
            refine va_get (D := G.1) (ci := 7) (v := .ref a2) (C := RX7) (T := TX7) (N := 17) hx hb hts hi7 hown hK hP 2 rfl rfl 2 (by decide) (hts (.fieldLink RX7 13 "ConflictEnumeratorModel" "draft" "[I") (List.mem_of_getElem? (i := 3) rfl)) (fun _ h9 => h9) rfl dX7_readLiteral_95 ?_
            refine lv_iload_n hx hb dX7_readLiteral_98 rfl (lv_at hl 3 rfl) ?_
            refine lv_iconst (v := 3) hx hb dX7_readLiteral_99 (by decide) ?_
            refine wn_iadd hx hb (w) (3) rfl rfl dX7_readLiteral_100 ?_
            refine lv_dup2_11 hx hb dX7_readLiteral_101 rfl rfl ?_
            refine wa_iald hx hb hK hP 0 rfl (w + 3) (rfl) (by omega) (by decide) dX7_readLiteral_102 ?_
            rw [show (va_up df (w + 2) ((df (w + 2)) ||| (1 <<< (((ltA tf ln t).2.2.2.1) &&& 31)))) (w + 3) = df (w + 3) from by simp [va_up]]
            refine lv_iload_n hx hb dX7_readLiteral_103 rfl (lv_at hl 1 rfl) ?_
            refine lv_if_eq (tgt := 113) hx hb dX7_readLiteral_104 (by decide) (fun c_104 => ?_) (fun c_104 => absurd c_104 (by decide))
            refine lv_iconst (v := 0) hx hb dX7_readLiteral_113 (by decide) ?_
            refine lv_ior hx hb dX7_readLiteral_114 ?_
            refine wa_iast hx hb hK hP hD hS 0 rfl (w + 3) (rfl) (by omega) (by decide) dX7_readLiteral_115 (fun H locs hP hD hS => ?_)
            have hP : va_P G.1 vwCl [(a2, AI G 64 (va_up (va_up df (w + 2) ((df (w + 2)) ||| (1 <<< (((ltA tf ln t).2.2.2.1) &&& 31)))) (w + 3) ((df (w + 3)) ||| 0))), (a7, AI G 120 tf), (m0, OB 7 [.int th, .ref a1, .ref a2, .ref a3, .int (nI ud), .ref a5, .ref a6, .ref a7, .int (nI ln), .int (nI ((ltB tf ln w (t, df)).1)), .int (nI ((ltB tf ln w (t, df)).2.1)), .int ((ltB tf ln w (t, df)).2.2.1), .int ((ltB tf ln w (t, df)).2.2.2.1), .int ((ltB tf ln w (t, df)).2.2.2.2), .ref a14, .int rq, .ref a16])] H := hP
            have hD : va_D A [(a2, AI G 64 (va_up (va_up df (w + 2) ((df (w + 2)) ||| (1 <<< (((ltA tf ln t).2.2.2.1) &&& 31)))) (w + 3) ((df (w + 3)) ||| 0))), (a7, AI G 120 tf), (m0, OB 7 [.int th, .ref a1, .ref a2, .ref a3, .int (nI ud), .ref a5, .ref a6, .ref a7, .int (nI ln), .int (nI ((ltB tf ln w (t, df)).1)), .int (nI ((ltB tf ln w (t, df)).2.1)), .int ((ltB tf ln w (t, df)).2.2.1), .int ((ltB tf ln w (t, df)).2.2.2.1), .int ((ltB tf ln w (t, df)).2.2.2.2), .ref a14, .int rq, .ref a16])] := hD
            exact ret _ _ _ _ _ _ _ (Nat.le_of_ble_eq_true rfl) (Nat.le_of_ble_eq_true rfl) (by first | (simp only [litD, if_neg c_77]; done) | (simp only [litD, if_pos c_77, hn1]; done)) (hP.sub (ws' := [(m0, OB 7 [.int th, .ref a1, .ref a2, .ref a3, .int (nI ud), .ref a5, .ref a6, .ref a7, .int (nI ln), .int (nI ((ltB tf ln w (t, df)).1)), .int (nI ((ltB tf ln w (t, df)).2.1)), .int ((ltB tf ln w (t, df)).2.2.1), .int ((ltB tf ln w (t, df)).2.2.2.1), .int ((ltB tf ln w (t, df)).2.2.2.2), .ref a14, .int rq, .ref a16]), (a7, AI G 120 tf), (a2, AI G 64 (va_up (va_up df (w + 2) ((df (w + 2)) ||| (1 <<< (((ltA tf ln t).2.2.2.1) &&& 31)))) (w + 3) ((df (w + 3)) ||| 0)))]) [2, 1, 0] rfl) (hD.sub (ws' := [(m0, OB 7 [.int th, .ref a1, .ref a2, .ref a3, .int (nI ud), .ref a5, .ref a6, .ref a7, .int (nI ln), .int (nI ((ltB tf ln w (t, df)).1)), .int (nI ((ltB tf ln w (t, df)).2.1)), .int ((ltB tf ln w (t, df)).2.2.1), .int ((ltB tf ln w (t, df)).2.2.2.1), .int ((ltB tf ln w (t, df)).2.2.2.2), .ref a14, .int rq, .ref a16]), (a7, AI G 120 tf), (a2, AI G 64 (va_up (va_up df (w + 2) ((df (w + 2)) ||| (1 <<< (((ltA tf ln t).2.2.2.1) &&& 31)))) (w + 3) ((df (w + 3)) ||| 0)))]) [2, 1, 0] (by decide) rfl) hS dX7_readLiteral_116
        ·
          have hlb : litB df w (ltA tf ln t) = true := by simp [litB, c_30, c_43, c_61]
          refine lv_iconst (v := 1) hx hb dX7_readLiteral_64 (by decide) ?_
          refine lv_goto (tgt := 69) hx hb dX7_readLiteral_65 (by decide) ?_
          refine W.eq (g2 := F0 m 69 ls [.int (bI (litB df w (ltA tf ln t))), .ref m0]) (by rw [hlb]; rfl) ?_
          refine call_Vi (rest := []) (As := [.int (bI (litB df w (ltA tf ln t)))]) (wr := [(a2, AI G 64 df)]) (c1 := 0) (s1 := 0) ⟨hx, hb, hml, hown, hts⟩ (c_X7_take l G m0 a1 a2 a3 a5 a6 a7 a14 a16 th ud ln rq (ltA tf ln t) tf (litB df w (ltA tf ln t)) (by first | assumption | omega) ((okP_ltA hok).1)) (cwV 1 hts gX7_readLiteral_X7_take rfl rfl rfl (by decide +kernel) ⟨Nat.le_of_ble_eq_true rfl, Nat.le_of_ble_eq_true rfl⟩) hK hN hSS hP hD hS hA 0 7 rfl rfl rfl [0, 1] [2] rfl rfl (by decide) (by decide) (by decide) rfl hl.1 rfl (Nat.le_of_ble_eq_true rfl) dX7_readLiteral_69 ⟨Nat.le_of_ble_eq_true rfl, Nat.le_of_ble_eq_true rfl⟩ rfl rfl (fun r_69 u_69 H locs hpo hP hD hS => ?_)
          obtain ⟨hr9, rfl⟩ := hpo
          subst r_69
          have hP : va_P G.1 vwCl [(a2, AI G 64 df), (m0, OB 7 [.int th, .ref a1, .ref a2, .ref a3, .int (nI ud), .ref a5, .ref a6, .ref a7, .int (nI ln), .int (nI ((tkeM tf ln (litB df w (ltA tf ln t)) (ltA tf ln t)).1)), .int (nI ((tkeM tf ln (litB df w (ltA tf ln t)) (ltA tf ln t)).2.1)), .int ((tkeM tf ln (litB df w (ltA tf ln t)) (ltA tf ln t)).2.2.1), .int ((tkeM tf ln (litB df w (ltA tf ln t)) (ltA tf ln t)).2.2.2.1), .int ((tkeM tf ln (litB df w (ltA tf ln t)) (ltA tf ln t)).2.2.2.2), .ref a14, .int rq, .ref a16]), (a7, AI G 120 tf)] H := hP
          have hD : va_D A [(a2, AI G 64 df), (m0, OB 7 [.int th, .ref a1, .ref a2, .ref a3, .int (nI ud), .ref a5, .ref a6, .ref a7, .int (nI ln), .int (nI ((tkeM tf ln (litB df w (ltA tf ln t)) (ltA tf ln t)).1)), .int (nI ((tkeM tf ln (litB df w (ltA tf ln t)) (ltA tf ln t)).2.1)), .int ((tkeM tf ln (litB df w (ltA tf ln t)) (ltA tf ln t)).2.2.1), .int ((tkeM tf ln (litB df w (ltA tf ln t)) (ltA tf ln t)).2.2.2.1), .int ((tkeM tf ln (litB df w (ltA tf ln t)) (ltA tf ln t)).2.2.2.2), .ref a14, .int rq, .ref a16]), (a7, AI G 120 tf)] := hD
          refine lv_istore_n (lv' := [(3, .int ((ltA tf ln t).2.2.2.1)), (2, .int 0), (0, .ref m0), (1, .int (nI w))]) hx hb dX7_readLiteral_72 rfl hl (by decide) rfl (fun ls hl => ?_)
          have hP : va_P G.1 vwCl [(a2, AI G 64 df), (m0, OB 7 [.int th, .ref a1, .ref a2, .ref a3, .int (nI ud), .ref a5, .ref a6, .ref a7, .int (nI ln), .int (nI ((ltB tf ln w (t, df)).1)), .int (nI ((ltB tf ln w (t, df)).2.1)), .int ((ltB tf ln w (t, df)).2.2.1), .int ((ltB tf ln w (t, df)).2.2.2.1), .int ((ltB tf ln w (t, df)).2.2.2.2), .ref a14, .int rq, .ref a16]), (a7, AI G 120 tf)] H := (hP)
          have hD : va_D A [(a2, AI G 64 df), (m0, OB 7 [.int th, .ref a1, .ref a2, .ref a3, .int (nI ud), .ref a5, .ref a6, .ref a7, .int (nI ln), .int (nI ((ltB tf ln w (t, df)).1)), .int (nI ((ltB tf ln w (t, df)).2.1)), .int ((ltB tf ln w (t, df)).2.2.1), .int ((ltB tf ln w (t, df)).2.2.2.1), .int ((ltB tf ln w (t, df)).2.2.2.2), .ref a14, .int rq, .ref a16]), (a7, AI G 120 tf)] := (hD)
          refine lv_aload_n hx hb dX7_readLiteral_73 rfl (lv_at hl 2 rfl) ?_
          refine call_Vi (rest := []) (As := []) (wr := [(a2, AI G 64 df), (a7, AI G 120 tf)]) (c1 := 0) (s1 := 0) ⟨hx, hb, hml, hown, hts⟩ (c_X7_isFine l G m0 a1 a2 a3 a5 a6 a7 a14 a16 th ud ln ((ltB tf ln w (t, df)).1) ((ltB tf ln w (t, df)).2.1) ((ltB tf ln w (t, df)).2.2.1) ((ltB tf ln w (t, df)).2.2.2.1) ((ltB tf ln w (t, df)).2.2.2.2) rq ) (cwV 0 hts gX7_readLiteral_X7_isFine rfl rfl rfl (by decide +kernel) ⟨Nat.le_of_ble_eq_true rfl, Nat.le_of_ble_eq_true rfl⟩) hK hN hSS hP hD hS hA 0 7 rfl rfl rfl [1] [0, 2] rfl rfl (by decide) (by decide) (by decide) rfl hl.1 rfl (Nat.le_of_ble_eq_true rfl) dX7_readLiteral_74 ⟨Nat.le_of_ble_eq_true rfl, Nat.le_of_ble_eq_true rfl⟩ rfl rfl (fun r_74 u_74 H locs hpo hP hD hS => ?_)
          obtain ⟨hr9, rfl⟩ := hpo
          subst r_74
          have hP : va_P G.1 vwCl [(a2, AI G 64 df), (a7, AI G 120 tf), (m0, OB 7 [.int th, .ref a1, .ref a2, .ref a3, .int (nI ud), .ref a5, .ref a6, .ref a7, .int (nI ln), .int (nI ((ltB tf ln w (t, df)).1)), .int (nI ((ltB tf ln w (t, df)).2.1)), .int ((ltB tf ln w (t, df)).2.2.1), .int ((ltB tf ln w (t, df)).2.2.2.1), .int ((ltB tf ln w (t, df)).2.2.2.2), .ref a14, .int rq, .ref a16])] H := hP
          have hD : va_D A [(a2, AI G 64 df), (a7, AI G 120 tf), (m0, OB 7 [.int th, .ref a1, .ref a2, .ref a3, .int (nI ud), .ref a5, .ref a6, .ref a7, .int (nI ln), .int (nI ((ltB tf ln w (t, df)).1)), .int (nI ((ltB tf ln w (t, df)).2.1)), .int ((ltB tf ln w (t, df)).2.2.1), .int ((ltB tf ln w (t, df)).2.2.2.1), .int ((ltB tf ln w (t, df)).2.2.2.2), .ref a14, .int rq, .ref a16])] := hD
          refine wb_eq (tgt := 116) hx hb dX7_readLiteral_77 (by decide) (fun c_77 => ?_) (fun c_77 => ?_)
          ·
            have c_77 : ¬ (ltB tf ln w (t, df)).2.2.2.2 = -9 := by simpa using c_77
            exact ret _ _ _ _ _ _ _ (Nat.le_of_ble_eq_true rfl) (Nat.le_of_ble_eq_true rfl) (by first | (simp only [litD, if_neg c_77]; done) | (simp only [litD, if_pos c_77, hn1]; done)) (hP.sub (ws' := [(m0, OB 7 [.int th, .ref a1, .ref a2, .ref a3, .int (nI ud), .ref a5, .ref a6, .ref a7, .int (nI ln), .int (nI ((ltB tf ln w (t, df)).1)), .int (nI ((ltB tf ln w (t, df)).2.1)), .int ((ltB tf ln w (t, df)).2.2.1), .int ((ltB tf ln w (t, df)).2.2.2.1), .int ((ltB tf ln w (t, df)).2.2.2.2), .ref a14, .int rq, .ref a16]), (a7, AI G 120 tf), (a2, AI G 64 df)]) [2, 1, 0] rfl) (hD.sub (ws' := [(m0, OB 7 [.int th, .ref a1, .ref a2, .ref a3, .int (nI ud), .ref a5, .ref a6, .ref a7, .int (nI ln), .int (nI ((ltB tf ln w (t, df)).1)), .int (nI ((ltB tf ln w (t, df)).2.1)), .int ((ltB tf ln w (t, df)).2.2.1), .int ((ltB tf ln w (t, df)).2.2.2.1), .int ((ltB tf ln w (t, df)).2.2.2.2), .ref a14, .int rq, .ref a16]), (a7, AI G 120 tf), (a2, AI G 64 df)]) [2, 1, 0] (by decide) rfl) hS dX7_readLiteral_116
          ·
            have c_77 : (ltB tf ln w (t, df)).2.2.2.2 = -9 := by simpa using c_77
            refine lv_aload_n hx hb dX7_readLiteral_80 rfl (lv_at hl 2 rfl) ?_
            refine va_get (D := G.1) (ci := 7) (v := .ref a2) (C := RX7) (T := TX7) (N := 17) hx hb hts hi7 hown hK hP 2 rfl rfl 2 (by decide) (hts (.fieldLink RX7 13 "ConflictEnumeratorModel" "draft" "[I") (List.mem_of_getElem? (i := 3) rfl)) (fun _ h9 => h9) rfl dX7_readLiteral_81 ?_
            refine lv_iload_n hx hb dX7_readLiteral_84 rfl (lv_at hl 3 rfl) ?_
            refine lv_iconst (v := 2) hx hb dX7_readLiteral_85 (by decide) ?_
            refine wn_iadd hx hb (w) (2) rfl rfl dX7_readLiteral_86 ?_
            refine lv_dup2_11 hx hb dX7_readLiteral_87 rfl rfl ?_
            refine wa_iald hx hb hK hP 0 rfl (w + 2) (rfl) (by omega) (by decide) dX7_readLiteral_88 ?_
            refine lv_iconst (v := 1) hx hb dX7_readLiteral_89 (by decide) ?_
            refine lv_iload_n hx hb dX7_readLiteral_90 rfl (lv_at hl 0 rfl) ?_
            refine lv_ishl hx hb dX7_readLiteral_91 ?_
            refine lv_ior hx hb dX7_readLiteral_92 ?_
            refine wa_iast hx hb hK hP hD hS 0 rfl (w + 2) (rfl) (by omega) (by decide) dX7_readLiteral_93 (fun H locs hP hD hS => ?_)
            have hP : va_P G.1 vwCl [(a2, AI G 64 (va_up df (w + 2) ((df (w + 2)) ||| (1 <<< (((ltA tf ln t).2.2.2.1) &&& 31))))), (a7, AI G 120 tf), (m0, OB 7 [.int th, .ref a1, .ref a2, .ref a3, .int (nI ud), .ref a5, .ref a6, .ref a7, .int (nI ln), .int (nI ((ltB tf ln w (t, df)).1)), .int (nI ((ltB tf ln w (t, df)).2.1)), .int ((ltB tf ln w (t, df)).2.2.1), .int ((ltB tf ln w (t, df)).2.2.2.1), .int ((ltB tf ln w (t, df)).2.2.2.2), .ref a14, .int rq, .ref a16])] H := hP
            have hD : va_D A [(a2, AI G 64 (va_up df (w + 2) ((df (w + 2)) ||| (1 <<< (((ltA tf ln t).2.2.2.1) &&& 31))))), (a7, AI G 120 tf), (m0, OB 7 [.int th, .ref a1, .ref a2, .ref a3, .int (nI ud), .ref a5, .ref a6, .ref a7, .int (nI ln), .int (nI ((ltB tf ln w (t, df)).1)), .int (nI ((ltB tf ln w (t, df)).2.1)), .int ((ltB tf ln w (t, df)).2.2.1), .int ((ltB tf ln w (t, df)).2.2.2.1), .int ((ltB tf ln w (t, df)).2.2.2.2), .ref a14, .int rq, .ref a16])] := hD
            refine lv_aload_n hx hb dX7_readLiteral_94 rfl (lv_at hl 2 rfl) ?_
            refine va_get (D := G.1) (ci := 7) (v := .ref a2) (C := RX7) (T := TX7) (N := 17) hx hb hts hi7 hown hK hP 2 rfl rfl 2 (by decide) (hts (.fieldLink RX7 13 "ConflictEnumeratorModel" "draft" "[I") (List.mem_of_getElem? (i := 3) rfl)) (fun _ h9 => h9) rfl dX7_readLiteral_95 ?_
            refine lv_iload_n hx hb dX7_readLiteral_98 rfl (lv_at hl 3 rfl) ?_
            refine lv_iconst (v := 3) hx hb dX7_readLiteral_99 (by decide) ?_
            refine wn_iadd hx hb (w) (3) rfl rfl dX7_readLiteral_100 ?_
            refine lv_dup2_11 hx hb dX7_readLiteral_101 rfl rfl ?_
            refine wa_iald hx hb hK hP 0 rfl (w + 3) (rfl) (by omega) (by decide) dX7_readLiteral_102 ?_
            rw [show (va_up df (w + 2) ((df (w + 2)) ||| (1 <<< (((ltA tf ln t).2.2.2.1) &&& 31)))) (w + 3) = df (w + 3) from by simp [va_up]]
            refine lv_iload_n hx hb dX7_readLiteral_103 rfl (lv_at hl 1 rfl) ?_
            refine lv_if_eq (tgt := 113) hx hb dX7_readLiteral_104 (by decide) (fun c_104 => ?_) (fun c_104 => absurd c_104 (by decide))
            refine lv_iconst (v := 0) hx hb dX7_readLiteral_113 (by decide) ?_
            refine lv_ior hx hb dX7_readLiteral_114 ?_
            refine wa_iast hx hb hK hP hD hS 0 rfl (w + 3) (rfl) (by omega) (by decide) dX7_readLiteral_115 (fun H locs hP hD hS => ?_)
            have hP : va_P G.1 vwCl [(a2, AI G 64 (va_up (va_up df (w + 2) ((df (w + 2)) ||| (1 <<< (((ltA tf ln t).2.2.2.1) &&& 31)))) (w + 3) ((df (w + 3)) ||| 0))), (a7, AI G 120 tf), (m0, OB 7 [.int th, .ref a1, .ref a2, .ref a3, .int (nI ud), .ref a5, .ref a6, .ref a7, .int (nI ln), .int (nI ((ltB tf ln w (t, df)).1)), .int (nI ((ltB tf ln w (t, df)).2.1)), .int ((ltB tf ln w (t, df)).2.2.1), .int ((ltB tf ln w (t, df)).2.2.2.1), .int ((ltB tf ln w (t, df)).2.2.2.2), .ref a14, .int rq, .ref a16])] H := hP
            have hD : va_D A [(a2, AI G 64 (va_up (va_up df (w + 2) ((df (w + 2)) ||| (1 <<< (((ltA tf ln t).2.2.2.1) &&& 31)))) (w + 3) ((df (w + 3)) ||| 0))), (a7, AI G 120 tf), (m0, OB 7 [.int th, .ref a1, .ref a2, .ref a3, .int (nI ud), .ref a5, .ref a6, .ref a7, .int (nI ln), .int (nI ((ltB tf ln w (t, df)).1)), .int (nI ((ltB tf ln w (t, df)).2.1)), .int ((ltB tf ln w (t, df)).2.2.1), .int ((ltB tf ln w (t, df)).2.2.2.1), .int ((ltB tf ln w (t, df)).2.2.2.2), .ref a14, .int rq, .ref a16])] := hD
            exact ret _ _ _ _ _ _ _ (Nat.le_of_ble_eq_true rfl) (Nat.le_of_ble_eq_true rfl) (by first | (simp only [litD, if_neg c_77]; done) | (simp only [litD, if_pos c_77, hn1]; done)) (hP.sub (ws' := [(m0, OB 7 [.int th, .ref a1, .ref a2, .ref a3, .int (nI ud), .ref a5, .ref a6, .ref a7, .int (nI ln), .int (nI ((ltB tf ln w (t, df)).1)), .int (nI ((ltB tf ln w (t, df)).2.1)), .int ((ltB tf ln w (t, df)).2.2.1), .int ((ltB tf ln w (t, df)).2.2.2.1), .int ((ltB tf ln w (t, df)).2.2.2.2), .ref a14, .int rq, .ref a16]), (a7, AI G 120 tf), (a2, AI G 64 (va_up (va_up df (w + 2) ((df (w + 2)) ||| (1 <<< (((ltA tf ln t).2.2.2.1) &&& 31)))) (w + 3) ((df (w + 3)) ||| 0)))]) [2, 1, 0] rfl) (hD.sub (ws' := [(m0, OB 7 [.int th, .ref a1, .ref a2, .ref a3, .int (nI ud), .ref a5, .ref a6, .ref a7, .int (nI ln), .int (nI ((ltB tf ln w (t, df)).1)), .int (nI ((ltB tf ln w (t, df)).2.1)), .int ((ltB tf ln w (t, df)).2.2.1), .int ((ltB tf ln w (t, df)).2.2.2.1), .int ((ltB tf ln w (t, df)).2.2.2.2), .ref a14, .int rq, .ref a16]), (a7, AI G 120 tf), (a2, AI G 64 (va_up (va_up df (w + 2) ((df (w + 2)) ||| (1 <<< (((ltA tf ln t).2.2.2.1) &&& 31)))) (w + 3) ((df (w + 3)) ||| 0)))]) [2, 1, 0] (by decide) rfl) hS dX7_readLiteral_116
  ·
    have hl1 : ltA tf ln t = tkeM tf ln true t := by unfold ltA; rw [if_pos c_5]
    have hn1 : (if t.2.2.1 = 3 then (1 : Int32) <<< ((ltA tf ln t).2.2.2.1 &&& 31) else 0) = (1 : Int32) <<< ((ltA tf ln t).2.2.2.1 &&& 31) := by rw [if_pos c_5]
    refine lv_iconst (v := 1) hx hb dX7_readLiteral_8 (by decide) ?_
    refine lv_goto (tgt := 13) hx hb dX7_readLiteral_9 (by decide) ?_
    refine lv_istore_n (lv' := [(2, .int 1), (0, .ref m0), (1, .int (nI w))]) hx hb dX7_readLiteral_13 rfl hl (by decide) rfl (fun ls hl => ?_)
    refine lv_iload_n hx hb dX7_readLiteral_14 rfl (lv_at hl 0 rfl) ?_
    refine lv_if_eq (tgt := 24) hx hb dX7_readLiteral_15 (by decide) (fun c_15 => absurd c_15 (by decide)) (fun c_15 => ?_)
    refine lv_aload_n hx hb dX7_readLiteral_18 rfl (lv_at hl 1 rfl) ?_
    refine lv_iconst (v := 1) hx hb dX7_readLiteral_19 (by decide) ?_
    refine call_Vi (rest := []) (As := [.int 1]) (wr := [(a2, AI G 64 df)]) (c1 := 0) (s1 := 0) ⟨hx, hb, hml, hown, hts⟩ (c_X7_take l G m0 a1 a2 a3 a5 a6 a7 a14 a16 th ud ln rq t tf true (by first | assumption | omega) (hok.1)) (cwV 1 hts gX7_readLiteral_X7_take rfl rfl rfl (by decide +kernel) ⟨Nat.le_of_ble_eq_true rfl, Nat.le_of_ble_eq_true rfl⟩) hK hN hSS hP hD hS hA 0 7 rfl rfl rfl [0, 1] [2] rfl rfl (by decide) (by decide) (by decide) rfl hl.1 rfl (Nat.le_of_ble_eq_true rfl) dX7_readLiteral_20 ⟨Nat.le_of_ble_eq_true rfl, Nat.le_of_ble_eq_true rfl⟩ rfl rfl (fun r_20 u_20 H locs hpo hP hD hS => ?_)
    obtain ⟨hr9, rfl⟩ := hpo
    subst r_20
    have hP : va_P G.1 vwCl [(a2, AI G 64 df), (m0, OB 7 [.int th, .ref a1, .ref a2, .ref a3, .int (nI ud), .ref a5, .ref a6, .ref a7, .int (nI ln), .int (nI ((tkeM tf ln true t).1)), .int (nI ((tkeM tf ln true t).2.1)), .int ((tkeM tf ln true t).2.2.1), .int ((tkeM tf ln true t).2.2.2.1), .int ((tkeM tf ln true t).2.2.2.2), .ref a14, .int rq, .ref a16]), (a7, AI G 120 tf)] H := hP
    have hD : va_D A [(a2, AI G 64 df), (m0, OB 7 [.int th, .ref a1, .ref a2, .ref a3, .int (nI ud), .ref a5, .ref a6, .ref a7, .int (nI ln), .int (nI ((tkeM tf ln true t).1)), .int (nI ((tkeM tf ln true t).2.1)), .int ((tkeM tf ln true t).2.2.1), .int ((tkeM tf ln true t).2.2.2.1), .int ((tkeM tf ln true t).2.2.2.2), .ref a14, .int rq, .ref a16]), (a7, AI G 120 tf)] := hD
    refine lv_pop hx hb dX7_readLiteral_23 rfl ?_
    have hP : va_P G.1 vwCl [(a2, AI G 64 df), (m0, OB 7 [.int th, .ref a1, .ref a2, .ref a3, .int (nI ud), .ref a5, .ref a6, .ref a7, .int (nI ln), .int (nI ((ltA tf ln t).1)), .int (nI ((ltA tf ln t).2.1)), .int ((ltA tf ln t).2.2.1), .int ((ltA tf ln t).2.2.2.1), .int ((ltA tf ln t).2.2.2.2), .ref a14, .int rq, .ref a16]), (a7, AI G 120 tf)] H := (by rw [hl1]; exact hP)
    have hD : va_D A [(a2, AI G 64 df), (m0, OB 7 [.int th, .ref a1, .ref a2, .ref a3, .int (nI ud), .ref a5, .ref a6, .ref a7, .int (nI ln), .int (nI ((ltA tf ln t).1)), .int (nI ((ltA tf ln t).2.1)), .int ((ltA tf ln t).2.2.1), .int ((ltA tf ln t).2.2.2.1), .int ((ltA tf ln t).2.2.2.2), .ref a14, .int rq, .ref a16]), (a7, AI G 120 tf)] := (by rw [hl1]; exact hD)
    refine lv_aload_n hx hb dX7_readLiteral_24 rfl (lv_at hl 1 rfl) ?_
    refine lv_aload_n hx hb dX7_readLiteral_25 rfl (lv_at hl 1 rfl) ?_
    refine va_get (D := G.1) (ci := 7) (v := .int ((ltA tf ln t).2.2.1)) (C := RX7) (T := TX7) (N := 17) hx hb hts hi7 hown hK hP 1 rfl rfl 11 (by decide) (hts (.fieldLink RX7 56 "ConflictEnumeratorModel" "token" "I") (List.mem_of_getElem? (i := 1) rfl)) (fun _ h9 => h9) rfl dX7_readLiteral_26 ?_
    refine lv_iconst (v := 2) hx hb dX7_readLiteral_29 (by decide) ?_
    refine lv_icmp_ne (tgt := 68) hx hb dX7_readLiteral_30 (by decide) (fun c_30 => ?_) (fun c_30 => ?_)
    ·
      have hlb : litB df w (ltA tf ln t) = false := by simp [litB, c_30]
      refine lv_iconst (v := 0) hx hb dX7_readLiteral_68 (by decide) ?_
      refine W.eq (g2 := F0 m 69 ls [.int (bI (litB df w (ltA tf ln t))), .ref m0]) (by rw [hlb]; rfl) ?_
      refine call_Vi (rest := []) (As := [.int (bI (litB df w (ltA tf ln t)))]) (wr := [(a2, AI G 64 df)]) (c1 := 0) (s1 := 0) ⟨hx, hb, hml, hown, hts⟩ (c_X7_take l G m0 a1 a2 a3 a5 a6 a7 a14 a16 th ud ln rq (ltA tf ln t) tf (litB df w (ltA tf ln t)) (by first | assumption | omega) ((okP_ltA hok).1)) (cwV 1 hts gX7_readLiteral_X7_take rfl rfl rfl (by decide +kernel) ⟨Nat.le_of_ble_eq_true rfl, Nat.le_of_ble_eq_true rfl⟩) hK hN hSS hP hD hS hA 0 7 rfl rfl rfl [1, 2] [0] rfl rfl (by decide) (by decide) (by decide) rfl hl.1 rfl (Nat.le_of_ble_eq_true rfl) dX7_readLiteral_69 ⟨Nat.le_of_ble_eq_true rfl, Nat.le_of_ble_eq_true rfl⟩ rfl rfl (fun r_69 u_69 H locs hpo hP hD hS => ?_)
      obtain ⟨hr9, rfl⟩ := hpo
      subst r_69
      have hP : va_P G.1 vwCl [(a2, AI G 64 df), (m0, OB 7 [.int th, .ref a1, .ref a2, .ref a3, .int (nI ud), .ref a5, .ref a6, .ref a7, .int (nI ln), .int (nI ((tkeM tf ln (litB df w (ltA tf ln t)) (ltA tf ln t)).1)), .int (nI ((tkeM tf ln (litB df w (ltA tf ln t)) (ltA tf ln t)).2.1)), .int ((tkeM tf ln (litB df w (ltA tf ln t)) (ltA tf ln t)).2.2.1), .int ((tkeM tf ln (litB df w (ltA tf ln t)) (ltA tf ln t)).2.2.2.1), .int ((tkeM tf ln (litB df w (ltA tf ln t)) (ltA tf ln t)).2.2.2.2), .ref a14, .int rq, .ref a16]), (a7, AI G 120 tf)] H := hP
      have hD : va_D A [(a2, AI G 64 df), (m0, OB 7 [.int th, .ref a1, .ref a2, .ref a3, .int (nI ud), .ref a5, .ref a6, .ref a7, .int (nI ln), .int (nI ((tkeM tf ln (litB df w (ltA tf ln t)) (ltA tf ln t)).1)), .int (nI ((tkeM tf ln (litB df w (ltA tf ln t)) (ltA tf ln t)).2.1)), .int ((tkeM tf ln (litB df w (ltA tf ln t)) (ltA tf ln t)).2.2.1), .int ((tkeM tf ln (litB df w (ltA tf ln t)) (ltA tf ln t)).2.2.2.1), .int ((tkeM tf ln (litB df w (ltA tf ln t)) (ltA tf ln t)).2.2.2.2), .ref a14, .int rq, .ref a16]), (a7, AI G 120 tf)] := hD
      refine lv_istore_n (lv' := [(3, .int ((ltA tf ln t).2.2.2.1)), (2, .int 1), (0, .ref m0), (1, .int (nI w))]) hx hb dX7_readLiteral_72 rfl hl (by decide) rfl (fun ls hl => ?_)
      have hP : va_P G.1 vwCl [(a2, AI G 64 df), (m0, OB 7 [.int th, .ref a1, .ref a2, .ref a3, .int (nI ud), .ref a5, .ref a6, .ref a7, .int (nI ln), .int (nI ((ltB tf ln w (t, df)).1)), .int (nI ((ltB tf ln w (t, df)).2.1)), .int ((ltB tf ln w (t, df)).2.2.1), .int ((ltB tf ln w (t, df)).2.2.2.1), .int ((ltB tf ln w (t, df)).2.2.2.2), .ref a14, .int rq, .ref a16]), (a7, AI G 120 tf)] H := (hP)
      have hD : va_D A [(a2, AI G 64 df), (m0, OB 7 [.int th, .ref a1, .ref a2, .ref a3, .int (nI ud), .ref a5, .ref a6, .ref a7, .int (nI ln), .int (nI ((ltB tf ln w (t, df)).1)), .int (nI ((ltB tf ln w (t, df)).2.1)), .int ((ltB tf ln w (t, df)).2.2.1), .int ((ltB tf ln w (t, df)).2.2.2.1), .int ((ltB tf ln w (t, df)).2.2.2.2), .ref a14, .int rq, .ref a16]), (a7, AI G 120 tf)] := (hD)
      refine lv_aload_n hx hb dX7_readLiteral_73 rfl (lv_at hl 2 rfl) ?_
      refine call_Vi (rest := []) (As := []) (wr := [(a2, AI G 64 df), (a7, AI G 120 tf)]) (c1 := 0) (s1 := 0) ⟨hx, hb, hml, hown, hts⟩ (c_X7_isFine l G m0 a1 a2 a3 a5 a6 a7 a14 a16 th ud ln ((ltB tf ln w (t, df)).1) ((ltB tf ln w (t, df)).2.1) ((ltB tf ln w (t, df)).2.2.1) ((ltB tf ln w (t, df)).2.2.2.1) ((ltB tf ln w (t, df)).2.2.2.2) rq ) (cwV 0 hts gX7_readLiteral_X7_isFine rfl rfl rfl (by decide +kernel) ⟨Nat.le_of_ble_eq_true rfl, Nat.le_of_ble_eq_true rfl⟩) hK hN hSS hP hD hS hA 0 7 rfl rfl rfl [1] [0, 2] rfl rfl (by decide) (by decide) (by decide) rfl hl.1 rfl (Nat.le_of_ble_eq_true rfl) dX7_readLiteral_74 ⟨Nat.le_of_ble_eq_true rfl, Nat.le_of_ble_eq_true rfl⟩ rfl rfl (fun r_74 u_74 H locs hpo hP hD hS => ?_)
      obtain ⟨hr9, rfl⟩ := hpo
      subst r_74
      have hP : va_P G.1 vwCl [(a2, AI G 64 df), (a7, AI G 120 tf), (m0, OB 7 [.int th, .ref a1, .ref a2, .ref a3, .int (nI ud), .ref a5, .ref a6, .ref a7, .int (nI ln), .int (nI ((ltB tf ln w (t, df)).1)), .int (nI ((ltB tf ln w (t, df)).2.1)), .int ((ltB tf ln w (t, df)).2.2.1), .int ((ltB tf ln w (t, df)).2.2.2.1), .int ((ltB tf ln w (t, df)).2.2.2.2), .ref a14, .int rq, .ref a16])] H := hP
      have hD : va_D A [(a2, AI G 64 df), (a7, AI G 120 tf), (m0, OB 7 [.int th, .ref a1, .ref a2, .ref a3, .int (nI ud), .ref a5, .ref a6, .ref a7, .int (nI ln), .int (nI ((ltB tf ln w (t, df)).1)), .int (nI ((ltB tf ln w (t, df)).2.1)), .int ((ltB tf ln w (t, df)).2.2.1), .int ((ltB tf ln w (t, df)).2.2.2.1), .int ((ltB tf ln w (t, df)).2.2.2.2), .ref a14, .int rq, .ref a16])] := hD
      refine wb_eq (tgt := 116) hx hb dX7_readLiteral_77 (by decide) (fun c_77 => ?_) (fun c_77 => ?_)
      ·
        have c_77 : ¬ (ltB tf ln w (t, df)).2.2.2.2 = -9 := by simpa using c_77
        exact ret _ _ _ _ _ _ _ (Nat.le_of_ble_eq_true rfl) (Nat.le_of_ble_eq_true rfl) (by first | (simp only [litD, if_neg c_77]; done) | (simp only [litD, if_pos c_77, hn1]; done)) (hP.sub (ws' := [(m0, OB 7 [.int th, .ref a1, .ref a2, .ref a3, .int (nI ud), .ref a5, .ref a6, .ref a7, .int (nI ln), .int (nI ((ltB tf ln w (t, df)).1)), .int (nI ((ltB tf ln w (t, df)).2.1)), .int ((ltB tf ln w (t, df)).2.2.1), .int ((ltB tf ln w (t, df)).2.2.2.1), .int ((ltB tf ln w (t, df)).2.2.2.2), .ref a14, .int rq, .ref a16]), (a7, AI G 120 tf), (a2, AI G 64 df)]) [2, 1, 0] rfl) (hD.sub (ws' := [(m0, OB 7 [.int th, .ref a1, .ref a2, .ref a3, .int (nI ud), .ref a5, .ref a6, .ref a7, .int (nI ln), .int (nI ((ltB tf ln w (t, df)).1)), .int (nI ((ltB tf ln w (t, df)).2.1)), .int ((ltB tf ln w (t, df)).2.2.1), .int ((ltB tf ln w (t, df)).2.2.2.1), .int ((ltB tf ln w (t, df)).2.2.2.2), .ref a14, .int rq, .ref a16]), (a7, AI G 120 tf), (a2, AI G 64 df)]) [2, 1, 0] (by decide) rfl) hS dX7_readLiteral_116
      ·
        have c_77 : (ltB tf ln w (t, df)).2.2.2.2 = -9 := by simpa using c_77
        refine lv_aload_n hx hb dX7_readLiteral_80 rfl (lv_at hl 2 rfl) ?_
        refine va_get (D := G.1) (ci := 7) (v := .ref a2) (C := RX7) (T := TX7) (N := 17) hx hb hts hi7 hown hK hP 2 rfl rfl 2 (by decide) (hts (.fieldLink RX7 13 "ConflictEnumeratorModel" "draft" "[I") (List.mem_of_getElem? (i := 3) rfl)) (fun _ h9 => h9) rfl dX7_readLiteral_81 ?_
        refine lv_iload_n hx hb dX7_readLiteral_84 rfl (lv_at hl 3 rfl) ?_
        refine lv_iconst (v := 2) hx hb dX7_readLiteral_85 (by decide) ?_
        refine wn_iadd hx hb (w) (2) rfl rfl dX7_readLiteral_86 ?_
        refine lv_dup2_11 hx hb dX7_readLiteral_87 rfl rfl ?_
        refine wa_iald hx hb hK hP 0 rfl (w + 2) (rfl) (by omega) (by decide) dX7_readLiteral_88 ?_
        refine lv_iconst (v := 1) hx hb dX7_readLiteral_89 (by decide) ?_
        refine lv_iload_n hx hb dX7_readLiteral_90 rfl (lv_at hl 0 rfl) ?_
        refine lv_ishl hx hb dX7_readLiteral_91 ?_
        refine lv_ior hx hb dX7_readLiteral_92 ?_
        refine wa_iast hx hb hK hP hD hS 0 rfl (w + 2) (rfl) (by omega) (by decide) dX7_readLiteral_93 (fun H locs hP hD hS => ?_)
        have hP : va_P G.1 vwCl [(a2, AI G 64 (va_up df (w + 2) ((df (w + 2)) ||| (1 <<< (((ltA tf ln t).2.2.2.1) &&& 31))))), (a7, AI G 120 tf), (m0, OB 7 [.int th, .ref a1, .ref a2, .ref a3, .int (nI ud), .ref a5, .ref a6, .ref a7, .int (nI ln), .int (nI ((ltB tf ln w (t, df)).1)), .int (nI ((ltB tf ln w (t, df)).2.1)), .int ((ltB tf ln w (t, df)).2.2.1), .int ((ltB tf ln w (t, df)).2.2.2.1), .int ((ltB tf ln w (t, df)).2.2.2.2), .ref a14, .int rq, .ref a16])] H := hP
        have hD : va_D A [(a2, AI G 64 (va_up df (w + 2) ((df (w + 2)) ||| (1 <<< (((ltA tf ln t).2.2.2.1) &&& 31))))), (a7, AI G 120 tf), (m0, OB 7 [.int th, .ref a1, .ref a2, .ref a3, .int (nI ud), .ref a5, .ref a6, .ref a7, .int (nI ln), .int (nI ((ltB tf ln w (t, df)).1)), .int (nI ((ltB tf ln w (t, df)).2.1)), .int ((ltB tf ln w (t, df)).2.2.1), .int ((ltB tf ln w (t, df)).2.2.2.1), .int ((ltB tf ln w (t, df)).2.2.2.2), .ref a14, .int rq, .ref a16])] := hD
        refine lv_aload_n hx hb dX7_readLiteral_94 rfl (lv_at hl 2 rfl) ?_
        refine va_get (D := G.1) (ci := 7) (v := .ref a2) (C := RX7) (T := TX7) (N := 17) hx hb hts hi7 hown hK hP 2 rfl rfl 2 (by decide) (hts (.fieldLink RX7 13 "ConflictEnumeratorModel" "draft" "[I") (List.mem_of_getElem? (i := 3) rfl)) (fun _ h9 => h9) rfl dX7_readLiteral_95 ?_
        refine lv_iload_n hx hb dX7_readLiteral_98 rfl (lv_at hl 3 rfl) ?_
        refine lv_iconst (v := 3) hx hb dX7_readLiteral_99 (by decide) ?_
        refine wn_iadd hx hb (w) (3) rfl rfl dX7_readLiteral_100 ?_
        refine lv_dup2_11 hx hb dX7_readLiteral_101 rfl rfl ?_
        refine wa_iald hx hb hK hP 0 rfl (w + 3) (rfl) (by omega) (by decide) dX7_readLiteral_102 ?_
        rw [show (va_up df (w + 2) ((df (w + 2)) ||| (1 <<< (((ltA tf ln t).2.2.2.1) &&& 31)))) (w + 3) = df (w + 3) from by simp [va_up]]
        refine lv_iload_n hx hb dX7_readLiteral_103 rfl (lv_at hl 1 rfl) ?_
        refine lv_if_eq (tgt := 113) hx hb dX7_readLiteral_104 (by decide) (fun c_104 => absurd c_104 (by decide)) (fun c_104 => ?_)
        refine lv_iconst (v := 1) hx hb dX7_readLiteral_107 (by decide) ?_
        refine lv_iload_n hx hb dX7_readLiteral_108 rfl (lv_at hl 0 rfl) ?_
        refine lv_ishl hx hb dX7_readLiteral_109 ?_
        refine lv_goto (tgt := 114) hx hb dX7_readLiteral_110 (by decide) ?_
        refine lv_ior hx hb dX7_readLiteral_114 ?_
        refine wa_iast hx hb hK hP hD hS 0 rfl (w + 3) (rfl) (by omega) (by decide) dX7_readLiteral_115 (fun H locs hP hD hS => ?_)
        have hP : va_P G.1 vwCl [(a2, AI G 64 (va_up (va_up df (w + 2) ((df (w + 2)) ||| (1 <<< (((ltA tf ln t).2.2.2.1) &&& 31)))) (w + 3) ((df (w + 3)) ||| (1 <<< (((ltA tf ln t).2.2.2.1) &&& 31))))), (a7, AI G 120 tf), (m0, OB 7 [.int th, .ref a1, .ref a2, .ref a3, .int (nI ud), .ref a5, .ref a6, .ref a7, .int (nI ln), .int (nI ((ltB tf ln w (t, df)).1)), .int (nI ((ltB tf ln w (t, df)).2.1)), .int ((ltB tf ln w (t, df)).2.2.1), .int ((ltB tf ln w (t, df)).2.2.2.1), .int ((ltB tf ln w (t, df)).2.2.2.2), .ref a14, .int rq, .ref a16])] H := hP
        have hD : va_D A [(a2, AI G 64 (va_up (va_up df (w + 2) ((df (w + 2)) ||| (1 <<< (((ltA tf ln t).2.2.2.1) &&& 31)))) (w + 3) ((df (w + 3)) ||| (1 <<< (((ltA tf ln t).2.2.2.1) &&& 31))))), (a7, AI G 120 tf), (m0, OB 7 [.int th, .ref a1, .ref a2, .ref a3, .int (nI ud), .ref a5, .ref a6, .ref a7, .int (nI ln), .int (nI ((ltB tf ln w (t, df)).1)), .int (nI ((ltB tf ln w (t, df)).2.1)), .int ((ltB tf ln w (t, df)).2.2.1), .int ((ltB tf ln w (t, df)).2.2.2.1), .int ((ltB tf ln w (t, df)).2.2.2.2), .ref a14, .int rq, .ref a16])] := hD
        exact ret _ _ _ _ _ _ _ (Nat.le_of_ble_eq_true rfl) (Nat.le_of_ble_eq_true rfl) (by first | (simp only [litD, if_neg c_77]; done) | (simp only [litD, if_pos c_77, hn1]; done)) (hP.sub (ws' := [(m0, OB 7 [.int th, .ref a1, .ref a2, .ref a3, .int (nI ud), .ref a5, .ref a6, .ref a7, .int (nI ln), .int (nI ((ltB tf ln w (t, df)).1)), .int (nI ((ltB tf ln w (t, df)).2.1)), .int ((ltB tf ln w (t, df)).2.2.1), .int ((ltB tf ln w (t, df)).2.2.2.1), .int ((ltB tf ln w (t, df)).2.2.2.2), .ref a14, .int rq, .ref a16]), (a7, AI G 120 tf), (a2, AI G 64 (va_up (va_up df (w + 2) ((df (w + 2)) ||| (1 <<< (((ltA tf ln t).2.2.2.1) &&& 31)))) (w + 3) ((df (w + 3)) ||| (1 <<< (((ltA tf ln t).2.2.2.1) &&& 31)))))]) [2, 1, 0] rfl) (hD.sub (ws' := [(m0, OB 7 [.int th, .ref a1, .ref a2, .ref a3, .int (nI ud), .ref a5, .ref a6, .ref a7, .int (nI ln), .int (nI ((ltB tf ln w (t, df)).1)), .int (nI ((ltB tf ln w (t, df)).2.1)), .int ((ltB tf ln w (t, df)).2.2.1), .int ((ltB tf ln w (t, df)).2.2.2.1), .int ((ltB tf ln w (t, df)).2.2.2.2), .ref a14, .int rq, .ref a16]), (a7, AI G 120 tf), (a2, AI G 64 (va_up (va_up df (w + 2) ((df (w + 2)) ||| (1 <<< (((ltA tf ln t).2.2.2.1) &&& 31)))) (w + 3) ((df (w + 3)) ||| (1 <<< (((ltA tf ln t).2.2.2.1) &&& 31)))))]) [2, 1, 0] (by decide) rfl) hS dX7_readLiteral_116
    ·
      refine lv_aload_n hx hb dX7_readLiteral_33 rfl (lv_at hl 1 rfl) ?_
      refine va_get (D := G.1) (ci := 7) (v := .int ((ltA tf ln t).2.2.2.1)) (C := RX7) (T := TX7) (N := 17) hx hb hts hi7 hown hK hP 1 rfl rfl 12 (by decide) (hts (.fieldLink RX7 67 "ConflictEnumeratorModel" "value" "I") (List.mem_of_getElem? (i := 2) rfl)) (fun _ h9 => h9) rfl dX7_readLiteral_34 ?_
      refine lv_iconst (v := 1) hx hb dX7_readLiteral_37 (by decide) ?_
      refine lv_bipush (v := 6) hx hb dX7_readLiteral_38 (by decide) ?_
      refine call_Si (rest := [.ref m0]) (As := [.int ((ltA tf ln t).2.2.2.1), .int 1, .int 6]) (wr := [(a2, AI G 64 df), (m0, OB 7 [.int th, .ref a1, .ref a2, .ref a3, .int (nI ud), .ref a5, .ref a6, .ref a7, .int (nI ln), .int (nI ((ltA tf ln t).1)), .int (nI ((ltA tf ln t).2.1)), .int ((ltA tf ln t).2.2.1), .int ((ltA tf ln t).2.2.2.1), .int ((ltA tf ln t).2.2.2.2), .ref a14, .int rq, .ref a16]), (a7, AI G 120 tf)]) (c1 := 0) (s1 := 0) ⟨hx, hb, hml, hown, hts⟩ (c_X7_in l G ((ltA tf ln t).2.2.2.1) 1 6 ) (va_cwS 3 hts gX7_readLiteral_X7_in rfl rfl rfl (by decide +kernel) ⟨Nat.le_of_ble_eq_true rfl, Nat.le_of_ble_eq_true rfl⟩) hK hN hSS hP hD hS hA [] [0, 1, 2] rfl rfl (by decide) (by decide) (by decide) rfl hl.1 rfl (Nat.le_of_ble_eq_true rfl) dX7_readLiteral_40 ⟨Nat.le_of_ble_eq_true rfl, Nat.le_of_ble_eq_true rfl⟩ rfl rfl (fun r_40 u_40 H locs hpo hP hD hS => ?_)
      obtain ⟨hr9, rfl⟩ := hpo
      subst r_40
      have hP : va_P G.1 vwCl [(a2, AI G 64 df), (m0, OB 7 [.int th, .ref a1, .ref a2, .ref a3, .int (nI ud), .ref a5, .ref a6, .ref a7, .int (nI ln), .int (nI ((ltA tf ln t).1)), .int (nI ((ltA tf ln t).2.1)), .int ((ltA tf ln t).2.2.1), .int ((ltA tf ln t).2.2.2.1), .int ((ltA tf ln t).2.2.2.2), .ref a14, .int rq, .ref a16]), (a7, AI G 120 tf)] H := hP
      have hD : va_D A [(a2, AI G 64 df), (m0, OB 7 [.int th, .ref a1, .ref a2, .ref a3, .int (nI ud), .ref a5, .ref a6, .ref a7, .int (nI ln), .int (nI ((ltA tf ln t).1)), .int (nI ((ltA tf ln t).2.1)), .int ((ltA tf ln t).2.2.1), .int ((ltA tf ln t).2.2.2.1), .int ((ltA tf ln t).2.2.2.2), .ref a14, .int rq, .ref a16]), (a7, AI G 120 tf)] := hD
      refine wb_eq (tgt := 68) hx hb dX7_readLiteral_43 (by decide) (fun c_43 => ?_) (fun c_43 => ?_)
      ·
        have hlb : litB df w (ltA tf ln t) = false := by simp [litB, c_30, c_43]
        refine lv_iconst (v := 0) hx hb dX7_readLiteral_68 (by decide) ?_
        refine W.eq (g2 := F0 m 69 ls [.int (bI (litB df w (ltA tf ln t))), .ref m0]) (by rw [hlb]; rfl) ?_
        refine call_Vi (rest := []) (As := [.int (bI (litB df w (ltA tf ln t)))]) (wr := [(a2, AI G 64 df)]) (c1 := 0) (s1 := 0) ⟨hx, hb, hml, hown, hts⟩ (c_X7_take l G m0 a1 a2 a3 a5 a6 a7 a14 a16 th ud ln rq (ltA tf ln t) tf (litB df w (ltA tf ln t)) (by first | assumption | omega) ((okP_ltA hok).1)) (cwV 1 hts gX7_readLiteral_X7_take rfl rfl rfl (by decide +kernel) ⟨Nat.le_of_ble_eq_true rfl, Nat.le_of_ble_eq_true rfl⟩) hK hN hSS hP hD hS hA 0 7 rfl rfl rfl [1, 2] [0] rfl rfl (by decide) (by decide) (by decide) rfl hl.1 rfl (Nat.le_of_ble_eq_true rfl) dX7_readLiteral_69 ⟨Nat.le_of_ble_eq_true rfl, Nat.le_of_ble_eq_true rfl⟩ rfl rfl (fun r_69 u_69 H locs hpo hP hD hS => ?_)
        obtain ⟨hr9, rfl⟩ := hpo
        subst r_69
        have hP : va_P G.1 vwCl [(a2, AI G 64 df), (m0, OB 7 [.int th, .ref a1, .ref a2, .ref a3, .int (nI ud), .ref a5, .ref a6, .ref a7, .int (nI ln), .int (nI ((tkeM tf ln (litB df w (ltA tf ln t)) (ltA tf ln t)).1)), .int (nI ((tkeM tf ln (litB df w (ltA tf ln t)) (ltA tf ln t)).2.1)), .int ((tkeM tf ln (litB df w (ltA tf ln t)) (ltA tf ln t)).2.2.1), .int ((tkeM tf ln (litB df w (ltA tf ln t)) (ltA tf ln t)).2.2.2.1), .int ((tkeM tf ln (litB df w (ltA tf ln t)) (ltA tf ln t)).2.2.2.2), .ref a14, .int rq, .ref a16]), (a7, AI G 120 tf)] H := hP
        have hD : va_D A [(a2, AI G 64 df), (m0, OB 7 [.int th, .ref a1, .ref a2, .ref a3, .int (nI ud), .ref a5, .ref a6, .ref a7, .int (nI ln), .int (nI ((tkeM tf ln (litB df w (ltA tf ln t)) (ltA tf ln t)).1)), .int (nI ((tkeM tf ln (litB df w (ltA tf ln t)) (ltA tf ln t)).2.1)), .int ((tkeM tf ln (litB df w (ltA tf ln t)) (ltA tf ln t)).2.2.1), .int ((tkeM tf ln (litB df w (ltA tf ln t)) (ltA tf ln t)).2.2.2.1), .int ((tkeM tf ln (litB df w (ltA tf ln t)) (ltA tf ln t)).2.2.2.2), .ref a14, .int rq, .ref a16]), (a7, AI G 120 tf)] := hD
        refine lv_istore_n (lv' := [(3, .int ((ltA tf ln t).2.2.2.1)), (2, .int 1), (0, .ref m0), (1, .int (nI w))]) hx hb dX7_readLiteral_72 rfl hl (by decide) rfl (fun ls hl => ?_)
        have hP : va_P G.1 vwCl [(a2, AI G 64 df), (m0, OB 7 [.int th, .ref a1, .ref a2, .ref a3, .int (nI ud), .ref a5, .ref a6, .ref a7, .int (nI ln), .int (nI ((ltB tf ln w (t, df)).1)), .int (nI ((ltB tf ln w (t, df)).2.1)), .int ((ltB tf ln w (t, df)).2.2.1), .int ((ltB tf ln w (t, df)).2.2.2.1), .int ((ltB tf ln w (t, df)).2.2.2.2), .ref a14, .int rq, .ref a16]), (a7, AI G 120 tf)] H := (hP)
        have hD : va_D A [(a2, AI G 64 df), (m0, OB 7 [.int th, .ref a1, .ref a2, .ref a3, .int (nI ud), .ref a5, .ref a6, .ref a7, .int (nI ln), .int (nI ((ltB tf ln w (t, df)).1)), .int (nI ((ltB tf ln w (t, df)).2.1)), .int ((ltB tf ln w (t, df)).2.2.1), .int ((ltB tf ln w (t, df)).2.2.2.1), .int ((ltB tf ln w (t, df)).2.2.2.2), .ref a14, .int rq, .ref a16]), (a7, AI G 120 tf)] := (hD)
        refine lv_aload_n hx hb dX7_readLiteral_73 rfl (lv_at hl 2 rfl) ?_
        refine call_Vi (rest := []) (As := []) (wr := [(a2, AI G 64 df), (a7, AI G 120 tf)]) (c1 := 0) (s1 := 0) ⟨hx, hb, hml, hown, hts⟩ (c_X7_isFine l G m0 a1 a2 a3 a5 a6 a7 a14 a16 th ud ln ((ltB tf ln w (t, df)).1) ((ltB tf ln w (t, df)).2.1) ((ltB tf ln w (t, df)).2.2.1) ((ltB tf ln w (t, df)).2.2.2.1) ((ltB tf ln w (t, df)).2.2.2.2) rq ) (cwV 0 hts gX7_readLiteral_X7_isFine rfl rfl rfl (by decide +kernel) ⟨Nat.le_of_ble_eq_true rfl, Nat.le_of_ble_eq_true rfl⟩) hK hN hSS hP hD hS hA 0 7 rfl rfl rfl [1] [0, 2] rfl rfl (by decide) (by decide) (by decide) rfl hl.1 rfl (Nat.le_of_ble_eq_true rfl) dX7_readLiteral_74 ⟨Nat.le_of_ble_eq_true rfl, Nat.le_of_ble_eq_true rfl⟩ rfl rfl (fun r_74 u_74 H locs hpo hP hD hS => ?_)
        obtain ⟨hr9, rfl⟩ := hpo
        subst r_74
        have hP : va_P G.1 vwCl [(a2, AI G 64 df), (a7, AI G 120 tf), (m0, OB 7 [.int th, .ref a1, .ref a2, .ref a3, .int (nI ud), .ref a5, .ref a6, .ref a7, .int (nI ln), .int (nI ((ltB tf ln w (t, df)).1)), .int (nI ((ltB tf ln w (t, df)).2.1)), .int ((ltB tf ln w (t, df)).2.2.1), .int ((ltB tf ln w (t, df)).2.2.2.1), .int ((ltB tf ln w (t, df)).2.2.2.2), .ref a14, .int rq, .ref a16])] H := hP
        have hD : va_D A [(a2, AI G 64 df), (a7, AI G 120 tf), (m0, OB 7 [.int th, .ref a1, .ref a2, .ref a3, .int (nI ud), .ref a5, .ref a6, .ref a7, .int (nI ln), .int (nI ((ltB tf ln w (t, df)).1)), .int (nI ((ltB tf ln w (t, df)).2.1)), .int ((ltB tf ln w (t, df)).2.2.1), .int ((ltB tf ln w (t, df)).2.2.2.1), .int ((ltB tf ln w (t, df)).2.2.2.2), .ref a14, .int rq, .ref a16])] := hD
        refine wb_eq (tgt := 116) hx hb dX7_readLiteral_77 (by decide) (fun c_77 => ?_) (fun c_77 => ?_)
        ·
          have c_77 : ¬ (ltB tf ln w (t, df)).2.2.2.2 = -9 := by simpa using c_77
          exact ret _ _ _ _ _ _ _ (Nat.le_of_ble_eq_true rfl) (Nat.le_of_ble_eq_true rfl) (by first | (simp only [litD, if_neg c_77]; done) | (simp only [litD, if_pos c_77, hn1]; done)) (hP.sub (ws' := [(m0, OB 7 [.int th, .ref a1, .ref a2, .ref a3, .int (nI ud), .ref a5, .ref a6, .ref a7, .int (nI ln), .int (nI ((ltB tf ln w (t, df)).1)), .int (nI ((ltB tf ln w (t, df)).2.1)), .int ((ltB tf ln w (t, df)).2.2.1), .int ((ltB tf ln w (t, df)).2.2.2.1), .int ((ltB tf ln w (t, df)).2.2.2.2), .ref a14, .int rq, .ref a16]), (a7, AI G 120 tf), (a2, AI G 64 df)]) [2, 1, 0] rfl) (hD.sub (ws' := [(m0, OB 7 [.int th, .ref a1, .ref a2, .ref a3, .int (nI ud), .ref a5, .ref a6, .ref a7, .int (nI ln), .int (nI ((ltB tf ln w (t, df)).1)), .int (nI ((ltB tf ln w (t, df)).2.1)), .int ((ltB tf ln w (t, df)).2.2.1), .int ((ltB tf ln w (t, df)).2.2.2.1), .int ((ltB tf ln w (t, df)).2.2.2.2), .ref a14, .int rq, .ref a16]), (a7, AI G 120 tf), (a2, AI G 64 df)]) [2, 1, 0] (by decide) rfl) hS dX7_readLiteral_116
        ·
          have c_77 : (ltB tf ln w (t, df)).2.2.2.2 = -9 := by simpa using c_77
          refine lv_aload_n hx hb dX7_readLiteral_80 rfl (lv_at hl 2 rfl) ?_
          refine va_get (D := G.1) (ci := 7) (v := .ref a2) (C := RX7) (T := TX7) (N := 17) hx hb hts hi7 hown hK hP 2 rfl rfl 2 (by decide) (hts (.fieldLink RX7 13 "ConflictEnumeratorModel" "draft" "[I") (List.mem_of_getElem? (i := 3) rfl)) (fun _ h9 => h9) rfl dX7_readLiteral_81 ?_
          refine lv_iload_n hx hb dX7_readLiteral_84 rfl (lv_at hl 3 rfl) ?_
          refine lv_iconst (v := 2) hx hb dX7_readLiteral_85 (by decide) ?_
          refine wn_iadd hx hb (w) (2) rfl rfl dX7_readLiteral_86 ?_
          refine lv_dup2_11 hx hb dX7_readLiteral_87 rfl rfl ?_
          refine wa_iald hx hb hK hP 0 rfl (w + 2) (rfl) (by omega) (by decide) dX7_readLiteral_88 ?_
          refine lv_iconst (v := 1) hx hb dX7_readLiteral_89 (by decide) ?_
          refine lv_iload_n hx hb dX7_readLiteral_90 rfl (lv_at hl 0 rfl) ?_
          refine lv_ishl hx hb dX7_readLiteral_91 ?_
          refine lv_ior hx hb dX7_readLiteral_92 ?_
          refine wa_iast hx hb hK hP hD hS 0 rfl (w + 2) (rfl) (by omega) (by decide) dX7_readLiteral_93 (fun H locs hP hD hS => ?_)
          have hP : va_P G.1 vwCl [(a2, AI G 64 (va_up df (w + 2) ((df (w + 2)) ||| (1 <<< (((ltA tf ln t).2.2.2.1) &&& 31))))), (a7, AI G 120 tf), (m0, OB 7 [.int th, .ref a1, .ref a2, .ref a3, .int (nI ud), .ref a5, .ref a6, .ref a7, .int (nI ln), .int (nI ((ltB tf ln w (t, df)).1)), .int (nI ((ltB tf ln w (t, df)).2.1)), .int ((ltB tf ln w (t, df)).2.2.1), .int ((ltB tf ln w (t, df)).2.2.2.1), .int ((ltB tf ln w (t, df)).2.2.2.2), .ref a14, .int rq, .ref a16])] H := hP
          have hD : va_D A [(a2, AI G 64 (va_up df (w + 2) ((df (w + 2)) ||| (1 <<< (((ltA tf ln t).2.2.2.1) &&& 31))))), (a7, AI G 120 tf), (m0, OB 7 [.int th, .ref a1, .ref a2, .ref a3, .int (nI ud), .ref a5, .ref a6, .ref a7, .int (nI ln), .int (nI ((ltB tf ln w (t, df)).1)), .int (nI ((ltB tf ln w (t, df)).2.1)), .int ((ltB tf ln w (t, df)).2.2.1), .int ((ltB tf ln w (t, df)).2.2.2.1), .int ((ltB tf ln w (t, df)).2.2.2.2), .ref a14, .int rq, .ref a16])] := hD
          refine lv_aload_n hx hb dX7_readLiteral_94 rfl (lv_at hl 2 rfl) ?_
          refine va_get (D := G.1) (ci := 7) (v := .ref a2) (C := RX7) (T := TX7) (N := 17) hx hb hts hi7 hown hK hP 2 rfl rfl 2 (by decide) (hts (.fieldLink RX7 13 "ConflictEnumeratorModel" "draft" "[I") (List.mem_of_getElem? (i := 3) rfl)) (fun _ h9 => h9) rfl dX7_readLiteral_95 ?_
          refine lv_iload_n hx hb dX7_readLiteral_98 rfl (lv_at hl 3 rfl) ?_
          refine lv_iconst (v := 3) hx hb dX7_readLiteral_99 (by decide) ?_
          refine wn_iadd hx hb (w) (3) rfl rfl dX7_readLiteral_100 ?_
          refine lv_dup2_11 hx hb dX7_readLiteral_101 rfl rfl ?_
          refine wa_iald hx hb hK hP 0 rfl (w + 3) (rfl) (by omega) (by decide) dX7_readLiteral_102 ?_
          rw [show (va_up df (w + 2) ((df (w + 2)) ||| (1 <<< (((ltA tf ln t).2.2.2.1) &&& 31)))) (w + 3) = df (w + 3) from by simp [va_up]]
          refine lv_iload_n hx hb dX7_readLiteral_103 rfl (lv_at hl 1 rfl) ?_
          refine lv_if_eq (tgt := 113) hx hb dX7_readLiteral_104 (by decide) (fun c_104 => absurd c_104 (by decide)) (fun c_104 => ?_)
          refine lv_iconst (v := 1) hx hb dX7_readLiteral_107 (by decide) ?_
          refine lv_iload_n hx hb dX7_readLiteral_108 rfl (lv_at hl 0 rfl) ?_
          refine lv_ishl hx hb dX7_readLiteral_109 ?_
          refine lv_goto (tgt := 114) hx hb dX7_readLiteral_110 (by decide) ?_
          refine lv_ior hx hb dX7_readLiteral_114 ?_
          refine wa_iast hx hb hK hP hD hS 0 rfl (w + 3) (rfl) (by omega) (by decide) dX7_readLiteral_115 (fun H locs hP hD hS => ?_)
          have hP : va_P G.1 vwCl [(a2, AI G 64 (va_up (va_up df (w + 2) ((df (w + 2)) ||| (1 <<< (((ltA tf ln t).2.2.2.1) &&& 31)))) (w + 3) ((df (w + 3)) ||| (1 <<< (((ltA tf ln t).2.2.2.1) &&& 31))))), (a7, AI G 120 tf), (m0, OB 7 [.int th, .ref a1, .ref a2, .ref a3, .int (nI ud), .ref a5, .ref a6, .ref a7, .int (nI ln), .int (nI ((ltB tf ln w (t, df)).1)), .int (nI ((ltB tf ln w (t, df)).2.1)), .int ((ltB tf ln w (t, df)).2.2.1), .int ((ltB tf ln w (t, df)).2.2.2.1), .int ((ltB tf ln w (t, df)).2.2.2.2), .ref a14, .int rq, .ref a16])] H := hP
          have hD : va_D A [(a2, AI G 64 (va_up (va_up df (w + 2) ((df (w + 2)) ||| (1 <<< (((ltA tf ln t).2.2.2.1) &&& 31)))) (w + 3) ((df (w + 3)) ||| (1 <<< (((ltA tf ln t).2.2.2.1) &&& 31))))), (a7, AI G 120 tf), (m0, OB 7 [.int th, .ref a1, .ref a2, .ref a3, .int (nI ud), .ref a5, .ref a6, .ref a7, .int (nI ln), .int (nI ((ltB tf ln w (t, df)).1)), .int (nI ((ltB tf ln w (t, df)).2.1)), .int ((ltB tf ln w (t, df)).2.2.1), .int ((ltB tf ln w (t, df)).2.2.2.1), .int ((ltB tf ln w (t, df)).2.2.2.2), .ref a14, .int rq, .ref a16])] := hD
          exact ret _ _ _ _ _ _ _ (Nat.le_of_ble_eq_true rfl) (Nat.le_of_ble_eq_true rfl) (by first | (simp only [litD, if_neg c_77]; done) | (simp only [litD, if_pos c_77, hn1]; done)) (hP.sub (ws' := [(m0, OB 7 [.int th, .ref a1, .ref a2, .ref a3, .int (nI ud), .ref a5, .ref a6, .ref a7, .int (nI ln), .int (nI ((ltB tf ln w (t, df)).1)), .int (nI ((ltB tf ln w (t, df)).2.1)), .int ((ltB tf ln w (t, df)).2.2.1), .int ((ltB tf ln w (t, df)).2.2.2.1), .int ((ltB tf ln w (t, df)).2.2.2.2), .ref a14, .int rq, .ref a16]), (a7, AI G 120 tf), (a2, AI G 64 (va_up (va_up df (w + 2) ((df (w + 2)) ||| (1 <<< (((ltA tf ln t).2.2.2.1) &&& 31)))) (w + 3) ((df (w + 3)) ||| (1 <<< (((ltA tf ln t).2.2.2.1) &&& 31)))))]) [2, 1, 0] rfl) (hD.sub (ws' := [(m0, OB 7 [.int th, .ref a1, .ref a2, .ref a3, .int (nI ud), .ref a5, .ref a6, .ref a7, .int (nI ln), .int (nI ((ltB tf ln w (t, df)).1)), .int (nI ((ltB tf ln w (t, df)).2.1)), .int ((ltB tf ln w (t, df)).2.2.1), .int ((ltB tf ln w (t, df)).2.2.2.1), .int ((ltB tf ln w (t, df)).2.2.2.2), .ref a14, .int rq, .ref a16]), (a7, AI G 120 tf), (a2, AI G 64 (va_up (va_up df (w + 2) ((df (w + 2)) ||| (1 <<< (((ltA tf ln t).2.2.2.1) &&& 31)))) (w + 3) ((df (w + 3)) ||| (1 <<< (((ltA tf ln t).2.2.2.1) &&& 31)))))]) [2, 1, 0] (by decide) rfl) hS dX7_readLiteral_116
      ·
        refine lv_aload_n hx hb dX7_readLiteral_46 rfl (lv_at hl 1 rfl) ?_
        refine va_get (D := G.1) (ci := 7) (v := .ref a2) (C := RX7) (T := TX7) (N := 17) hx hb hts hi7 hown hK hP 1 rfl rfl 2 (by decide) (hts (.fieldLink RX7 13 "ConflictEnumeratorModel" "draft" "[I") (List.mem_of_getElem? (i := 3) rfl)) (fun _ h9 => h9) rfl dX7_readLiteral_47 ?_
        refine lv_iload_n hx hb dX7_readLiteral_50 rfl (lv_at hl 2 rfl) ?_
        refine lv_iconst (v := 2) hx hb dX7_readLiteral_51 (by decide) ?_
        refine wn_iadd hx hb (w) (2) rfl rfl dX7_readLiteral_52 ?_
        refine wa_iald hx hb hK hP 0 rfl (w + 2) (rfl) (by omega) (by decide) dX7_readLiteral_53 ?_
        refine lv_aload_n hx hb dX7_readLiteral_54 rfl (lv_at hl 1 rfl) ?_
        refine va_get (D := G.1) (ci := 7) (v := .int ((ltA tf ln t).2.2.2.1)) (C := RX7) (T := TX7) (N := 17) hx hb hts hi7 hown hK hP 1 rfl rfl 12 (by decide) (hts (.fieldLink RX7 67 "ConflictEnumeratorModel" "value" "I") (List.mem_of_getElem? (i := 2) rfl)) (fun _ h9 => h9) rfl dX7_readLiteral_55 ?_
        refine call_Si (rest := [.ref m0]) (As := [.int (df (w + 2)), .int ((ltA tf ln t).2.2.2.1)]) (wr := [(a2, AI G 64 df), (m0, OB 7 [.int th, .ref a1, .ref a2, .ref a3, .int (nI ud), .ref a5, .ref a6, .ref a7, .int (nI ln), .int (nI ((ltA tf ln t).1)), .int (nI ((ltA tf ln t).2.1)), .int ((ltA tf ln t).2.2.1), .int ((ltA tf ln t).2.2.2.1), .int ((ltA tf ln t).2.2.2.2), .ref a14, .int rq, .ref a16]), (a7, AI G 120 tf)]) (c1 := 0) (s1 := 0) ⟨hx, hb, hml, hown, hts⟩ (c_X7_has l G (df (w + 2)) ((ltA tf ln t).2.2.2.1) ) (va_cwS 2 hts gX7_readLiteral_X7_has rfl rfl rfl (by decide +kernel) ⟨Nat.le_of_ble_eq_true rfl, Nat.le_of_ble_eq_true rfl⟩) hK hN hSS hP hD hS hA [] [0, 1, 2] rfl rfl (by decide) (by decide) (by decide) rfl hl.1 rfl (Nat.le_of_ble_eq_true rfl) dX7_readLiteral_58 ⟨Nat.le_of_ble_eq_true rfl, Nat.le_of_ble_eq_true rfl⟩ rfl rfl (fun r_58 u_58 H locs hpo hP hD hS => ?_)
        obtain ⟨hr9, rfl⟩ := hpo
        subst r_58
        have hP : va_P G.1 vwCl [(a2, AI G 64 df), (m0, OB 7 [.int th, .ref a1, .ref a2, .ref a3, .int (nI ud), .ref a5, .ref a6, .ref a7, .int (nI ln), .int (nI ((ltA tf ln t).1)), .int (nI ((ltA tf ln t).2.1)), .int ((ltA tf ln t).2.2.1), .int ((ltA tf ln t).2.2.2.1), .int ((ltA tf ln t).2.2.2.2), .ref a14, .int rq, .ref a16]), (a7, AI G 120 tf)] H := hP
        have hD : va_D A [(a2, AI G 64 df), (m0, OB 7 [.int th, .ref a1, .ref a2, .ref a3, .int (nI ud), .ref a5, .ref a6, .ref a7, .int (nI ln), .int (nI ((ltA tf ln t).1)), .int (nI ((ltA tf ln t).2.1)), .int ((ltA tf ln t).2.2.1), .int ((ltA tf ln t).2.2.2.1), .int ((ltA tf ln t).2.2.2.2), .ref a14, .int rq, .ref a16]), (a7, AI G 120 tf)] := hD
        refine wb_ne (tgt := 68) hx hb dX7_readLiteral_61 (by decide) (fun c_61 => ?_) (fun c_61 => ?_)
        ·
          have hlb : litB df w (ltA tf ln t) = false := by simp [litB, c_30, c_43, c_61]
          refine lv_iconst (v := 0) hx hb dX7_readLiteral_68 (by decide) ?_
          refine W.eq (g2 := F0 m 69 ls [.int (bI (litB df w (ltA tf ln t))), .ref m0]) (by rw [hlb]; rfl) ?_
          refine call_Vi (rest := []) (As := [.int (bI (litB df w (ltA tf ln t)))]) (wr := [(a2, AI G 64 df)]) (c1 := 0) (s1 := 0) ⟨hx, hb, hml, hown, hts⟩ (c_X7_take l G m0 a1 a2 a3 a5 a6 a7 a14 a16 th ud ln rq (ltA tf ln t) tf (litB df w (ltA tf ln t)) (by first | assumption | omega) ((okP_ltA hok).1)) (cwV 1 hts gX7_readLiteral_X7_take rfl rfl rfl (by decide +kernel) ⟨Nat.le_of_ble_eq_true rfl, Nat.le_of_ble_eq_true rfl⟩) hK hN hSS hP hD hS hA 0 7 rfl rfl rfl [1, 2] [0] rfl rfl (by decide) (by decide) (by decide) rfl hl.1 rfl (Nat.le_of_ble_eq_true rfl) dX7_readLiteral_69 ⟨Nat.le_of_ble_eq_true rfl, Nat.le_of_ble_eq_true rfl⟩ rfl rfl (fun r_69 u_69 H locs hpo hP hD hS => ?_)
          obtain ⟨hr9, rfl⟩ := hpo
          subst r_69
          have hP : va_P G.1 vwCl [(a2, AI G 64 df), (m0, OB 7 [.int th, .ref a1, .ref a2, .ref a3, .int (nI ud), .ref a5, .ref a6, .ref a7, .int (nI ln), .int (nI ((tkeM tf ln (litB df w (ltA tf ln t)) (ltA tf ln t)).1)), .int (nI ((tkeM tf ln (litB df w (ltA tf ln t)) (ltA tf ln t)).2.1)), .int ((tkeM tf ln (litB df w (ltA tf ln t)) (ltA tf ln t)).2.2.1), .int ((tkeM tf ln (litB df w (ltA tf ln t)) (ltA tf ln t)).2.2.2.1), .int ((tkeM tf ln (litB df w (ltA tf ln t)) (ltA tf ln t)).2.2.2.2), .ref a14, .int rq, .ref a16]), (a7, AI G 120 tf)] H := hP
          have hD : va_D A [(a2, AI G 64 df), (m0, OB 7 [.int th, .ref a1, .ref a2, .ref a3, .int (nI ud), .ref a5, .ref a6, .ref a7, .int (nI ln), .int (nI ((tkeM tf ln (litB df w (ltA tf ln t)) (ltA tf ln t)).1)), .int (nI ((tkeM tf ln (litB df w (ltA tf ln t)) (ltA tf ln t)).2.1)), .int ((tkeM tf ln (litB df w (ltA tf ln t)) (ltA tf ln t)).2.2.1), .int ((tkeM tf ln (litB df w (ltA tf ln t)) (ltA tf ln t)).2.2.2.1), .int ((tkeM tf ln (litB df w (ltA tf ln t)) (ltA tf ln t)).2.2.2.2), .ref a14, .int rq, .ref a16]), (a7, AI G 120 tf)] := hD
          refine lv_istore_n (lv' := [(3, .int ((ltA tf ln t).2.2.2.1)), (2, .int 1), (0, .ref m0), (1, .int (nI w))]) hx hb dX7_readLiteral_72 rfl hl (by decide) rfl (fun ls hl => ?_)
          have hP : va_P G.1 vwCl [(a2, AI G 64 df), (m0, OB 7 [.int th, .ref a1, .ref a2, .ref a3, .int (nI ud), .ref a5, .ref a6, .ref a7, .int (nI ln), .int (nI ((ltB tf ln w (t, df)).1)), .int (nI ((ltB tf ln w (t, df)).2.1)), .int ((ltB tf ln w (t, df)).2.2.1), .int ((ltB tf ln w (t, df)).2.2.2.1), .int ((ltB tf ln w (t, df)).2.2.2.2), .ref a14, .int rq, .ref a16]), (a7, AI G 120 tf)] H := (hP)
          have hD : va_D A [(a2, AI G 64 df), (m0, OB 7 [.int th, .ref a1, .ref a2, .ref a3, .int (nI ud), .ref a5, .ref a6, .ref a7, .int (nI ln), .int (nI ((ltB tf ln w (t, df)).1)), .int (nI ((ltB tf ln w (t, df)).2.1)), .int ((ltB tf ln w (t, df)).2.2.1), .int ((ltB tf ln w (t, df)).2.2.2.1), .int ((ltB tf ln w (t, df)).2.2.2.2), .ref a14, .int rq, .ref a16]), (a7, AI G 120 tf)] := (hD)
          refine lv_aload_n hx hb dX7_readLiteral_73 rfl (lv_at hl 2 rfl) ?_
          refine call_Vi (rest := []) (As := []) (wr := [(a2, AI G 64 df), (a7, AI G 120 tf)]) (c1 := 0) (s1 := 0) ⟨hx, hb, hml, hown, hts⟩ (c_X7_isFine l G m0 a1 a2 a3 a5 a6 a7 a14 a16 th ud ln ((ltB tf ln w (t, df)).1) ((ltB tf ln w (t, df)).2.1) ((ltB tf ln w (t, df)).2.2.1) ((ltB tf ln w (t, df)).2.2.2.1) ((ltB tf ln w (t, df)).2.2.2.2) rq ) (cwV 0 hts gX7_readLiteral_X7_isFine rfl rfl rfl (by decide +kernel) ⟨Nat.le_of_ble_eq_true rfl, Nat.le_of_ble_eq_true rfl⟩) hK hN hSS hP hD hS hA 0 7 rfl rfl rfl [1] [0, 2] rfl rfl (by decide) (by decide) (by decide) rfl hl.1 rfl (Nat.le_of_ble_eq_true rfl) dX7_readLiteral_74 ⟨Nat.le_of_ble_eq_true rfl, Nat.le_of_ble_eq_true rfl⟩ rfl rfl (fun r_74 u_74 H locs hpo hP hD hS => ?_)
          obtain ⟨hr9, rfl⟩ := hpo
          subst r_74
          have hP : va_P G.1 vwCl [(a2, AI G 64 df), (a7, AI G 120 tf), (m0, OB 7 [.int th, .ref a1, .ref a2, .ref a3, .int (nI ud), .ref a5, .ref a6, .ref a7, .int (nI ln), .int (nI ((ltB tf ln w (t, df)).1)), .int (nI ((ltB tf ln w (t, df)).2.1)), .int ((ltB tf ln w (t, df)).2.2.1), .int ((ltB tf ln w (t, df)).2.2.2.1), .int ((ltB tf ln w (t, df)).2.2.2.2), .ref a14, .int rq, .ref a16])] H := hP
          have hD : va_D A [(a2, AI G 64 df), (a7, AI G 120 tf), (m0, OB 7 [.int th, .ref a1, .ref a2, .ref a3, .int (nI ud), .ref a5, .ref a6, .ref a7, .int (nI ln), .int (nI ((ltB tf ln w (t, df)).1)), .int (nI ((ltB tf ln w (t, df)).2.1)), .int ((ltB tf ln w (t, df)).2.2.1), .int ((ltB tf ln w (t, df)).2.2.2.1), .int ((ltB tf ln w (t, df)).2.2.2.2), .ref a14, .int rq, .ref a16])] := hD
          refine wb_eq (tgt := 116) hx hb dX7_readLiteral_77 (by decide) (fun c_77 => ?_) (fun c_77 => ?_)
          ·
            have c_77 : ¬ (ltB tf ln w (t, df)).2.2.2.2 = -9 := by simpa using c_77
            exact ret _ _ _ _ _ _ _ (Nat.le_of_ble_eq_true rfl) (Nat.le_of_ble_eq_true rfl) (by first | (simp only [litD, if_neg c_77]; done) | (simp only [litD, if_pos c_77, hn1]; done)) (hP.sub (ws' := [(m0, OB 7 [.int th, .ref a1, .ref a2, .ref a3, .int (nI ud), .ref a5, .ref a6, .ref a7, .int (nI ln), .int (nI ((ltB tf ln w (t, df)).1)), .int (nI ((ltB tf ln w (t, df)).2.1)), .int ((ltB tf ln w (t, df)).2.2.1), .int ((ltB tf ln w (t, df)).2.2.2.1), .int ((ltB tf ln w (t, df)).2.2.2.2), .ref a14, .int rq, .ref a16]), (a7, AI G 120 tf), (a2, AI G 64 df)]) [2, 1, 0] rfl) (hD.sub (ws' := [(m0, OB 7 [.int th, .ref a1, .ref a2, .ref a3, .int (nI ud), .ref a5, .ref a6, .ref a7, .int (nI ln), .int (nI ((ltB tf ln w (t, df)).1)), .int (nI ((ltB tf ln w (t, df)).2.1)), .int ((ltB tf ln w (t, df)).2.2.1), .int ((ltB tf ln w (t, df)).2.2.2.1), .int ((ltB tf ln w (t, df)).2.2.2.2), .ref a14, .int rq, .ref a16]), (a7, AI G 120 tf), (a2, AI G 64 df)]) [2, 1, 0] (by decide) rfl) hS dX7_readLiteral_116
          ·
            have c_77 : (ltB tf ln w (t, df)).2.2.2.2 = -9 := by simpa using c_77
            refine lv_aload_n hx hb dX7_readLiteral_80 rfl (lv_at hl 2 rfl) ?_
            refine va_get (D := G.1) (ci := 7) (v := .ref a2) (C := RX7) (T := TX7) (N := 17) hx hb hts hi7 hown hK hP 2 rfl rfl 2 (by decide) (hts (.fieldLink RX7 13 "ConflictEnumeratorModel" "draft" "[I") (List.mem_of_getElem? (i := 3) rfl)) (fun _ h9 => h9) rfl dX7_readLiteral_81 ?_
            refine lv_iload_n hx hb dX7_readLiteral_84 rfl (lv_at hl 3 rfl) ?_
            refine lv_iconst (v := 2) hx hb dX7_readLiteral_85 (by decide) ?_
            refine wn_iadd hx hb (w) (2) rfl rfl dX7_readLiteral_86 ?_
            refine lv_dup2_11 hx hb dX7_readLiteral_87 rfl rfl ?_
            refine wa_iald hx hb hK hP 0 rfl (w + 2) (rfl) (by omega) (by decide) dX7_readLiteral_88 ?_
            refine lv_iconst (v := 1) hx hb dX7_readLiteral_89 (by decide) ?_
            refine lv_iload_n hx hb dX7_readLiteral_90 rfl (lv_at hl 0 rfl) ?_
            refine lv_ishl hx hb dX7_readLiteral_91 ?_
            refine lv_ior hx hb dX7_readLiteral_92 ?_
            refine wa_iast hx hb hK hP hD hS 0 rfl (w + 2) (rfl) (by omega) (by decide) dX7_readLiteral_93 (fun H locs hP hD hS => ?_)
            have hP : va_P G.1 vwCl [(a2, AI G 64 (va_up df (w + 2) ((df (w + 2)) ||| (1 <<< (((ltA tf ln t).2.2.2.1) &&& 31))))), (a7, AI G 120 tf), (m0, OB 7 [.int th, .ref a1, .ref a2, .ref a3, .int (nI ud), .ref a5, .ref a6, .ref a7, .int (nI ln), .int (nI ((ltB tf ln w (t, df)).1)), .int (nI ((ltB tf ln w (t, df)).2.1)), .int ((ltB tf ln w (t, df)).2.2.1), .int ((ltB tf ln w (t, df)).2.2.2.1), .int ((ltB tf ln w (t, df)).2.2.2.2), .ref a14, .int rq, .ref a16])] H := hP
            have hD : va_D A [(a2, AI G 64 (va_up df (w + 2) ((df (w + 2)) ||| (1 <<< (((ltA tf ln t).2.2.2.1) &&& 31))))), (a7, AI G 120 tf), (m0, OB 7 [.int th, .ref a1, .ref a2, .ref a3, .int (nI ud), .ref a5, .ref a6, .ref a7, .int (nI ln), .int (nI ((ltB tf ln w (t, df)).1)), .int (nI ((ltB tf ln w (t, df)).2.1)), .int ((ltB tf ln w (t, df)).2.2.1), .int ((ltB tf ln w (t, df)).2.2.2.1), .int ((ltB tf ln w (t, df)).2.2.2.2), .ref a14, .int rq, .ref a16])] := hD
            refine lv_aload_n hx hb dX7_readLiteral_94 rfl (lv_at hl 2 rfl) ?_
            refine va_get (D := G.1) (ci := 7) (v := .ref a2) (C := RX7) (T := TX7) (N := 17) hx hb hts hi7 hown hK hP 2 rfl rfl 2 (by decide) (hts (.fieldLink RX7 13 "ConflictEnumeratorModel" "draft" "[I") (List.mem_of_getElem? (i := 3) rfl)) (fun _ h9 => h9) rfl dX7_readLiteral_95 ?_
            refine lv_iload_n hx hb dX7_readLiteral_98 rfl (lv_at hl 3 rfl) ?_
            refine lv_iconst (v := 3) hx hb dX7_readLiteral_99 (by decide) ?_
            refine wn_iadd hx hb (w) (3) rfl rfl dX7_readLiteral_100 ?_
            refine lv_dup2_11 hx hb dX7_readLiteral_101 rfl rfl ?_
            refine wa_iald hx hb hK hP 0 rfl (w + 3) (rfl) (by omega) (by decide) dX7_readLiteral_102 ?_
            rw [show (va_up df (w + 2) ((df (w + 2)) ||| (1 <<< (((ltA tf ln t).2.2.2.1) &&& 31)))) (w + 3) = df (w + 3) from by simp [va_up]]
            refine lv_iload_n hx hb dX7_readLiteral_103 rfl (lv_at hl 1 rfl) ?_
            refine lv_if_eq (tgt := 113) hx hb dX7_readLiteral_104 (by decide) (fun c_104 => absurd c_104 (by decide)) (fun c_104 => ?_)
            refine lv_iconst (v := 1) hx hb dX7_readLiteral_107 (by decide) ?_
            refine lv_iload_n hx hb dX7_readLiteral_108 rfl (lv_at hl 0 rfl) ?_
            refine lv_ishl hx hb dX7_readLiteral_109 ?_
            refine lv_goto (tgt := 114) hx hb dX7_readLiteral_110 (by decide) ?_
            refine lv_ior hx hb dX7_readLiteral_114 ?_
            refine wa_iast hx hb hK hP hD hS 0 rfl (w + 3) (rfl) (by omega) (by decide) dX7_readLiteral_115 (fun H locs hP hD hS => ?_)
            have hP : va_P G.1 vwCl [(a2, AI G 64 (va_up (va_up df (w + 2) ((df (w + 2)) ||| (1 <<< (((ltA tf ln t).2.2.2.1) &&& 31)))) (w + 3) ((df (w + 3)) ||| (1 <<< (((ltA tf ln t).2.2.2.1) &&& 31))))), (a7, AI G 120 tf), (m0, OB 7 [.int th, .ref a1, .ref a2, .ref a3, .int (nI ud), .ref a5, .ref a6, .ref a7, .int (nI ln), .int (nI ((ltB tf ln w (t, df)).1)), .int (nI ((ltB tf ln w (t, df)).2.1)), .int ((ltB tf ln w (t, df)).2.2.1), .int ((ltB tf ln w (t, df)).2.2.2.1), .int ((ltB tf ln w (t, df)).2.2.2.2), .ref a14, .int rq, .ref a16])] H := hP
            have hD : va_D A [(a2, AI G 64 (va_up (va_up df (w + 2) ((df (w + 2)) ||| (1 <<< (((ltA tf ln t).2.2.2.1) &&& 31)))) (w + 3) ((df (w + 3)) ||| (1 <<< (((ltA tf ln t).2.2.2.1) &&& 31))))), (a7, AI G 120 tf), (m0, OB 7 [.int th, .ref a1, .ref a2, .ref a3, .int (nI ud), .ref a5, .ref a6, .ref a7, .int (nI ln), .int (nI ((ltB tf ln w (t, df)).1)), .int (nI ((ltB tf ln w (t, df)).2.1)), .int ((ltB tf ln w (t, df)).2.2.1), .int ((ltB tf ln w (t, df)).2.2.2.1), .int ((ltB tf ln w (t, df)).2.2.2.2), .ref a14, .int rq, .ref a16])] := hD
            exact ret _ _ _ _ _ _ _ (Nat.le_of_ble_eq_true rfl) (Nat.le_of_ble_eq_true rfl) (by first | (simp only [litD, if_neg c_77]; done) | (simp only [litD, if_pos c_77, hn1]; done)) (hP.sub (ws' := [(m0, OB 7 [.int th, .ref a1, .ref a2, .ref a3, .int (nI ud), .ref a5, .ref a6, .ref a7, .int (nI ln), .int (nI ((ltB tf ln w (t, df)).1)), .int (nI ((ltB tf ln w (t, df)).2.1)), .int ((ltB tf ln w (t, df)).2.2.1), .int ((ltB tf ln w (t, df)).2.2.2.1), .int ((ltB tf ln w (t, df)).2.2.2.2), .ref a14, .int rq, .ref a16]), (a7, AI G 120 tf), (a2, AI G 64 (va_up (va_up df (w + 2) ((df (w + 2)) ||| (1 <<< (((ltA tf ln t).2.2.2.1) &&& 31)))) (w + 3) ((df (w + 3)) ||| (1 <<< (((ltA tf ln t).2.2.2.1) &&& 31)))))]) [2, 1, 0] rfl) (hD.sub (ws' := [(m0, OB 7 [.int th, .ref a1, .ref a2, .ref a3, .int (nI ud), .ref a5, .ref a6, .ref a7, .int (nI ln), .int (nI ((ltB tf ln w (t, df)).1)), .int (nI ((ltB tf ln w (t, df)).2.1)), .int ((ltB tf ln w (t, df)).2.2.1), .int ((ltB tf ln w (t, df)).2.2.2.1), .int ((ltB tf ln w (t, df)).2.2.2.2), .ref a14, .int rq, .ref a16]), (a7, AI G 120 tf), (a2, AI G 64 (va_up (va_up df (w + 2) ((df (w + 2)) ||| (1 <<< (((ltA tf ln t).2.2.2.1) &&& 31)))) (w + 3) ((df (w + 3)) ||| (1 <<< (((ltA tf ln t).2.2.2.1) &&& 31)))))]) [2, 1, 0] (by decide) rfl) hS dX7_readLiteral_116
        ·
          have hlb : litB df w (ltA tf ln t) = true := by simp [litB, c_30, c_43, c_61]
          refine lv_iconst (v := 1) hx hb dX7_readLiteral_64 (by decide) ?_
          refine lv_goto (tgt := 69) hx hb dX7_readLiteral_65 (by decide) ?_
          refine W.eq (g2 := F0 m 69 ls [.int (bI (litB df w (ltA tf ln t))), .ref m0]) (by rw [hlb]; rfl) ?_
          refine call_Vi (rest := []) (As := [.int (bI (litB df w (ltA tf ln t)))]) (wr := [(a2, AI G 64 df)]) (c1 := 0) (s1 := 0) ⟨hx, hb, hml, hown, hts⟩ (c_X7_take l G m0 a1 a2 a3 a5 a6 a7 a14 a16 th ud ln rq (ltA tf ln t) tf (litB df w (ltA tf ln t)) (by first | assumption | omega) ((okP_ltA hok).1)) (cwV 1 hts gX7_readLiteral_X7_take rfl rfl rfl (by decide +kernel) ⟨Nat.le_of_ble_eq_true rfl, Nat.le_of_ble_eq_true rfl⟩) hK hN hSS hP hD hS hA 0 7 rfl rfl rfl [1, 2] [0] rfl rfl (by decide) (by decide) (by decide) rfl hl.1 rfl (Nat.le_of_ble_eq_true rfl) dX7_readLiteral_69 ⟨Nat.le_of_ble_eq_true rfl, Nat.le_of_ble_eq_true rfl⟩ rfl rfl (fun r_69 u_69 H locs hpo hP hD hS => ?_)
          obtain ⟨hr9, rfl⟩ := hpo
          subst r_69
          have hP : va_P G.1 vwCl [(a2, AI G 64 df), (m0, OB 7 [.int th, .ref a1, .ref a2, .ref a3, .int (nI ud), .ref a5, .ref a6, .ref a7, .int (nI ln), .int (nI ((tkeM tf ln (litB df w (ltA tf ln t)) (ltA tf ln t)).1)), .int (nI ((tkeM tf ln (litB df w (ltA tf ln t)) (ltA tf ln t)).2.1)), .int ((tkeM tf ln (litB df w (ltA tf ln t)) (ltA tf ln t)).2.2.1), .int ((tkeM tf ln (litB df w (ltA tf ln t)) (ltA tf ln t)).2.2.2.1), .int ((tkeM tf ln (litB df w (ltA tf ln t)) (ltA tf ln t)).2.2.2.2), .ref a14, .int rq, .ref a16]), (a7, AI G 120 tf)] H := hP
          have hD : va_D A [(a2, AI G 64 df), (m0, OB 7 [.int th, .ref a1, .ref a2, .ref a3, .int (nI ud), .ref a5, .ref a6, .ref a7, .int (nI ln), .int (nI ((tkeM tf ln (litB df w (ltA tf ln t)) (ltA tf ln t)).1)), .int (nI ((tkeM tf ln (litB df w (ltA tf ln t)) (ltA tf ln t)).2.1)), .int ((tkeM tf ln (litB df w (ltA tf ln t)) (ltA tf ln t)).2.2.1), .int ((tkeM tf ln (litB df w (ltA tf ln t)) (ltA tf ln t)).2.2.2.1), .int ((tkeM tf ln (litB df w (ltA tf ln t)) (ltA tf ln t)).2.2.2.2), .ref a14, .int rq, .ref a16]), (a7, AI G 120 tf)] := hD
          refine lv_istore_n (lv' := [(3, .int ((ltA tf ln t).2.2.2.1)), (2, .int 1), (0, .ref m0), (1, .int (nI w))]) hx hb dX7_readLiteral_72 rfl hl (by decide) rfl (fun ls hl => ?_)
          have hP : va_P G.1 vwCl [(a2, AI G 64 df), (m0, OB 7 [.int th, .ref a1, .ref a2, .ref a3, .int (nI ud), .ref a5, .ref a6, .ref a7, .int (nI ln), .int (nI ((ltB tf ln w (t, df)).1)), .int (nI ((ltB tf ln w (t, df)).2.1)), .int ((ltB tf ln w (t, df)).2.2.1), .int ((ltB tf ln w (t, df)).2.2.2.1), .int ((ltB tf ln w (t, df)).2.2.2.2), .ref a14, .int rq, .ref a16]), (a7, AI G 120 tf)] H := (hP)
          have hD : va_D A [(a2, AI G 64 df), (m0, OB 7 [.int th, .ref a1, .ref a2, .ref a3, .int (nI ud), .ref a5, .ref a6, .ref a7, .int (nI ln), .int (nI ((ltB tf ln w (t, df)).1)), .int (nI ((ltB tf ln w (t, df)).2.1)), .int ((ltB tf ln w (t, df)).2.2.1), .int ((ltB tf ln w (t, df)).2.2.2.1), .int ((ltB tf ln w (t, df)).2.2.2.2), .ref a14, .int rq, .ref a16]), (a7, AI G 120 tf)] := (hD)
          refine lv_aload_n hx hb dX7_readLiteral_73 rfl (lv_at hl 2 rfl) ?_
          refine call_Vi (rest := []) (As := []) (wr := [(a2, AI G 64 df), (a7, AI G 120 tf)]) (c1 := 0) (s1 := 0) ⟨hx, hb, hml, hown, hts⟩ (c_X7_isFine l G m0 a1 a2 a3 a5 a6 a7 a14 a16 th ud ln ((ltB tf ln w (t, df)).1) ((ltB tf ln w (t, df)).2.1) ((ltB tf ln w (t, df)).2.2.1) ((ltB tf ln w (t, df)).2.2.2.1) ((ltB tf ln w (t, df)).2.2.2.2) rq ) (cwV 0 hts gX7_readLiteral_X7_isFine rfl rfl rfl (by decide +kernel) ⟨Nat.le_of_ble_eq_true rfl, Nat.le_of_ble_eq_true rfl⟩) hK hN hSS hP hD hS hA 0 7 rfl rfl rfl [1] [0, 2] rfl rfl (by decide) (by decide) (by decide) rfl hl.1 rfl (Nat.le_of_ble_eq_true rfl) dX7_readLiteral_74 ⟨Nat.le_of_ble_eq_true rfl, Nat.le_of_ble_eq_true rfl⟩ rfl rfl (fun r_74 u_74 H locs hpo hP hD hS => ?_)
          obtain ⟨hr9, rfl⟩ := hpo
          subst r_74
          have hP : va_P G.1 vwCl [(a2, AI G 64 df), (a7, AI G 120 tf), (m0, OB 7 [.int th, .ref a1, .ref a2, .ref a3, .int (nI ud), .ref a5, .ref a6, .ref a7, .int (nI ln), .int (nI ((ltB tf ln w (t, df)).1)), .int (nI ((ltB tf ln w (t, df)).2.1)), .int ((ltB tf ln w (t, df)).2.2.1), .int ((ltB tf ln w (t, df)).2.2.2.1), .int ((ltB tf ln w (t, df)).2.2.2.2), .ref a14, .int rq, .ref a16])] H := hP
          have hD : va_D A [(a2, AI G 64 df), (a7, AI G 120 tf), (m0, OB 7 [.int th, .ref a1, .ref a2, .ref a3, .int (nI ud), .ref a5, .ref a6, .ref a7, .int (nI ln), .int (nI ((ltB tf ln w (t, df)).1)), .int (nI ((ltB tf ln w (t, df)).2.1)), .int ((ltB tf ln w (t, df)).2.2.1), .int ((ltB tf ln w (t, df)).2.2.2.1), .int ((ltB tf ln w (t, df)).2.2.2.2), .ref a14, .int rq, .ref a16])] := hD
          refine wb_eq (tgt := 116) hx hb dX7_readLiteral_77 (by decide) (fun c_77 => ?_) (fun c_77 => ?_)
          ·
            have c_77 : ¬ (ltB tf ln w (t, df)).2.2.2.2 = -9 := by simpa using c_77
            exact ret _ _ _ _ _ _ _ (Nat.le_of_ble_eq_true rfl) (Nat.le_of_ble_eq_true rfl) (by first | (simp only [litD, if_neg c_77]; done) | (simp only [litD, if_pos c_77, hn1]; done)) (hP.sub (ws' := [(m0, OB 7 [.int th, .ref a1, .ref a2, .ref a3, .int (nI ud), .ref a5, .ref a6, .ref a7, .int (nI ln), .int (nI ((ltB tf ln w (t, df)).1)), .int (nI ((ltB tf ln w (t, df)).2.1)), .int ((ltB tf ln w (t, df)).2.2.1), .int ((ltB tf ln w (t, df)).2.2.2.1), .int ((ltB tf ln w (t, df)).2.2.2.2), .ref a14, .int rq, .ref a16]), (a7, AI G 120 tf), (a2, AI G 64 df)]) [2, 1, 0] rfl) (hD.sub (ws' := [(m0, OB 7 [.int th, .ref a1, .ref a2, .ref a3, .int (nI ud), .ref a5, .ref a6, .ref a7, .int (nI ln), .int (nI ((ltB tf ln w (t, df)).1)), .int (nI ((ltB tf ln w (t, df)).2.1)), .int ((ltB tf ln w (t, df)).2.2.1), .int ((ltB tf ln w (t, df)).2.2.2.1), .int ((ltB tf ln w (t, df)).2.2.2.2), .ref a14, .int rq, .ref a16]), (a7, AI G 120 tf), (a2, AI G 64 df)]) [2, 1, 0] (by decide) rfl) hS dX7_readLiteral_116
          ·
            have c_77 : (ltB tf ln w (t, df)).2.2.2.2 = -9 := by simpa using c_77
            refine lv_aload_n hx hb dX7_readLiteral_80 rfl (lv_at hl 2 rfl) ?_
            refine va_get (D := G.1) (ci := 7) (v := .ref a2) (C := RX7) (T := TX7) (N := 17) hx hb hts hi7 hown hK hP 2 rfl rfl 2 (by decide) (hts (.fieldLink RX7 13 "ConflictEnumeratorModel" "draft" "[I") (List.mem_of_getElem? (i := 3) rfl)) (fun _ h9 => h9) rfl dX7_readLiteral_81 ?_
            refine lv_iload_n hx hb dX7_readLiteral_84 rfl (lv_at hl 3 rfl) ?_
            refine lv_iconst (v := 2) hx hb dX7_readLiteral_85 (by decide) ?_
            refine wn_iadd hx hb (w) (2) rfl rfl dX7_readLiteral_86 ?_
            refine lv_dup2_11 hx hb dX7_readLiteral_87 rfl rfl ?_
            refine wa_iald hx hb hK hP 0 rfl (w + 2) (rfl) (by omega) (by decide) dX7_readLiteral_88 ?_
            refine lv_iconst (v := 1) hx hb dX7_readLiteral_89 (by decide) ?_
            refine lv_iload_n hx hb dX7_readLiteral_90 rfl (lv_at hl 0 rfl) ?_
            refine lv_ishl hx hb dX7_readLiteral_91 ?_
            refine lv_ior hx hb dX7_readLiteral_92 ?_
            refine wa_iast hx hb hK hP hD hS 0 rfl (w + 2) (rfl) (by omega) (by decide) dX7_readLiteral_93 (fun H locs hP hD hS => ?_)
            have hP : va_P G.1 vwCl [(a2, AI G 64 (va_up df (w + 2) ((df (w + 2)) ||| (1 <<< (((ltA tf ln t).2.2.2.1) &&& 31))))), (a7, AI G 120 tf), (m0, OB 7 [.int th, .ref a1, .ref a2, .ref a3, .int (nI ud), .ref a5, .ref a6, .ref a7, .int (nI ln), .int (nI ((ltB tf ln w (t, df)).1)), .int (nI ((ltB tf ln w (t, df)).2.1)), .int ((ltB tf ln w (t, df)).2.2.1), .int ((ltB tf ln w (t, df)).2.2.2.1), .int ((ltB tf ln w (t, df)).2.2.2.2), .ref a14, .int rq, .ref a16])] H := hP
            have hD : va_D A [(a2, AI G 64 (va_up df (w + 2) ((df (w + 2)) ||| (1 <<< (((ltA tf ln t).2.2.2.1) &&& 31))))), (a7, AI G 120 tf), (m0, OB 7 [.int th, .ref a1, .ref a2, .ref a3, .int (nI ud), .ref a5, .ref a6, .ref a7, .int (nI ln), .int (nI ((ltB tf ln w (t, df)).1)), .int (nI ((ltB tf ln w (t, df)).2.1)), .int ((ltB tf ln w (t, df)).2.2.1), .int ((ltB tf ln w (t, df)).2.2.2.1), .int ((ltB tf ln w (t, df)).2.2.2.2), .ref a14, .int rq, .ref a16])] := hD
            refine lv_aload_n hx hb dX7_readLiteral_94 rfl (lv_at hl 2 rfl) ?_
            refine va_get (D := G.1) (ci := 7) (v := .ref a2) (C := RX7) (T := TX7) (N := 17) hx hb hts hi7 hown hK hP 2 rfl rfl 2 (by decide) (hts (.fieldLink RX7 13 "ConflictEnumeratorModel" "draft" "[I") (List.mem_of_getElem? (i := 3) rfl)) (fun _ h9 => h9) rfl dX7_readLiteral_95 ?_
            refine lv_iload_n hx hb dX7_readLiteral_98 rfl (lv_at hl 3 rfl) ?_
            refine lv_iconst (v := 3) hx hb dX7_readLiteral_99 (by decide) ?_
            refine wn_iadd hx hb (w) (3) rfl rfl dX7_readLiteral_100 ?_
            refine lv_dup2_11 hx hb dX7_readLiteral_101 rfl rfl ?_
            refine wa_iald hx hb hK hP 0 rfl (w + 3) (rfl) (by omega) (by decide) dX7_readLiteral_102 ?_
            rw [show (va_up df (w + 2) ((df (w + 2)) ||| (1 <<< (((ltA tf ln t).2.2.2.1) &&& 31)))) (w + 3) = df (w + 3) from by simp [va_up]]
            refine lv_iload_n hx hb dX7_readLiteral_103 rfl (lv_at hl 1 rfl) ?_
            refine lv_if_eq (tgt := 113) hx hb dX7_readLiteral_104 (by decide) (fun c_104 => absurd c_104 (by decide)) (fun c_104 => ?_)
            refine lv_iconst (v := 1) hx hb dX7_readLiteral_107 (by decide) ?_
            refine lv_iload_n hx hb dX7_readLiteral_108 rfl (lv_at hl 0 rfl) ?_
            refine lv_ishl hx hb dX7_readLiteral_109 ?_
            refine lv_goto (tgt := 114) hx hb dX7_readLiteral_110 (by decide) ?_
            refine lv_ior hx hb dX7_readLiteral_114 ?_
            refine wa_iast hx hb hK hP hD hS 0 rfl (w + 3) (rfl) (by omega) (by decide) dX7_readLiteral_115 (fun H locs hP hD hS => ?_)
            have hP : va_P G.1 vwCl [(a2, AI G 64 (va_up (va_up df (w + 2) ((df (w + 2)) ||| (1 <<< (((ltA tf ln t).2.2.2.1) &&& 31)))) (w + 3) ((df (w + 3)) ||| (1 <<< (((ltA tf ln t).2.2.2.1) &&& 31))))), (a7, AI G 120 tf), (m0, OB 7 [.int th, .ref a1, .ref a2, .ref a3, .int (nI ud), .ref a5, .ref a6, .ref a7, .int (nI ln), .int (nI ((ltB tf ln w (t, df)).1)), .int (nI ((ltB tf ln w (t, df)).2.1)), .int ((ltB tf ln w (t, df)).2.2.1), .int ((ltB tf ln w (t, df)).2.2.2.1), .int ((ltB tf ln w (t, df)).2.2.2.2), .ref a14, .int rq, .ref a16])] H := hP
            have hD : va_D A [(a2, AI G 64 (va_up (va_up df (w + 2) ((df (w + 2)) ||| (1 <<< (((ltA tf ln t).2.2.2.1) &&& 31)))) (w + 3) ((df (w + 3)) ||| (1 <<< (((ltA tf ln t).2.2.2.1) &&& 31))))), (a7, AI G 120 tf), (m0, OB 7 [.int th, .ref a1, .ref a2, .ref a3, .int (nI ud), .ref a5, .ref a6, .ref a7, .int (nI ln), .int (nI ((ltB tf ln w (t, df)).1)), .int (nI ((ltB tf ln w (t, df)).2.1)), .int ((ltB tf ln w (t, df)).2.2.1), .int ((ltB tf ln w (t, df)).2.2.2.1), .int ((ltB tf ln w (t, df)).2.2.2.2), .ref a14, .int rq, .ref a16])] := hD
            exact ret _ _ _ _ _ _ _ (Nat.le_of_ble_eq_true rfl) (Nat.le_of_ble_eq_true rfl) (by first | (simp only [litD, if_neg c_77]; done) | (simp only [litD, if_pos c_77, hn1]; done)) (hP.sub (ws' := [(m0, OB 7 [.int th, .ref a1, .ref a2, .ref a3, .int (nI ud), .ref a5, .ref a6, .ref a7, .int (nI ln), .int (nI ((ltB tf ln w (t, df)).1)), .int (nI ((ltB tf ln w (t, df)).2.1)), .int ((ltB tf ln w (t, df)).2.2.1), .int ((ltB tf ln w (t, df)).2.2.2.1), .int ((ltB tf ln w (t, df)).2.2.2.2), .ref a14, .int rq, .ref a16]), (a7, AI G 120 tf), (a2, AI G 64 (va_up (va_up df (w + 2) ((df (w + 2)) ||| (1 <<< (((ltA tf ln t).2.2.2.1) &&& 31)))) (w + 3) ((df (w + 3)) ||| (1 <<< (((ltA tf ln t).2.2.2.1) &&& 31)))))]) [2, 1, 0] rfl) (hD.sub (ws' := [(m0, OB 7 [.int th, .ref a1, .ref a2, .ref a3, .int (nI ud), .ref a5, .ref a6, .ref a7, .int (nI ln), .int (nI ((ltB tf ln w (t, df)).1)), .int (nI ((ltB tf ln w (t, df)).2.1)), .int ((ltB tf ln w (t, df)).2.2.1), .int ((ltB tf ln w (t, df)).2.2.2.1), .int ((ltB tf ln w (t, df)).2.2.2.2), .ref a14, .int rq, .ref a16]), (a7, AI G 120 tf), (a2, AI G 64 (va_up (va_up df (w + 2) ((df (w + 2)) ||| (1 <<< (((ltA tf ln t).2.2.2.1) &&& 31)))) (w + 3) ((df (w + 3)) ||| (1 <<< (((ltA tf ln t).2.2.2.1) &&& 31)))))]) [2, 1, 0] (by decide) rfl) hS dX7_readLiteral_116
