abbrev rmJ3_checkIndex_r : Room := { frames := 0, cells := 0, slots := 0, locals := 0 }
set_option maxHeartbeats 4000000 in
set_option maxRecDepth 100000 in
theorem c_J3_checkIndex_r (l : Launch) (G : GT) (k n9 t9 : Nat) (hk : k < n9) (hn9 : n9 < 1000) : Ci l yJ3_checkIndex_8e157 wsJ3_checkIndex_8e157 rmJ3_checkIndex_r G [.int (nI k), .int (nI n9), .ref t9] [] (fun r u => r = nI k ∧ u = []) := by
  refine Ci.of (cc := cJ3_checkIndex_8e157) (maxL := 3) (ty := .int) (by decide) rfl (Nat.le_of_ble_eq_true rfl) ?_
  intro p e s m below meth c A ls Q hx hb hml hts hown hA hS hP hK hN hSS hD hl ret
  have hown : s.vm.findClass RJ3 = some m.cls := hown
  have hl : lv_has ls 3 [(0, .int (nI k)), (1, .int (nI n9)), (2, .ref t9)] := hl
  refine lv_iload_n hx hb dJ3_checkIndex_8e157_0 rfl (lv_at hl 0 rfl) ?_
  refine lv_if_lt (tgt := 9) hx hb dJ3_checkIndex_8e157_1 (by decide) (fun c_1 => ?_) (fun c_1 => ?_)
  ·
    have c_1 : k < 0 := (nI_ltI (a := k) (b := 0) (by omega) (by omega)).mp c_1
    omega
  ·
    have c_1 : 0 ≤ k := by have h9 := mt (nI_ltI (a := k) (b := 0) (by omega) (by omega)).mpr c_1; omega
    refine lv_iload_n hx hb dJ3_checkIndex_8e157_4 rfl (lv_at hl 0 rfl) ?_
    refine lv_iload_n hx hb dJ3_checkIndex_8e157_5 rfl (lv_at hl 1 rfl) ?_
    refine lv_icmp_lt (tgt := 16) hx hb dJ3_checkIndex_8e157_6 (by decide) (fun c_6 => ?_) (fun c_6 => ?_)
    ·
      have c_6 : k < n9 := (nI_ltI (a := k) (b := n9) (by omega) (by omega)).mp c_6
      refine lv_iload_n hx hb dJ3_checkIndex_8e157_16 rfl (lv_at hl 0 rfl) ?_
      exact ret (nI k) _ _ _ _ _ _ _ (Nat.le_of_ble_eq_true rfl) (Nat.le_of_ble_eq_true rfl) (rfl) (⟨rfl, rfl⟩) (hP.sub (ws' := []) [] rfl) (hD.sub (ws' := []) [] (by decide) rfl) hS dJ3_checkIndex_8e157_17
    ·
      have c_6 : n9 ≤ k := by have h9 := mt (nI_ltI (a := k) (b := n9) (by omega) (by omega)).mpr c_6; omega
      omega
abbrev rmJ3_checkIndex_0 : Room := { frames := 0, cells := 0, slots := 0, locals := 0 }
set_option maxHeartbeats 4000000 in
set_option maxRecDepth 100000 in
theorem c_J3_checkIndex_0 (l : Launch) (G : GT) (k n9 : Nat) (hk : k < n9) (hn9 : n9 < 1000) : Ci l yJ3_checkIndex_8e157 wsJ3_checkIndex_8e157 rmJ3_checkIndex_0 G [.int (nI k), .int (nI n9), .null] [] (fun r u => r = nI k ∧ u = []) := by
  refine Ci.of (cc := cJ3_checkIndex_8e157) (maxL := 3) (ty := .int) (by decide) rfl (Nat.le_of_ble_eq_true rfl) ?_
  intro p e s m below meth c A ls Q hx hb hml hts hown hA hS hP hK hN hSS hD hl ret
  have hown : s.vm.findClass RJ3 = some m.cls := hown
  have hl : lv_has ls 3 [(0, .int (nI k)), (1, .int (nI n9)), (2, .null)] := hl
  refine lv_iload_n hx hb dJ3_checkIndex_8e157_0 rfl (lv_at hl 0 rfl) ?_
  refine lv_if_lt (tgt := 9) hx hb dJ3_checkIndex_8e157_1 (by decide) (fun c_1 => ?_) (fun c_1 => ?_)
  ·
    have c_1 : k < 0 := (nI_ltI (a := k) (b := 0) (by omega) (by omega)).mp c_1
    omega
  ·
    have c_1 : 0 ≤ k := by have h9 := mt (nI_ltI (a := k) (b := 0) (by omega) (by omega)).mpr c_1; omega
    refine lv_iload_n hx hb dJ3_checkIndex_8e157_4 rfl (lv_at hl 0 rfl) ?_
    refine lv_iload_n hx hb dJ3_checkIndex_8e157_5 rfl (lv_at hl 1 rfl) ?_
    refine lv_icmp_lt (tgt := 16) hx hb dJ3_checkIndex_8e157_6 (by decide) (fun c_6 => ?_) (fun c_6 => ?_)
    ·
      have c_6 : k < n9 := (nI_ltI (a := k) (b := n9) (by omega) (by omega)).mp c_6
      refine lv_iload_n hx hb dJ3_checkIndex_8e157_16 rfl (lv_at hl 0 rfl) ?_
      exact ret (nI k) _ _ _ _ _ _ _ (Nat.le_of_ble_eq_true rfl) (Nat.le_of_ble_eq_true rfl) (rfl) (⟨rfl, rfl⟩) (hP.sub (ws' := []) [] rfl) (hD.sub (ws' := []) [] (by decide) rfl) hS dJ3_checkIndex_8e157_17
    ·
      have c_6 : n9 ≤ k := by have h9 := mt (nI_ltI (a := k) (b := n9) (by omega) (by omega)).mpr c_6; omega
      omega
abbrev rmJ0_checkIndex_df160 : Room := { frames := 1, cells := 0, slots := 0, locals := 22 }
set_option maxHeartbeats 4000000 in
set_option maxRecDepth 100000 in
theorem c_J0_checkIndex_df160 (l : Launch) (G : GT) (k n9 : Nat) (hk : k < n9) (hn9 : n9 < 1000) : Cv l yJ0_checkIndex_df160 wsJ0_checkIndex_df160 rmJ0_checkIndex_df160 G [.int (nI k), .int (nI n9)] [] (fun u => u = []) := by
  refine Cv.of (cc := cJ0_checkIndex_df160) (maxL := 2) (by decide) rfl (Nat.le_of_ble_eq_true rfl) ?_
  intro p e s m below meth c A ls Q hx hb hml hts hown hin hA hS hP hK hN hSS hD hl ret
  have hown : s.vm.findClass RJ0 = some m.cls := hown
  have hl : lv_has ls 2 [(0, .int (nI k)), (1, .int (nI n9))] := hl
  refine lv_iload_n hx hb dJ0_checkIndex_df160_0 rfl (lv_at hl 0 rfl) ?_
  refine lv_iload_n hx hb dJ0_checkIndex_df160_1 rfl (lv_at hl 1 rfl) ?_
  rcases hSS.2.2.2 with hz9 | ⟨t9, hz9⟩
  ·
    refine va_gets (v := .null) hx hb hz9 hS hown (hts (.fieldLink RJ0 1053 "jdk/internal/util/Preconditions" "SIOOBE_FORMATTER" "Ljava/util/function/BiFunction;") (List.mem_of_getElem? (i := 1) rfl)) (fun _ h9 => h9) dJ0_checkIndex_df160_2 ?_
    refine call_Si (rest := []) (As := [.int (nI k), .int (nI n9), .null]) (wr := []) (c1 := 0) (s1 := 0) ⟨hx, hb, hml, hown, hts⟩ (c_J3_checkIndex_0 l G k n9 (by first | assumption | omega) (by first | assumption | omega)) (va_cwS 3 hts gJ0_checkIndex_df160_J3_checkIndex_8e157 rfl rfl rfl (by decide +kernel) ⟨Nat.le_of_ble_eq_true rfl, Nat.le_of_ble_eq_true rfl⟩) hK hN hSS hP hD hS hA [] [] rfl rfl (by decide) (by decide) (by decide) rfl hl.1 rfl (Nat.le_of_ble_eq_true rfl) dJ0_checkIndex_df160_5 ⟨Nat.le_of_ble_eq_true rfl, Nat.le_of_ble_eq_true rfl⟩ rfl rfl (fun r_5 u_5 H locs hpo hP hD hS => ?_)
    obtain ⟨hr9, rfl⟩ := hpo
    subst r_5
    have hP : va_P G.1 vwCl [] H := hP
    have hD : va_D A [] := hD
    refine lv_pop hx hb dJ0_checkIndex_df160_8 rfl ?_
    exact ret _ _ _ _ _ _ _ (Nat.le_of_ble_eq_true rfl) (Nat.le_of_ble_eq_true rfl) (rfl) (hP.sub (ws' := []) [] rfl) (hD.sub (ws' := []) [] (by decide) rfl) hS dJ0_checkIndex_df160_9
  ·
    refine va_gets (v := .ref t9) hx hb hz9 hS hown (hts (.fieldLink RJ0 1053 "jdk/internal/util/Preconditions" "SIOOBE_FORMATTER" "Ljava/util/function/BiFunction;") (List.mem_of_getElem? (i := 1) rfl)) (fun _ h9 => h9) dJ0_checkIndex_df160_2 ?_
    refine call_Si (rest := []) (As := [.int (nI k), .int (nI n9), .ref t9]) (wr := []) (c1 := 0) (s1 := 0) ⟨hx, hb, hml, hown, hts⟩ (c_J3_checkIndex_r l G k n9 t9 (by first | assumption | omega) (by first | assumption | omega)) (va_cwS 3 hts gJ0_checkIndex_df160_J3_checkIndex_8e157 rfl rfl rfl (by decide +kernel) ⟨Nat.le_of_ble_eq_true rfl, Nat.le_of_ble_eq_true rfl⟩) hK hN hSS hP hD hS hA [] [] rfl rfl (by decide) (by decide) (by decide) rfl hl.1 rfl (Nat.le_of_ble_eq_true rfl) dJ0_checkIndex_df160_5 ⟨Nat.le_of_ble_eq_true rfl, Nat.le_of_ble_eq_true rfl⟩ rfl rfl (fun r_5 u_5 H locs hpo hP hD hS => ?_)
    obtain ⟨hr9, rfl⟩ := hpo
    subst r_5
    have hP : va_P G.1 vwCl [] H := hP
    have hD : va_D A [] := hD
    refine lv_pop hx hb dJ0_checkIndex_df160_8 rfl ?_
    exact ret _ _ _ _ _ _ _ (Nat.le_of_ble_eq_true rfl) (Nat.le_of_ble_eq_true rfl) (rfl) (hP.sub (ws' := []) [] rfl) (hD.sub (ws' := []) [] (by decide) rfl) hS dJ0_checkIndex_df160_9
abbrev rmJ0_coder_7d493 : Room := { frames := 0, cells := 0, slots := 0, locals := 0 }
set_option maxHeartbeats 4000000 in
set_option maxRecDepth 100000 in
theorem c_J0_coder_7d493 (l : Launch) (G : GT) (i9 : Nat) (hi9 : i9 < 5) : Ci l yJ0_coder_7d493 wsJ0_coder_7d493 rmJ0_coder_7d493 G [.ref (G.2.2.2.2.2.1 i9)] [] (fun r u => r = 0 ∧ u = []) := by
  refine Ci.of (cc := cJ0_coder_7d493) (maxL := 1) (ty := .byte) (by decide) rfl (Nat.le_of_ble_eq_true rfl) ?_
  intro p e s m below meth c A ls Q hx hb hml hts hown hA hS hP hK hN hSS hD hl ret
  have hown : s.vm.findClass RJ0 = some m.cls := hown
  have hl : lv_has ls 1 [(0, .ref (G.2.2.2.2.2.1 i9))] := hl
  refine va_gets (v := .int 1) hx hb hSS.2.2.1 hS hown (hts (.fieldLink RJ0 38 "java/lang/String" "COMPACT_STRINGS" "Z") (List.mem_of_getElem? (i := 1) rfl)) (fun _ h9 => h9) dJ0_coder_7d493_0 ?_
  refine lv_if_eq (tgt := 13) hx hb dJ0_coder_7d493_3 (by decide) (fun c_3 => absurd c_3 (by decide)) (fun c_3 => ?_)
  refine lv_aload_n hx hb dJ0_coder_7d493_6 rfl (lv_at hl 0 rfl) ?_
  refine vk_getf hx hb (hSS.1.1 i9 hi9).2.1 hS hown (hts (.fieldLink RJ0 15 "java/lang/String" "coder" "B") (List.mem_of_getElem? (i := 2) rfl)) (fun _ h9 => h9) dJ0_coder_7d493_7 ?_
  refine lv_goto (tgt := 14) hx hb dJ0_coder_7d493_10 (by decide) ?_
  exact ret 0 _ _ _ _ _ _ _ (Nat.le_of_ble_eq_true rfl) (Nat.le_of_ble_eq_true rfl) (rfl) (⟨rfl, rfl⟩) (hP.sub (ws' := []) [] rfl) (hD.sub (ws' := []) [] (by decide) rfl) hS dJ0_coder_7d493_14
abbrev rmJ0_isLatin1_aae02 : Room := { frames := 0, cells := 0, slots := 0, locals := 0 }
set_option maxHeartbeats 4000000 in
set_option maxRecDepth 100000 in
theorem c_J0_isLatin1_aae02 (l : Launch) (G : GT) (i9 : Nat) (hi9 : i9 < 5) : Ci l yJ0_isLatin1_aae02 wsJ0_isLatin1_aae02 rmJ0_isLatin1_aae02 G [.ref (G.2.2.2.2.2.1 i9)] [] (fun r u => r = bI true ∧ u = []) := by
  refine Ci.of (cc := cJ0_isLatin1_aae02) (maxL := 1) (ty := .boolean) (by decide) rfl (Nat.le_of_ble_eq_true rfl) ?_
  intro p e s m below meth c A ls Q hx hb hml hts hown hA hS hP hK hN hSS hD hl ret
  have hown : s.vm.findClass RJ0 = some m.cls := hown
  have hl : lv_has ls 1 [(0, .ref (G.2.2.2.2.2.1 i9))] := hl
  refine va_gets (v := .int 1) hx hb hSS.2.2.1 hS hown (hts (.fieldLink RJ0 38 "java/lang/String" "COMPACT_STRINGS" "Z") (List.mem_of_getElem? (i := 1) rfl)) (fun _ h9 => h9) dJ0_isLatin1_aae02_0 ?_
  refine lv_if_eq (tgt := 17) hx hb dJ0_isLatin1_aae02_3 (by decide) (fun c_3 => absurd c_3 (by decide)) (fun c_3 => ?_)
  refine lv_aload_n hx hb dJ0_isLatin1_aae02_6 rfl (lv_at hl 0 rfl) ?_
  refine vk_getf hx hb (hSS.1.1 i9 hi9).2.1 hS hown (hts (.fieldLink RJ0 15 "java/lang/String" "coder" "B") (List.mem_of_getElem? (i := 2) rfl)) (fun _ h9 => h9) dJ0_isLatin1_aae02_7 ?_
  refine lv_if_ne (tgt := 17) hx hb dJ0_isLatin1_aae02_10 (by decide) (fun c_10 => absurd c_10 (by decide)) (fun c_10 => ?_)
  refine lv_iconst (v := 1) hx hb dJ0_isLatin1_aae02_13 (by decide) ?_
  refine lv_goto (tgt := 18) hx hb dJ0_isLatin1_aae02_14 (by decide) ?_
  exact ret 1 _ _ _ _ _ _ _ (Nat.le_of_ble_eq_true rfl) (Nat.le_of_ble_eq_true rfl) (rfl) (⟨rfl, rfl⟩) (hP.sub (ws' := []) [] rfl) (hD.sub (ws' := []) [] (by decide) rfl) hS dJ0_isLatin1_aae02_18
abbrev rmJ0_length_8abf5 : Room := { frames := 1, cells := 0, slots := 0, locals := 20 }
set_option maxHeartbeats 4000000 in
set_option maxRecDepth 100000 in
theorem c_J0_length_8abf5 (l : Launch) (G : GT) (i9 : Nat) (hi9 : i9 < 5) : Ci l yJ0_length_8abf5 wsJ0_length_8abf5 rmJ0_length_8abf5 G [.ref (G.2.2.2.2.2.1 i9)] [] (fun r u => r = nI (lnS i9) ∧ u = []) := by
  refine Ci.of (cc := cJ0_length_8abf5) (maxL := 1) (ty := .int) (by decide) rfl (Nat.le_of_ble_eq_true rfl) ?_
  intro p e s m below meth c A ls Q hx hb hml hts hown hA hS hP hK hN hSS hD hl ret
  have hown : s.vm.findClass RJ0 = some m.cls := hown
  have hl : lv_has ls 1 [(0, .ref (G.2.2.2.2.2.1 i9))] := hl
  refine lv_aload_n hx hb dJ0_length_8abf5_0 rfl (lv_at hl 0 rfl) ?_
  refine vk_getf hx hb (hSS.1.1 i9 hi9).2.2.1 hS hown (hts (.fieldLink RJ0 9 "java/lang/String" "value" "[B") (List.mem_of_getElem? (i := 1) rfl)) (fun _ h9 => h9) dJ0_length_8abf5_1 ?_
  refine va_tlen hx hb (hSS.1.1 i9 hi9).2.2.2 hS (v := nI (lnS i9)) rfl dJ0_length_8abf5_4 ?_
  refine lv_aload_n hx hb dJ0_length_8abf5_5 rfl (lv_at hl 0 rfl) ?_
  refine call_Ti (rest := [.int (nI (lnS i9))]) (As := []) (c1 := 0) (s1 := 0) ⟨hx, hb, hml, hown, hts⟩ (c_J0_coder_7d493 l G i9 (by first | assumption | omega)) (cwV 0 hts gJ0_length_8abf5_J0_coder_7d493 rfl rfl rfl (by decide +kernel) ⟨Nat.le_of_ble_eq_true rfl, Nat.le_of_ble_eq_true rfl⟩) hK hN hSS hP hD hS hA (i9) (hi9) rfl hl.1 rfl (Nat.le_of_ble_eq_true rfl) dJ0_length_8abf5_6 ⟨Nat.le_of_ble_eq_true rfl, Nat.le_of_ble_eq_true rfl⟩ rfl rfl (fun r_6 u_6 H locs hpo hP hD hS => ?_)
  obtain ⟨hr9, rfl⟩ := hpo
  subst r_6
  have hP : va_P G.1 vwCl [] H := hP
  have hD : va_D A [] := hD
  refine lv_ishr hx hb dJ0_length_8abf5_9 ?_
  rw [show (nI (lnS i9)) >>> (0 &&& 31) = nI (lnS i9) from lnS_sh i9 hi9]
  exact ret (nI (lnS i9)) _ _ _ _ _ _ _ (Nat.le_of_ble_eq_true rfl) (Nat.le_of_ble_eq_true rfl) (rfl) (⟨rfl, rfl⟩) (hP.sub (ws' := []) [] rfl) (hD.sub (ws' := []) [] (by decide) rfl) hS dJ0_length_8abf5_10
abbrev rmJ1_charAt_3b067 : Room := { frames := 2, cells := 0, slots := 0, locals := 43 }
set_option maxHeartbeats 4000000 in
set_option maxRecDepth 100000 in
theorem c_J1_charAt_3b067 (l : Launch) (G : GT) (i9 k : Nat) (hi9 : i9 < 5) (hk : k < lnS i9) : Ci l yJ1_charAt_3b067 wsJ1_charAt_3b067 rmJ1_charAt_3b067 G [.ref (G.2.2.2.2.2.2 i9), .int (nI k)] [] (fun r u => r = chS i9 k ∧ u = []) := by
  refine Ci.of (cc := cJ1_charAt_3b067) (maxL := 2) (ty := .char) (by decide) rfl (Nat.le_of_ble_eq_true rfl) ?_
  intro p e s m below meth c A ls Q hx hb hml hts hown hA hS hP hK hN hSS hD hl ret
  have hown : s.vm.findClass RJ1 = some m.cls := hown
  have hl : lv_has ls 2 [(0, .ref (G.2.2.2.2.2.2 i9)), (1, .int (nI k))] := hl
  have hl9 := lnS_5 i9 hi9
  refine lv_iload_n hx hb dJ1_charAt_3b067_0 rfl (lv_at hl 1 rfl) ?_
  refine lv_aload_n hx hb dJ1_charAt_3b067_1 rfl (lv_at hl 0 rfl) ?_
  refine va_tlen hx hb (hSS.1.1 i9 hi9).2.2.2 hS (v := nI (lnS i9)) rfl dJ1_charAt_3b067_2 ?_
  refine call_Sv (rest := []) (As := [.int (nI k), .int (nI (lnS i9))]) (wr := []) (c1 := 0) (s1 := 0) ⟨hx, hb, hml, hown, hts⟩ (c_J0_checkIndex_df160 l G k (lnS i9) (by first | assumption | omega) (by first | assumption | omega)) (va_cwS 2 hts gJ1_charAt_3b067_J0_checkIndex_df160 rfl rfl rfl (by decide +kernel) ⟨Nat.le_of_ble_eq_true rfl, Nat.le_of_ble_eq_true rfl⟩) hK hN hSS hP hD hS hA [] [] rfl rfl (by decide) (by decide) (by decide) rfl hl.1 rfl (Nat.le_of_ble_eq_true rfl) dJ1_charAt_3b067_3 ⟨Nat.le_of_ble_eq_true rfl, Nat.le_of_ble_eq_true rfl⟩ rfl rfl (fun u_3 H locs hpo hP hD hS => ?_)
  subst hpo
  have hP : va_P G.1 vwCl [] H := hP
  have hD : va_D A [] := hD
  refine lv_aload_n hx hb dJ1_charAt_3b067_6 rfl (lv_at hl 0 rfl) ?_
  refine lv_iload_n hx hb dJ1_charAt_3b067_7 rfl (lv_at hl 1 rfl) ?_
  refine va_tb hx hb (hSS.1.1 i9 hi9).2.2.2 hS (show vp_in (nI k) (lnS i9) from vp_in_nI hk (by omega)) (v := .int (chS i9 k)) (by rw [nI_clamp (by omega)]; rfl) dJ1_charAt_3b067_8 ?_
  refine lv_sipush (v := 255) hx hb dJ1_charAt_3b067_9 (by decide) ?_
  refine lv_iand hx hb dJ1_charAt_3b067_12 ?_
  refine lv_i2c (v := chS i9 k) hx hb dJ1_charAt_3b067_13 (chS_c i9 hi9 k (by omega)) ?_
  exact ret (chS i9 k) _ _ _ _ _ _ _ (Nat.le_of_ble_eq_true rfl) (Nat.le_of_ble_eq_true rfl) (chS_n i9 hi9 k (by omega)) (⟨rfl, rfl⟩) (hP.sub (ws' := []) [] rfl) (hD.sub (ws' := []) [] (by decide) rfl) hS dJ1_charAt_3b067_14
abbrev rmJ0_charAt_5068e : Room := { frames := 3, cells := 0, slots := 0, locals := 64 }
set_option maxHeartbeats 4000000 in
set_option maxRecDepth 100000 in
theorem c_J0_charAt_5068e (l : Launch) (G : GT) (i9 k : Nat) (hi9 : i9 < 5) (hk : k < lnS i9) : Ci l yJ0_charAt_5068e wsJ0_charAt_5068e rmJ0_charAt_5068e G [.ref (G.2.2.2.2.2.1 i9), .int (nI k)] [] (fun r u => r = chS i9 k ∧ u = []) := by
  refine Ci.of (cc := cJ0_charAt_5068e) (maxL := 2) (ty := .char) (by decide) rfl (Nat.le_of_ble_eq_true rfl) ?_
  intro p e s m below meth c A ls Q hx hb hml hts hown hA hS hP hK hN hSS hD hl ret
  have hown : s.vm.findClass RJ0 = some m.cls := hown
  have hl : lv_has ls 2 [(0, .ref (G.2.2.2.2.2.1 i9)), (1, .int (nI k))] := hl
  have hl9 := lnS_5 i9 hi9
  refine lv_aload_n hx hb dJ0_charAt_5068e_0 rfl (lv_at hl 0 rfl) ?_
  refine call_Ti (rest := []) (As := []) (c1 := 0) (s1 := 0) ⟨hx, hb, hml, hown, hts⟩ (c_J0_isLatin1_aae02 l G i9 (by first | assumption | omega)) (cwV 0 hts gJ0_charAt_5068e_J0_isLatin1_aae02 rfl rfl rfl (by decide +kernel) ⟨Nat.le_of_ble_eq_true rfl, Nat.le_of_ble_eq_true rfl⟩) hK hN hSS hP hD hS hA (i9) (hi9) rfl hl.1 rfl (Nat.le_of_ble_eq_true rfl) dJ0_charAt_5068e_1 ⟨Nat.le_of_ble_eq_true rfl, Nat.le_of_ble_eq_true rfl⟩ rfl rfl (fun r_1 u_1 H locs hpo hP hD hS => ?_)
  obtain ⟨hr9, rfl⟩ := hpo
  subst r_1
  have hP : va_P G.1 vwCl [] H := hP
  have hD : va_D A [] := hD
  refine wb_eq (tgt := 16) hx hb dJ0_charAt_5068e_4 (by decide) (fun c_4 => ?_) (fun c_4 => ?_)
  ·
    exact absurd c_4 (by decide)
  ·
    refine lv_aload_n hx hb dJ0_charAt_5068e_7 rfl (lv_at hl 0 rfl) ?_
    refine vk_getf hx hb (hSS.1.1 i9 hi9).2.2.1 hS hown (hts (.fieldLink RJ0 9 "java/lang/String" "value" "[B") (List.mem_of_getElem? (i := 1) rfl)) (fun _ h9 => h9) dJ0_charAt_5068e_8 ?_
    refine lv_iload_n hx hb dJ0_charAt_5068e_11 rfl (lv_at hl 1 rfl) ?_
    refine call_Si (rest := []) (As := [.ref (G.2.2.2.2.2.2 i9), .int (nI k)]) (wr := []) (c1 := 0) (s1 := 0) ⟨hx, hb, hml, hown, hts⟩ (c_J1_charAt_3b067 l G i9 k (by first | assumption | omega) (by first | assumption | omega)) (va_cwS 2 hts gJ0_charAt_5068e_J1_charAt_3b067 rfl rfl rfl (by decide +kernel) ⟨Nat.le_of_ble_eq_true rfl, Nat.le_of_ble_eq_true rfl⟩) hK hN hSS hP hD hS hA [] [] rfl rfl (by decide) (by decide) (by decide) rfl hl.1 rfl (Nat.le_of_ble_eq_true rfl) dJ0_charAt_5068e_12 ⟨Nat.le_of_ble_eq_true rfl, Nat.le_of_ble_eq_true rfl⟩ rfl rfl (fun r_12 u_12 H locs hpo hP hD hS => ?_)
    obtain ⟨hr9, rfl⟩ := hpo
    subst r_12
    have hP : va_P G.1 vwCl [] H := hP
    have hD : va_D A [] := hD
    exact ret (chS i9 k) _ _ _ _ _ _ _ (Nat.le_of_ble_eq_true rfl) (Nat.le_of_ble_eq_true rfl) (chS_n i9 hi9 k (by omega)) (⟨rfl, rfl⟩) (hP.sub (ws' := []) [] rfl) (hD.sub (ws' := []) [] (by decide) rfl) hS dJ0_charAt_5068e_15
abbrev rmX5_spells : Room := { frames := 4, cells := 0, slots := 0, locals := 85 }
set_option maxHeartbeats 4000000 in
set_option maxRecDepth 100000 in
theorem c_X5_spells (l : Launch) (G : GT) (tx tb : Nat) (tf : Nat → Int32) (tn : Nat) (st la i9 : Nat) (hn : tn ≤ 120) (hsl : st ≤ la) (hla : la < 1000) (hi9 : i9 < 5) : Ci l yX5_spells wsX5_spells rmX5_spells G [.ref tx, .int (nI st), .int (nI la), .ref (G.2.2.2.2.2.1 i9)] [(tx, OB 5 [.ref tb, .int (nI tn)]), (tb, AI G 120 tf)] (fun r u => r = bI (splB tf tn st la i9) ∧ u = [(tx, OB 5 [.ref tb, .int (nI tn)]), (tb, AI G 120 tf)]) := by
  refine Ci.of (cc := cX5_spells) (maxL := 5) (ty := .boolean) (by decide) rfl (Nat.le_of_ble_eq_true rfl) ?_
  intro p e s m below meth c A ls Q hx hb hml hts hown hA hS hP hK hN hSS hD hl ret
  have hown : s.vm.findClass RX5 = some m.cls := hown
  have hl : lv_has ls 5 [(0, .ref tx), (1, .int (nI st)), (2, .int (nI la)), (3, .ref (G.2.2.2.2.2.1 i9))] := hl
  have hl9 := lnS_5 i9 hi9
  refine lv_iload_n hx hb dX5_spells_0 rfl (lv_at hl 2 rfl) ?_
  refine lv_iload_n hx hb dX5_spells_1 rfl (lv_at hl 1 rfl) ?_
  refine wn_isub hx hb (la) (st) rfl rfl (by omega) dX5_spells_2 ?_
  refine lv_iconst (v := 1) hx hb dX5_spells_3 (by decide) ?_
  refine wn_iadd hx hb (la - st) (1) rfl rfl dX5_spells_4 ?_
  refine lv_aload_n hx hb dX5_spells_5 rfl (lv_at hl 3 rfl) ?_
  refine call_Ti (rest := [.int (nI ((la - st) + 1))]) (As := []) (c1 := 0) (s1 := 0) ⟨hx, hb, hml, hown, hts⟩ (c_J0_length_8abf5 l G i9 (by first | assumption | omega)) (cwV 0 hts gX5_spells_J0_length_8abf5 rfl rfl rfl (by decide +kernel) ⟨Nat.le_of_ble_eq_true rfl, Nat.le_of_ble_eq_true rfl⟩) hK hN hSS hP hD hS hA (i9) (hi9) rfl hl.1 rfl (Nat.le_of_ble_eq_true rfl) dX5_spells_6 ⟨Nat.le_of_ble_eq_true rfl, Nat.le_of_ble_eq_true rfl⟩ rfl rfl (fun r_6 u_6 H locs hpo hP hD hS => ?_)
  obtain ⟨hr9, rfl⟩ := hpo
  subst r_6
  have hP : va_P G.1 vwCl [(tx, OB 5 [.ref tb, .int (nI tn)]), (tb, AI G 120 tf)] H := hP
  have hD : va_D A [(tx, OB 5 [.ref tb, .int (nI tn)]), (tb, AI G 120 tf)] := hD
  refine lv_icmp_eq (tgt := 14) hx hb dX5_spells_9 (by decide) (fun c_9 => ?_) (fun c_9 => ?_)
  ·
    have c_9 : ((la - st) + 1) = (lnS i9) := (nI_eq (a := (la - st) + 1) (b := lnS i9) (by omega) (by omega)).mp c_9
    have hw9 : splB tf tn st la i9 = allU (fun k => getF tf tn (nI (st + k)) == chS i9 k) 0 (lnS i9) := by simp [splB, c_9]
    refine lv_iconst (v := 0) hx hb dX5_spells_14 (by decide) ?_
    refine lv_istore (lv' := [(4, .int 0), (0, .ref tx), (1, .int (nI st)), (2, .int (nI la)), (3, .ref (G.2.2.2.2.2.1 i9))]) hx hb dX5_spells_15 hl (by decide) rfl (fun ls hl => ?_)
    have L17 : ∀ (kf : Nat) (i : Nat) (H : Heap) (locs : List Loc) (ls : Array Slot), lnS i9 - i < kf → (i ≤ lnS i9) → (allU (fun k => getF tf tn (nI (st + k)) == chS i9 k) i (lnS i9 - i) = allU (fun k => getF tf tn (nI (st + k)) == chS i9 k) 0 (lnS i9)) → va_P G.1 vwCl [(tx, OB 5 [.ref tb, .int (nI tn)]), (tb, AI G 120 tf)] H → va_D A [(tx, OB 5 [.ref tb, .int (nI tn)]), (tb, AI G 120 tf)] → va_S A s.heap H locs → lv_has ls 5 [(0, .ref tx), (1, .int (nI st)), (2, .int (nI la)), (3, .ref (G.2.2.2.2.2.1 i9)), (4, .int (nI i))] → W p l e rmX5_spells s m ([.ref tx, .int (nI st), .int (nI la), .ref (G.2.2.2.2.2.1 i9)] : List Value).toArray below meth c H locs 0 0 Q (F0 m 17 ls []) := by
      intro kf
      induction kf with
      | zero => intro i H locs ls h; exact absurd h (Nat.not_lt_zero _)
      | succ kf ih =>
        intro i H locs ls hk hi ha hP hD hS hl
        refine lv_iload hx hb dX5_spells_17 (lv_at hl 4 rfl) ?_
        refine lv_aload_n hx hb dX5_spells_19 rfl (lv_at hl 3 rfl) ?_
        refine call_Ti (rest := [.int (nI i)]) (As := []) (c1 := 0) (s1 := 0) ⟨hx, hb, hml, hown, hts⟩ (c_J0_length_8abf5 l G i9 (by first | assumption | omega)) (cwV 0 hts gX5_spells_J0_length_8abf5 rfl rfl rfl (by decide +kernel) ⟨Nat.le_of_ble_eq_true rfl, Nat.le_of_ble_eq_true rfl⟩) hK hN hSS hP hD hS hA (i9) (hi9) rfl hl.1 rfl (Nat.le_of_ble_eq_true rfl) dX5_spells_20 ⟨Nat.le_of_ble_eq_true rfl, Nat.le_of_ble_eq_true rfl⟩ rfl rfl (fun r_20 u_20 H locs hpo hP hD hS => ?_)
        obtain ⟨hr9, rfl⟩ := hpo
        subst r_20
        have hP : va_P G.1 vwCl [(tx, OB 5 [.ref tb, .int (nI tn)]), (tb, AI G 120 tf)] H := hP
        have hD : va_D A [(tx, OB 5 [.ref tb, .int (nI tn)]), (tb, AI G 120 tf)] := hD
        refine lv_icmp_ge (tgt := 51) hx hb dX5_spells_23 (by decide) (fun c_23 => ?_) (fun c_23 => ?_)
        ·
          have c_23 : (lnS i9) ≤ i := (nI_leI (a := lnS i9) (b := i) (by omega) (by omega)).mp c_23
          refine lv_iconst (v := 1) hx hb dX5_spells_51 (by decide) ?_
          exact ret 1 _ _ _ _ _ _ _ (Nat.le_of_ble_eq_true rfl) (Nat.le_of_ble_eq_true rfl) (rfl) (⟨by rw [hw9, ← ha, show lnS i9 - i = 0 by omega]; rfl, rfl⟩) (hP.sub (ws' := [(tx, OB 5 [.ref tb, .int (nI tn)]), (tb, AI G 120 tf)]) [0, 1] rfl) (hD.sub (ws' := [(tx, OB 5 [.ref tb, .int (nI tn)]), (tb, AI G 120 tf)]) [0, 1] (by decide) rfl) hS dX5_spells_52
        ·
          have c_23 : i < (lnS i9) := by have h9 := mt (nI_leI (a := lnS i9) (b := i) (by omega) (by omega)).mpr c_23; omega
          refine lv_aload_n hx hb dX5_spells_26 rfl (lv_at hl 0 rfl) ?_
          refine lv_iload_n hx hb dX5_spells_27 rfl (lv_at hl 1 rfl) ?_
          refine lv_iload hx hb dX5_spells_28 (lv_at hl 4 rfl) ?_
          refine wn_iadd hx hb (st) (i) rfl rfl dX5_spells_30 ?_
          refine call_Vi (rest := []) (As := [.int (nI (st + i))]) (wr := []) (c1 := 0) (s1 := 0) ⟨hx, hb, hml, hown, hts⟩ (c_X5_at l G tx tb tf tn (nI (st + i)) (by first | assumption | omega)) (cwV 1 hts gX5_spells_X5_at rfl rfl rfl (by decide +kernel) ⟨Nat.le_of_ble_eq_true rfl, Nat.le_of_ble_eq_true rfl⟩) hK hN hSS hP hD hS hA 0 5 rfl rfl rfl [0, 1] [] rfl rfl (by decide) (by decide) (by decide) rfl hl.1 rfl (Nat.le_of_ble_eq_true rfl) dX5_spells_31 ⟨Nat.le_of_ble_eq_true rfl, Nat.le_of_ble_eq_true rfl⟩ rfl rfl (fun r_31 u_31 H locs hpo hP hD hS => ?_)
          obtain ⟨hr9, rfl⟩ := hpo
          subst r_31
          have hP : va_P G.1 vwCl [(tx, OB 5 [.ref tb, .int (nI tn)]), (tb, AI G 120 tf)] H := hP
          have hD : va_D A [(tx, OB 5 [.ref tb, .int (nI tn)]), (tb, AI G 120 tf)] := hD
          refine lv_aload_n hx hb dX5_spells_34 rfl (lv_at hl 3 rfl) ?_
          refine lv_iload hx hb dX5_spells_35 (lv_at hl 4 rfl) ?_
          refine call_Ti (rest := [.int (getF tf tn (nI (st + i)))]) (As := [.int (nI i)]) (c1 := 0) (s1 := 0) ⟨hx, hb, hml, hown, hts⟩ (c_J0_charAt_5068e l G i9 i (by first | assumption | omega) (c_23)) (cwV 1 hts gX5_spells_J0_charAt_5068e rfl rfl rfl (by decide +kernel) ⟨Nat.le_of_ble_eq_true rfl, Nat.le_of_ble_eq_true rfl⟩) hK hN hSS hP hD hS hA (i9) (hi9) rfl hl.1 rfl (Nat.le_of_ble_eq_true rfl) dX5_spells_37 ⟨Nat.le_of_ble_eq_true rfl, Nat.le_of_ble_eq_true rfl⟩ rfl rfl (fun r_37 u_37 H locs hpo hP hD hS => ?_)
          obtain ⟨hr9, rfl⟩ := hpo
          subst r_37
          have hP : va_P G.1 vwCl [(tx, OB 5 [.ref tb, .int (nI tn)]), (tb, AI G 120 tf)] H := hP
          have hD : va_D A [(tx, OB 5 [.ref tb, .int (nI tn)]), (tb, AI G 120 tf)] := hD
          refine lv_icmp_eq (tgt := 45) hx hb dX5_spells_40 (by decide) (fun c_40 => ?_) (fun c_40 => ?_)
          ·
            refine lv_iinc (v := nI (i + 1)) (lv' := [(4, .int (nI (i + 1))), (0, .ref tx), (1, .int (nI st)), (2, .int (nI la)), (3, .ref (G.2.2.2.2.2.1 i9))]) hx hb dX5_spells_45 hl (k := 4) rfl (nI_inc (i) 1) (by decide) rfl (fun ls hl => ?_)
            refine lv_goto (tgt := 17) hx hb dX5_spells_48 (by decide) ?_
            exact ih (i + 1) _ _ _ (by omega) (by omega) (by rw [← ha, show lnS i9 - i = (lnS i9 - (i + 1)) + 1 by omega]; simp [allU, c_40]) (hP.sub (ws' := [(tx, OB 5 [.ref tb, .int (nI tn)]), (tb, AI G 120 tf)]) [0, 1] rfl) (hD.sub (ws' := [(tx, OB 5 [.ref tb, .int (nI tn)]), (tb, AI G 120 tf)]) [0, 1] (by decide) rfl) hS (lv_sub (l' := [(0, .ref tx), (1, .int (nI st)), (2, .int (nI la)), (3, .ref (G.2.2.2.2.2.1 i9)), (4, .int (nI (i + 1)))]) hl [1, 2, 3, 4, 0] rfl)
          ·
            refine lv_iconst (v := 0) hx hb dX5_spells_43 (by decide) ?_
            exact ret 0 _ _ _ _ _ _ _ (Nat.le_of_ble_eq_true rfl) (Nat.le_of_ble_eq_true rfl) (rfl) (⟨by rw [hw9, ← ha, show lnS i9 - i = (lnS i9 - (i + 1)) + 1 by omega]; simp [allU, c_40, bI], rfl⟩) (hP.sub (ws' := [(tx, OB 5 [.ref tb, .int (nI tn)]), (tb, AI G 120 tf)]) [0, 1] rfl) (hD.sub (ws' := [(tx, OB 5 [.ref tb, .int (nI tn)]), (tb, AI G 120 tf)]) [0, 1] (by decide) rfl) hS dX5_spells_44
    exact L17 ((lnS i9 - 0) + 1) 0 _ _ _ (Nat.lt_succ_self _) (Nat.zero_le _) (rfl) (hP.sub (ws' := [(tx, OB 5 [.ref tb, .int (nI tn)]), (tb, AI G 120 tf)]) [0, 1] rfl) (hD.sub (ws' := [(tx, OB 5 [.ref tb, .int (nI tn)]), (tb, AI G 120 tf)]) [0, 1] (by decide) rfl) hS (lv_sub (l' := [(0, .ref tx), (1, .int (nI st)), (2, .int (nI la)), (3, .ref (G.2.2.2.2.2.1 i9)), (4, .int (nI 0))]) hl [1, 2, 3, 4, 0] rfl)
  ·
    have c_9 : ((la - st) + 1) ≠ (lnS i9) := by have h9 := mt (nI_eq (a := (la - st) + 1) (b := lnS i9) (by omega) (by omega)).mpr c_9; omega
    refine lv_iconst (v := 0) hx hb dX5_spells_12 (by decide) ?_
    exact ret 0 _ _ _ _ _ _ _ (Nat.le_of_ble_eq_true rfl) (Nat.le_of_ble_eq_true rfl) (rfl) (⟨by simp [splB, bI, c_9], rfl⟩) (hP.sub (ws' := [(tx, OB 5 [.ref tb, .int (nI tn)]), (tb, AI G 120 tf)]) [0, 1] rfl) (hD.sub (ws' := [(tx, OB 5 [.ref tb, .int (nI tn)]), (tb, AI G 120 tf)]) [0, 1] (by decide) rfl) hS dX5_spells_13
abbrev rmX2_wordOf : Room := { frames := 5, cells := 0, slots := 0, locals := 109 }
set_option maxHeartbeats 4000000 in
set_option maxRecDepth 100000 in
theorem c_X2_wordOf (l : Launch) (G : GT) (tx tb : Nat) (tf : Nat → Int32) (tn : Nat) (st la : Nat) (hn : tn ≤ 120) (hsl : st ≤ la) (hla : la < 1000) : Ci l yX2_wordOf wsX2_wordOf rmX2_wordOf G [.ref tx, .int (nI st), .int (nI la)] [(tx, OB 5 [.ref tb, .int (nI tn)]), (tb, AI G 120 tf)] (fun r u => r = wrdC tf tn st la ∧ u = [(tx, OB 5 [.ref tb, .int (nI tn)]), (tb, AI G 120 tf)]) := by
  refine Ci.of (cc := cX2_wordOf) (maxL := 3) (ty := .int) (by decide) rfl (Nat.le_of_ble_eq_true rfl) ?_
  intro p e s m below meth c A ls Q hx hb hml hts hown hA hS hP hK hN hSS hD hl ret
  have hown : s.vm.findClass RX2 = some m.cls := hown
  have hl : lv_has ls 3 [(0, .ref tx), (1, .int (nI st)), (2, .int (nI la))] := hl
  refine lv_aload_n hx hb dX2_wordOf_0 rfl (lv_at hl 0 rfl) ?_
  refine lv_iload_n hx hb dX2_wordOf_1 rfl (lv_at hl 1 rfl) ?_
  refine lv_iload_n hx hb dX2_wordOf_2 rfl (lv_at hl 2 rfl) ?_
  refine va_ldcS hx hb hown hSS.2.1.1 dX2_wordOf_3 ?_
  refine call_Vi (rest := []) (As := [.int (nI st), .int (nI la), .ref (G.2.2.2.2.2.1 0)]) (wr := []) (c1 := 0) (s1 := 0) ⟨hx, hb, hml, hown, hts⟩ (c_X5_spells l G tx tb tf tn st la 0 (by first | assumption | omega) (by first | assumption | omega) (by first | assumption | omega) (by first | assumption | omega)) (cwV 3 hts gX2_wordOf_X5_spells rfl rfl rfl (by decide +kernel) ⟨Nat.le_of_ble_eq_true rfl, Nat.le_of_ble_eq_true rfl⟩) hK hN hSS hP hD hS hA 0 5 rfl rfl rfl [0, 1] [] rfl rfl (by decide) (by decide) (by decide) rfl hl.1 rfl (Nat.le_of_ble_eq_true rfl) dX2_wordOf_5 ⟨Nat.le_of_ble_eq_true rfl, Nat.le_of_ble_eq_true rfl⟩ rfl rfl (fun r_5 u_5 H locs hpo hP hD hS => ?_)
  obtain ⟨hr9, rfl⟩ := hpo
  subst r_5
  have hP : va_P G.1 vwCl [(tx, OB 5 [.ref tb, .int (nI tn)]), (tb, AI G 120 tf)] H := hP
  have hD : va_D A [(tx, OB 5 [.ref tb, .int (nI tn)]), (tb, AI G 120 tf)] := hD
  refine wb_eq (tgt := 14) hx hb dX2_wordOf_8 (by decide) (fun c_8 => ?_) (fun c_8 => ?_)
  ·
    refine lv_aload_n hx hb dX2_wordOf_14 rfl (lv_at hl 0 rfl) ?_
    refine lv_iload_n hx hb dX2_wordOf_15 rfl (lv_at hl 1 rfl) ?_
    refine lv_iload_n hx hb dX2_wordOf_16 rfl (lv_at hl 2 rfl) ?_
    refine va_ldcS hx hb hown hSS.2.1.2.1 dX2_wordOf_17 ?_
    refine call_Vi (rest := []) (As := [.int (nI st), .int (nI la), .ref (G.2.2.2.2.2.1 1)]) (wr := []) (c1 := 0) (s1 := 0) ⟨hx, hb, hml, hown, hts⟩ (c_X5_spells l G tx tb tf tn st la 1 (by first | assumption | omega) (by first | assumption | omega) (by first | assumption | omega) (by first | assumption | omega)) (cwV 3 hts gX2_wordOf_X5_spells rfl rfl rfl (by decide +kernel) ⟨Nat.le_of_ble_eq_true rfl, Nat.le_of_ble_eq_true rfl⟩) hK hN hSS hP hD hS hA 0 5 rfl rfl rfl [0, 1] [] rfl rfl (by decide) (by decide) (by decide) rfl hl.1 rfl (Nat.le_of_ble_eq_true rfl) dX2_wordOf_19 ⟨Nat.le_of_ble_eq_true rfl, Nat.le_of_ble_eq_true rfl⟩ rfl rfl (fun r_19 u_19 H locs hpo hP hD hS => ?_)
    obtain ⟨hr9, rfl⟩ := hpo
    subst r_19
    have hP : va_P G.1 vwCl [(tx, OB 5 [.ref tb, .int (nI tn)]), (tb, AI G 120 tf)] H := hP
    have hD : va_D A [(tx, OB 5 [.ref tb, .int (nI tn)]), (tb, AI G 120 tf)] := hD
    refine wb_eq (tgt := 28) hx hb dX2_wordOf_22 (by decide) (fun c_22 => ?_) (fun c_22 => ?_)
    ·
      refine lv_aload_n hx hb dX2_wordOf_28 rfl (lv_at hl 0 rfl) ?_
      refine lv_iload_n hx hb dX2_wordOf_29 rfl (lv_at hl 1 rfl) ?_
      refine lv_iload_n hx hb dX2_wordOf_30 rfl (lv_at hl 2 rfl) ?_
      refine va_ldcS hx hb hown hSS.2.1.2.2.1 dX2_wordOf_31 ?_
      refine call_Vi (rest := []) (As := [.int (nI st), .int (nI la), .ref (G.2.2.2.2.2.1 2)]) (wr := []) (c1 := 0) (s1 := 0) ⟨hx, hb, hml, hown, hts⟩ (c_X5_spells l G tx tb tf tn st la 2 (by first | assumption | omega) (by first | assumption | omega) (by first | assumption | omega) (by first | assumption | omega)) (cwV 3 hts gX2_wordOf_X5_spells rfl rfl rfl (by decide +kernel) ⟨Nat.le_of_ble_eq_true rfl, Nat.le_of_ble_eq_true rfl⟩) hK hN hSS hP hD hS hA 0 5 rfl rfl rfl [0, 1] [] rfl rfl (by decide) (by decide) (by decide) rfl hl.1 rfl (Nat.le_of_ble_eq_true rfl) dX2_wordOf_33 ⟨Nat.le_of_ble_eq_true rfl, Nat.le_of_ble_eq_true rfl⟩ rfl rfl (fun r_33 u_33 H locs hpo hP hD hS => ?_)
      obtain ⟨hr9, rfl⟩ := hpo
      subst r_33
      have hP : va_P G.1 vwCl [(tx, OB 5 [.ref tb, .int (nI tn)]), (tb, AI G 120 tf)] H := hP
      have hD : va_D A [(tx, OB 5 [.ref tb, .int (nI tn)]), (tb, AI G 120 tf)] := hD
      refine wb_eq (tgt := 42) hx hb dX2_wordOf_36 (by decide) (fun c_36 => ?_) (fun c_36 => ?_)
      ·
        refine lv_aload_n hx hb dX2_wordOf_42 rfl (lv_at hl 0 rfl) ?_
        refine lv_iload_n hx hb dX2_wordOf_43 rfl (lv_at hl 1 rfl) ?_
        refine lv_iload_n hx hb dX2_wordOf_44 rfl (lv_at hl 2 rfl) ?_
        refine va_ldcS hx hb hown hSS.2.1.2.2.2.1 dX2_wordOf_45 ?_
        refine call_Vi (rest := []) (As := [.int (nI st), .int (nI la), .ref (G.2.2.2.2.2.1 3)]) (wr := []) (c1 := 0) (s1 := 0) ⟨hx, hb, hml, hown, hts⟩ (c_X5_spells l G tx tb tf tn st la 3 (by first | assumption | omega) (by first | assumption | omega) (by first | assumption | omega) (by first | assumption | omega)) (cwV 3 hts gX2_wordOf_X5_spells rfl rfl rfl (by decide +kernel) ⟨Nat.le_of_ble_eq_true rfl, Nat.le_of_ble_eq_true rfl⟩) hK hN hSS hP hD hS hA 0 5 rfl rfl rfl [0, 1] [] rfl rfl (by decide) (by decide) (by decide) rfl hl.1 rfl (Nat.le_of_ble_eq_true rfl) dX2_wordOf_47 ⟨Nat.le_of_ble_eq_true rfl, Nat.le_of_ble_eq_true rfl⟩ rfl rfl (fun r_47 u_47 H locs hpo hP hD hS => ?_)
        obtain ⟨hr9, rfl⟩ := hpo
        subst r_47
        have hP : va_P G.1 vwCl [(tx, OB 5 [.ref tb, .int (nI tn)]), (tb, AI G 120 tf)] H := hP
        have hD : va_D A [(tx, OB 5 [.ref tb, .int (nI tn)]), (tb, AI G 120 tf)] := hD
        refine wb_eq (tgt := 56) hx hb dX2_wordOf_50 (by decide) (fun c_50 => ?_) (fun c_50 => ?_)
        ·
          refine lv_aload_n hx hb dX2_wordOf_56 rfl (lv_at hl 0 rfl) ?_
          refine lv_iload_n hx hb dX2_wordOf_57 rfl (lv_at hl 1 rfl) ?_
          refine lv_iload_n hx hb dX2_wordOf_58 rfl (lv_at hl 2 rfl) ?_
          refine va_ldcS hx hb hown hSS.2.1.2.2.2.2 dX2_wordOf_59 ?_
          refine call_Vi (rest := []) (As := [.int (nI st), .int (nI la), .ref (G.2.2.2.2.2.1 4)]) (wr := []) (c1 := 0) (s1 := 0) ⟨hx, hb, hml, hown, hts⟩ (c_X5_spells l G tx tb tf tn st la 4 (by first | assumption | omega) (by first | assumption | omega) (by first | assumption | omega) (by first | assumption | omega)) (cwV 3 hts gX2_wordOf_X5_spells rfl rfl rfl (by decide +kernel) ⟨Nat.le_of_ble_eq_true rfl, Nat.le_of_ble_eq_true rfl⟩) hK hN hSS hP hD hS hA 0 5 rfl rfl rfl [0, 1] [] rfl rfl (by decide) (by decide) (by decide) rfl hl.1 rfl (Nat.le_of_ble_eq_true rfl) dX2_wordOf_61 ⟨Nat.le_of_ble_eq_true rfl, Nat.le_of_ble_eq_true rfl⟩ rfl rfl (fun r_61 u_61 H locs hpo hP hD hS => ?_)
          obtain ⟨hr9, rfl⟩ := hpo
          subst r_61
          have hP : va_P G.1 vwCl [(tx, OB 5 [.ref tb, .int (nI tn)]), (tb, AI G 120 tf)] H := hP
          have hD : va_D A [(tx, OB 5 [.ref tb, .int (nI tn)]), (tb, AI G 120 tf)] := hD
          refine wb_eq (tgt := 72) hx hb dX2_wordOf_64 (by decide) (fun c_64 => ?_) (fun c_64 => ?_)
          ·
            refine lv_bipush (v := 17) hx hb dX2_wordOf_72 (by decide) ?_
            exact ret 17 _ _ _ _ _ _ _ (Nat.le_of_ble_eq_true rfl) (Nat.le_of_ble_eq_true rfl) (rfl) (⟨by simp [wrdC, c_8, c_22, c_36, c_50, c_64], rfl⟩) (hP.sub (ws' := [(tx, OB 5 [.ref tb, .int (nI tn)]), (tb, AI G 120 tf)]) [0, 1] rfl) (hD.sub (ws' := [(tx, OB 5 [.ref tb, .int (nI tn)]), (tb, AI G 120 tf)]) [0, 1] (by decide) rfl) hS dX2_wordOf_74
          ·
            refine lv_bipush (v := 16) hx hb dX2_wordOf_67 (by decide) ?_
            refine lv_goto (tgt := 74) hx hb dX2_wordOf_69 (by decide) ?_
            exact ret 16 _ _ _ _ _ _ _ (Nat.le_of_ble_eq_true rfl) (Nat.le_of_ble_eq_true rfl) (rfl) (⟨by simp [wrdC, c_8, c_22, c_36, c_50, c_64], rfl⟩) (hP.sub (ws' := [(tx, OB 5 [.ref tb, .int (nI tn)]), (tb, AI G 120 tf)]) [0, 1] rfl) (hD.sub (ws' := [(tx, OB 5 [.ref tb, .int (nI tn)]), (tb, AI G 120 tf)]) [0, 1] (by decide) rfl) hS dX2_wordOf_74
        ·
          refine lv_bipush (v := 15) hx hb dX2_wordOf_53 (by decide) ?_
          exact ret 15 _ _ _ _ _ _ _ (Nat.le_of_ble_eq_true rfl) (Nat.le_of_ble_eq_true rfl) (rfl) (⟨by simp [wrdC, c_8, c_22, c_36, c_50], rfl⟩) (hP.sub (ws' := [(tx, OB 5 [.ref tb, .int (nI tn)]), (tb, AI G 120 tf)]) [0, 1] rfl) (hD.sub (ws' := [(tx, OB 5 [.ref tb, .int (nI tn)]), (tb, AI G 120 tf)]) [0, 1] (by decide) rfl) hS dX2_wordOf_55
      ·
        refine lv_bipush (v := 14) hx hb dX2_wordOf_39 (by decide) ?_
        exact ret 14 _ _ _ _ _ _ _ (Nat.le_of_ble_eq_true rfl) (Nat.le_of_ble_eq_true rfl) (rfl) (⟨by simp [wrdC, c_8, c_22, c_36], rfl⟩) (hP.sub (ws' := [(tx, OB 5 [.ref tb, .int (nI tn)]), (tb, AI G 120 tf)]) [0, 1] rfl) (hD.sub (ws' := [(tx, OB 5 [.ref tb, .int (nI tn)]), (tb, AI G 120 tf)]) [0, 1] (by decide) rfl) hS dX2_wordOf_41
    ·
      refine lv_bipush (v := 13) hx hb dX2_wordOf_25 (by decide) ?_
      exact ret 13 _ _ _ _ _ _ _ (Nat.le_of_ble_eq_true rfl) (Nat.le_of_ble_eq_true rfl) (rfl) (⟨by simp [wrdC, c_8, c_22], rfl⟩) (hP.sub (ws' := [(tx, OB 5 [.ref tb, .int (nI tn)]), (tb, AI G 120 tf)]) [0, 1] rfl) (hD.sub (ws' := [(tx, OB 5 [.ref tb, .int (nI tn)]), (tb, AI G 120 tf)]) [0, 1] (by decide) rfl) hS dX2_wordOf_27
  ·
    refine lv_bipush (v := 12) hx hb dX2_wordOf_11 (by decide) ?_
    exact ret 12 _ _ _ _ _ _ _ (Nat.le_of_ble_eq_true rfl) (Nat.le_of_ble_eq_true rfl) (rfl) (⟨by simp [wrdC, c_8], rfl⟩) (hP.sub (ws' := [(tx, OB 5 [.ref tb, .int (nI tn)]), (tb, AI G 120 tf)]) [0, 1] rfl) (hD.sub (ws' := [(tx, OB 5 [.ref tb, .int (nI tn)]), (tb, AI G 120 tf)]) [0, 1] (by decide) rfl) hS dX2_wordOf_13
abbrev rmX2_tokenOf : Room := { frames := 6, cells := 0, slots := 0, locals := 131 }
set_option maxHeartbeats 4000000 in
set_option maxRecDepth 100000 in
theorem c_X2_tokenOf (l : Launch) (G : GT) (tx tb : Nat) (tf : Nat → Int32) (tn : Nat) (st la : Nat) (hn : tn ≤ 120) (hsl : st ≤ la) (hla : la < 1000) : Ci l yX2_tokenOf wsX2_tokenOf rmX2_tokenOf G [.ref tx, .int (nI st), .int (nI la)] [(tx, OB 5 [.ref tb, .int (nI tn)]), (tb, AI G 120 tf)] (fun r u => r = tokC tf tn st la ∧ u = [(tx, OB 5 [.ref tb, .int (nI tn)]), (tb, AI G 120 tf)]) := by
  refine Ci.of (cc := cX2_tokenOf) (maxL := 4) (ty := .int) (by decide) rfl (Nat.le_of_ble_eq_true rfl) ?_
  intro p e s m below meth c A ls Q hx hb hml hts hown hA hS hP hK hN hSS hD hl ret
  have hown : s.vm.findClass RX2 = some m.cls := hown
  have hl : lv_has ls 4 [(0, .ref tx), (1, .int (nI st)), (2, .int (nI la))] := hl
  refine lv_aload_n hx hb dX2_tokenOf_0 rfl (lv_at hl 0 rfl) ?_
  refine lv_iload_n hx hb dX2_tokenOf_1 rfl (lv_at hl 1 rfl) ?_
  refine call_Vi (rest := []) (As := [.int (nI st)]) (wr := []) (c1 := 0) (s1 := 0) ⟨hx, hb, hml, hown, hts⟩ (c_X5_isLetter l G tx tb tf tn (nI st) (by first | assumption | omega)) (cwV 1 hts gX2_tokenOf_X5_isLetter rfl rfl rfl (by decide +kernel) ⟨Nat.le_of_ble_eq_true rfl, Nat.le_of_ble_eq_true rfl⟩) hK hN hSS hP hD hS hA 0 5 rfl rfl rfl [0, 1] [] rfl rfl (by decide) (by decide) (by decide) rfl hl.1 rfl (Nat.le_of_ble_eq_true rfl) dX2_tokenOf_2 ⟨Nat.le_of_ble_eq_true rfl, Nat.le_of_ble_eq_true rfl⟩ rfl rfl (fun r_2 u_2 H locs hpo hP hD hS => ?_)
  obtain ⟨hr9, rfl⟩ := hpo
  subst r_2
  have hP : va_P G.1 vwCl [(tx, OB 5 [.ref tb, .int (nI tn)]), (tb, AI G 120 tf)] H := hP
  have hD : va_D A [(tx, OB 5 [.ref tb, .int (nI tn)]), (tb, AI G 120 tf)] := hD
  refine wb_eq (tgt := 15) hx hb dX2_tokenOf_5 (by decide) (fun c_5 => ?_) (fun c_5 => ?_)
  ·
    refine lv_aload_n hx hb dX2_tokenOf_15 rfl (lv_at hl 0 rfl) ?_
    refine lv_iload_n hx hb dX2_tokenOf_16 rfl (lv_at hl 1 rfl) ?_
    refine call_Vi (rest := []) (As := [.int (nI st)]) (wr := []) (c1 := 0) (s1 := 0) ⟨hx, hb, hml, hown, hts⟩ (c_X5_at l G tx tb tf tn (nI st) (by first | assumption | omega)) (cwV 1 hts gX2_tokenOf_X5_at rfl rfl rfl (by decide +kernel) ⟨Nat.le_of_ble_eq_true rfl, Nat.le_of_ble_eq_true rfl⟩) hK hN hSS hP hD hS hA 0 5 rfl rfl rfl [0, 1] [] rfl rfl (by decide) (by decide) (by decide) rfl hl.1 rfl (Nat.le_of_ble_eq_true rfl) dX2_tokenOf_17 ⟨Nat.le_of_ble_eq_true rfl, Nat.le_of_ble_eq_true rfl⟩ rfl rfl (fun r_17 u_17 H locs hpo hP hD hS => ?_)
    obtain ⟨hr9, rfl⟩ := hpo
    subst r_17
    have hP : va_P G.1 vwCl [(tx, OB 5 [.ref tb, .int (nI tn)]), (tb, AI G 120 tf)] H := hP
    have hD : va_D A [(tx, OB 5 [.ref tb, .int (nI tn)]), (tb, AI G 120 tf)] := hD
    refine lv_istore_n (lv' := [(3, .int (getF tf tn (nI st))), (0, .ref tx), (1, .int (nI st)), (2, .int (nI la))]) hx hb dX2_tokenOf_20 rfl hl (by decide) rfl (fun ls hl => ?_)
    refine lv_iload_n hx hb dX2_tokenOf_21 rfl (lv_at hl 0 rfl) ?_
    refine lv_bipush (v := 48) hx hb dX2_tokenOf_22 (by decide) ?_
    refine lv_icmp_lt (tgt := 38) hx hb dX2_tokenOf_24 (by decide) (fun c_24 => ?_) (fun c_24 => ?_)
    ·
      have hdg : ¬ (¬ getF tf tn (nI st) < 48 ∧ ¬ 57 < getF tf tn (nI st)) := fun h9 => h9.1 c_24
      refine lv_iload_n hx hb dX2_tokenOf_38 rfl (lv_at hl 0 rfl) ?_
      refine lv_bipush (v := 45) hx hb dX2_tokenOf_39 (by decide) ?_
      refine lv_icmp_ne (tgt := 47) hx hb dX2_tokenOf_41 (by decide) (fun c_41 => ?_) (fun c_41 => ?_)
      ·
        refine lv_iload_n hx hb dX2_tokenOf_47 rfl (lv_at hl 0 rfl) ?_
        refine lv_bipush (v := 59) hx hb dX2_tokenOf_48 (by decide) ?_
        refine lv_icmp_ne (tgt := 58) hx hb dX2_tokenOf_50 (by decide) (fun c_50 => ?_) (fun c_50 => ?_)
        ·
          refine lv_bipush (v := 17) hx hb dX2_tokenOf_58 (by decide) ?_
          exact ret 17 _ _ _ _ _ _ _ (Nat.le_of_ble_eq_true rfl) (Nat.le_of_ble_eq_true rfl) (rfl) (⟨by first | (unfold tokC; rw [if_neg (show ¬ letB (getF tf tn (nI st)) = true by rw [c_5]; decide), if_neg hdg, if_neg c_41, if_pos c_50]; done) | (unfold tokC; rw [if_neg (show ¬ letB (getF tf tn (nI st)) = true by rw [c_5]; decide), if_neg hdg, if_neg c_41, if_neg c_50]), rfl⟩) (hP.sub (ws' := [(tx, OB 5 [.ref tb, .int (nI tn)]), (tb, AI G 120 tf)]) [0, 1] rfl) (hD.sub (ws' := [(tx, OB 5 [.ref tb, .int (nI tn)]), (tb, AI G 120 tf)]) [0, 1] (by decide) rfl) hS dX2_tokenOf_60
        ·
          refine lv_bipush (v := 11) hx hb dX2_tokenOf_53 (by decide) ?_
          refine lv_goto (tgt := 60) hx hb dX2_tokenOf_55 (by decide) ?_
          exact ret 11 _ _ _ _ _ _ _ (Nat.le_of_ble_eq_true rfl) (Nat.le_of_ble_eq_true rfl) (rfl) (⟨by first | (unfold tokC; rw [if_neg (show ¬ letB (getF tf tn (nI st)) = true by rw [c_5]; decide), if_neg hdg, if_neg c_41, if_pos c_50]; done) | (unfold tokC; rw [if_neg (show ¬ letB (getF tf tn (nI st)) = true by rw [c_5]; decide), if_neg hdg, if_neg c_41, if_neg c_50]), rfl⟩) (hP.sub (ws' := [(tx, OB 5 [.ref tb, .int (nI tn)]), (tb, AI G 120 tf)]) [0, 1] rfl) (hD.sub (ws' := [(tx, OB 5 [.ref tb, .int (nI tn)]), (tb, AI G 120 tf)]) [0, 1] (by decide) rfl) hS dX2_tokenOf_60
      ·
        refine lv_bipush (v := 10) hx hb dX2_tokenOf_44 (by decide) ?_
        exact ret 10 _ _ _ _ _ _ _ (Nat.le_of_ble_eq_true rfl) (Nat.le_of_ble_eq_true rfl) (rfl) (⟨by unfold tokC; rw [if_neg (show ¬ letB (getF tf tn (nI st)) = true by rw [c_5]; decide), if_neg hdg, if_pos c_41], rfl⟩) (hP.sub (ws' := [(tx, OB 5 [.ref tb, .int (nI tn)]), (tb, AI G 120 tf)]) [0, 1] rfl) (hD.sub (ws' := [(tx, OB 5 [.ref tb, .int (nI tn)]), (tb, AI G 120 tf)]) [0, 1] (by decide) rfl) hS dX2_tokenOf_46
    ·
      refine lv_iload_n hx hb dX2_tokenOf_27 rfl (lv_at hl 0 rfl) ?_
      refine lv_bipush (v := 57) hx hb dX2_tokenOf_28 (by decide) ?_
      refine lv_icmp_gt (tgt := 38) hx hb dX2_tokenOf_30 (by decide) (fun c_30 => ?_) (fun c_30 => ?_)
      ·
        have hdg : ¬ (¬ getF tf tn (nI st) < 48 ∧ ¬ 57 < getF tf tn (nI st)) := fun h9 => h9.2 c_30
        refine lv_iload_n hx hb dX2_tokenOf_38 rfl (lv_at hl 0 rfl) ?_
        refine lv_bipush (v := 45) hx hb dX2_tokenOf_39 (by decide) ?_
        refine lv_icmp_ne (tgt := 47) hx hb dX2_tokenOf_41 (by decide) (fun c_41 => ?_) (fun c_41 => ?_)
        ·
          refine lv_iload_n hx hb dX2_tokenOf_47 rfl (lv_at hl 0 rfl) ?_
          refine lv_bipush (v := 59) hx hb dX2_tokenOf_48 (by decide) ?_
          refine lv_icmp_ne (tgt := 58) hx hb dX2_tokenOf_50 (by decide) (fun c_50 => ?_) (fun c_50 => ?_)
          ·
            refine lv_bipush (v := 17) hx hb dX2_tokenOf_58 (by decide) ?_
            exact ret 17 _ _ _ _ _ _ _ (Nat.le_of_ble_eq_true rfl) (Nat.le_of_ble_eq_true rfl) (rfl) (⟨by first | (unfold tokC; rw [if_neg (show ¬ letB (getF tf tn (nI st)) = true by rw [c_5]; decide), if_neg hdg, if_neg c_41, if_pos c_50]; done) | (unfold tokC; rw [if_neg (show ¬ letB (getF tf tn (nI st)) = true by rw [c_5]; decide), if_neg hdg, if_neg c_41, if_neg c_50]), rfl⟩) (hP.sub (ws' := [(tx, OB 5 [.ref tb, .int (nI tn)]), (tb, AI G 120 tf)]) [0, 1] rfl) (hD.sub (ws' := [(tx, OB 5 [.ref tb, .int (nI tn)]), (tb, AI G 120 tf)]) [0, 1] (by decide) rfl) hS dX2_tokenOf_60
          ·
            refine lv_bipush (v := 11) hx hb dX2_tokenOf_53 (by decide) ?_
            refine lv_goto (tgt := 60) hx hb dX2_tokenOf_55 (by decide) ?_
            exact ret 11 _ _ _ _ _ _ _ (Nat.le_of_ble_eq_true rfl) (Nat.le_of_ble_eq_true rfl) (rfl) (⟨by first | (unfold tokC; rw [if_neg (show ¬ letB (getF tf tn (nI st)) = true by rw [c_5]; decide), if_neg hdg, if_neg c_41, if_pos c_50]; done) | (unfold tokC; rw [if_neg (show ¬ letB (getF tf tn (nI st)) = true by rw [c_5]; decide), if_neg hdg, if_neg c_41, if_neg c_50]), rfl⟩) (hP.sub (ws' := [(tx, OB 5 [.ref tb, .int (nI tn)]), (tb, AI G 120 tf)]) [0, 1] rfl) (hD.sub (ws' := [(tx, OB 5 [.ref tb, .int (nI tn)]), (tb, AI G 120 tf)]) [0, 1] (by decide) rfl) hS dX2_tokenOf_60
        ·
          refine lv_bipush (v := 10) hx hb dX2_tokenOf_44 (by decide) ?_
          exact ret 10 _ _ _ _ _ _ _ (Nat.le_of_ble_eq_true rfl) (Nat.le_of_ble_eq_true rfl) (rfl) (⟨by unfold tokC; rw [if_neg (show ¬ letB (getF tf tn (nI st)) = true by rw [c_5]; decide), if_neg hdg, if_pos c_41], rfl⟩) (hP.sub (ws' := [(tx, OB 5 [.ref tb, .int (nI tn)]), (tb, AI G 120 tf)]) [0, 1] rfl) (hD.sub (ws' := [(tx, OB 5 [.ref tb, .int (nI tn)]), (tb, AI G 120 tf)]) [0, 1] (by decide) rfl) hS dX2_tokenOf_46
      ·
        refine lv_iload_n hx hb dX2_tokenOf_33 rfl (lv_at hl 0 rfl) ?_
        refine lv_bipush (v := 48) hx hb dX2_tokenOf_34 (by decide) ?_
        refine lv_isub hx hb dX2_tokenOf_36 ?_
        exact ret ((getF tf tn (nI st)) - 48) _ _ _ _ _ _ _ (Nat.le_of_ble_eq_true rfl) (Nat.le_of_ble_eq_true rfl) (rfl) (⟨by unfold tokC; rw [if_neg (show ¬ letB (getF tf tn (nI st)) = true by rw [c_5]; decide), if_pos ⟨c_24, c_30⟩], rfl⟩) (hP.sub (ws' := [(tx, OB 5 [.ref tb, .int (nI tn)]), (tb, AI G 120 tf)]) [0, 1] rfl) (hD.sub (ws' := [(tx, OB 5 [.ref tb, .int (nI tn)]), (tb, AI G 120 tf)]) [0, 1] (by decide) rfl) hS dX2_tokenOf_37
  ·
    refine lv_aload_n hx hb dX2_tokenOf_8 rfl (lv_at hl 0 rfl) ?_
    refine lv_iload_n hx hb dX2_tokenOf_9 rfl (lv_at hl 1 rfl) ?_
    refine lv_iload_n hx hb dX2_tokenOf_10 rfl (lv_at hl 2 rfl) ?_
    refine call_Si (rest := []) (As := [.ref tx, .int (nI st), .int (nI la)]) (wr := []) (c1 := 0) (s1 := 0) ⟨hx, hb, hml, hown, hts⟩ (c_X2_wordOf l G tx tb tf tn st la (by first | assumption | omega) (by first | assumption | omega) (by first | assumption | omega)) (va_cwS 3 hts gX2_tokenOf_X2_wordOf rfl rfl rfl (by decide +kernel) ⟨Nat.le_of_ble_eq_true rfl, Nat.le_of_ble_eq_true rfl⟩) hK hN hSS hP hD hS hA [0, 1] [] rfl rfl (by decide) (by decide) (by decide) rfl hl.1 rfl (Nat.le_of_ble_eq_true rfl) dX2_tokenOf_11 ⟨Nat.le_of_ble_eq_true rfl, Nat.le_of_ble_eq_true rfl⟩ rfl rfl (fun r_11 u_11 H locs hpo hP hD hS => ?_)
    obtain ⟨hr9, rfl⟩ := hpo
    subst r_11
    have hP : va_P G.1 vwCl [(tx, OB 5 [.ref tb, .int (nI tn)]), (tb, AI G 120 tf)] H := hP
    have hD : va_D A [(tx, OB 5 [.ref tb, .int (nI tn)]), (tb, AI G 120 tf)] := hD
    exact ret (wrdC tf tn st la) _ _ _ _ _ _ _ (Nat.le_of_ble_eq_true rfl) (Nat.le_of_ble_eq_true rfl) (rfl) (⟨by unfold tokC; rw [if_pos c_5], rfl⟩) (hP.sub (ws' := [(tx, OB 5 [.ref tb, .int (nI tn)]), (tb, AI G 120 tf)]) [0, 1] rfl) (hD.sub (ws' := [(tx, OB 5 [.ref tb, .int (nI tn)]), (tb, AI G 120 tf)]) [0, 1] (by decide) rfl) hS dX2_tokenOf_14
abbrev rmX2_parse : Room := { frames := 7, cells := 0, slots := 0, locals := 154 }
set_option maxHeartbeats 4000000 in
set_option maxRecDepth 100000 in
theorem c_X2_parse (l : Launch) (G : GT) (pr ps pm pv : Nat) (z : CS) (tx tb : Nat) (tf : Nat → Int32) (tn : Nat) (hn : tn ≤ 120) : Ci l yX2_parse wsX2_parse rmX2_parse G [.ref pr, .ref tx] [(pr, OB 2 [.ref ps, .int z.1.1, .int z.1.2.1, .int z.1.2.2.1, .int z.1.2.2.2.1, .int z.1.2.2.2.2.1, .int z.1.2.2.2.2.2]), (ps, OB 0 [.ref pm, .ref pv, .int (nI z.2.2.2)]), (pm, AJ G 10 z.2.1), (pv, AI G 10 z.2.2.1), (tx, OB 5 [.ref tb, .int (nI tn)]), (tb, AI G 120 tf)] (fun r u => r = (prsL tf tn 0 0 ((0, z.1.2), z.2.1, z.2.2.1, 0) tn).1 ∧ u = [(pr, OB 2 [.ref ps, .int (((prsL tf tn 0 0 ((0, z.1.2), z.2.1, z.2.2.1, 0) tn).2).1.1), .int (((prsL tf tn 0 0 ((0, z.1.2), z.2.1, z.2.2.1, 0) tn).2).1.2.1), .int (((prsL tf tn 0 0 ((0, z.1.2), z.2.1, z.2.2.1, 0) tn).2).1.2.2.1), .int (((prsL tf tn 0 0 ((0, z.1.2), z.2.1, z.2.2.1, 0) tn).2).1.2.2.2.1), .int (((prsL tf tn 0 0 ((0, z.1.2), z.2.1, z.2.2.1, 0) tn).2).1.2.2.2.2.1), .int (((prsL tf tn 0 0 ((0, z.1.2), z.2.1, z.2.2.1, 0) tn).2).1.2.2.2.2.2)]), (ps, OB 0 [.ref pm, .ref pv, .int (nI (((prsL tf tn 0 0 ((0, z.1.2), z.2.1, z.2.2.1, 0) tn).2).2.2.2))]), (pm, AJ G 10 (((prsL tf tn 0 0 ((0, z.1.2), z.2.1, z.2.2.1, 0) tn).2).2.1)), (pv, AI G 10 (((prsL tf tn 0 0 ((0, z.1.2), z.2.1, z.2.2.1, 0) tn).2).2.2.1)), (tx, OB 5 [.ref tb, .int (nI tn)]), (tb, AI G 120 tf)]) := by
  refine Ci.of (cc := cX2_parse) (maxL := 5) (ty := .int) (by decide) rfl (Nat.le_of_ble_eq_true rfl) ?_
  intro p e s m below meth c A ls Q hx hb hml hts hown hA hS hP hK hN hSS hD hl ret
  have hown : s.vm.findClass RX2 = some m.cls := hown
  have hl : lv_has ls 5 [(0, .ref pr), (1, .ref tx)] := hl
  have hi2 : ∀ w ∈ wsX20, w ∈ wsX2_parse := mem_places [151, 152, 153, 154, 155, 156, 157] (by decide +kernel)
  refine lv_aload_n hx hb dX2_parse_0 rfl (lv_at hl 0 rfl) ?_
  refine va_get (D := G.1) (ci := 2) (v := .ref ps) (C := RX2) (T := TX2) (N := 7) hx hb hts hi2 hown hK hP 0 rfl rfl 0 (by decide) (hts (.fieldLink RX2 12 "ConflictEnumerator$Parser" "parsed" "LConflictEnumerator$Constraints;") (List.mem_of_getElem? (i := 1) rfl)) (fun _ h9 => h9) rfl dX2_parse_1 ?_
  refine call_Vv (rest := []) (As := []) (wr := [(pr, OB 2 [.ref ps, .int z.1.1, .int z.1.2.1, .int z.1.2.2.1, .int z.1.2.2.2.1, .int z.1.2.2.2.2.1, .int z.1.2.2.2.2.2]), (tx, OB 5 [.ref tb, .int (nI tn)]), (tb, AI G 120 tf)]) (c1 := 0) (s1 := 0) ⟨hx, hb, hml, hown, hts⟩ (c_X0_clear l G ps pm pv z.2.1 z.2.2.1 z.2.2.2 ) (cwV 0 hts gX2_parse_X0_clear rfl rfl rfl (by decide +kernel) ⟨Nat.le_of_ble_eq_true rfl, Nat.le_of_ble_eq_true rfl⟩) hK hN hSS hP hD hS hA 0 0 rfl rfl rfl [1, 2, 3] [0, 4, 5] rfl rfl (by decide) (by decide) (by decide) rfl hl.1 rfl (Nat.le_of_ble_eq_true rfl) dX2_parse_4 ⟨Nat.le_of_ble_eq_true rfl, Nat.le_of_ble_eq_true rfl⟩ rfl rfl (fun u_4 H locs hpo hP hD hS => ?_)
  subst hpo
  have hP : va_P G.1 vwCl [(pr, OB 2 [.ref ps, .int z.1.1, .int z.1.2.1, .int z.1.2.2.1, .int z.1.2.2.2.1, .int z.1.2.2.2.2.1, .int z.1.2.2.2.2.2]), (tx, OB 5 [.ref tb, .int (nI tn)]), (tb, AI G 120 tf), (ps, OB 0 [.ref pm, .ref pv, .int (nI 0)]), (pm, AJ G 10 z.2.1), (pv, AI G 10 z.2.2.1)] H := hP
  have hD : va_D A [(pr, OB 2 [.ref ps, .int z.1.1, .int z.1.2.1, .int z.1.2.2.1, .int z.1.2.2.2.1, .int z.1.2.2.2.2.1, .int z.1.2.2.2.2.2]), (tx, OB 5 [.ref tb, .int (nI tn)]), (tb, AI G 120 tf), (ps, OB 0 [.ref pm, .ref pv, .int (nI 0)]), (pm, AJ G 10 z.2.1), (pv, AI G 10 z.2.2.1)] := hD
  refine lv_aload_n hx hb dX2_parse_7 rfl (lv_at hl 0 rfl) ?_
  refine lv_iconst (v := 0) hx hb dX2_parse_8 (by decide) ?_
  refine va_put (D := G.1) (ci := 2) (v := .int 0) (ty := .int) (C := RX2) (T := TX2) (N := 7) hx hb hts hi2 tyX2 tyX2_ok nmX2 hown hK hP hD hS 0 rfl rfl 1 (by decide) (hts (.fieldLink RX2 21 "ConflictEnumerator$Parser" "place" "I") (List.mem_of_getElem? (i := 2) rfl)) (fun _ h9 => h9) rfl (by decide +kernel) rfl rfl (Nat.le_of_ble_eq_true rfl) dX2_parse_9 (fun H locs hP hD hS => ?_)
  have hP : va_P G.1 vwCl [(pr, OB 2 [.ref ps, .int 0, .int z.1.2.1, .int z.1.2.2.1, .int z.1.2.2.2.1, .int z.1.2.2.2.2.1, .int z.1.2.2.2.2.2]), (tx, OB 5 [.ref tb, .int (nI tn)]), (tb, AI G 120 tf), (ps, OB 0 [.ref pm, .ref pv, .int (nI 0)]), (pm, AJ G 10 z.2.1), (pv, AI G 10 z.2.2.1)] H := hP
  have hD : va_D A [(pr, OB 2 [.ref ps, .int 0, .int z.1.2.1, .int z.1.2.2.1, .int z.1.2.2.2.1, .int z.1.2.2.2.2.1, .int z.1.2.2.2.2.2]), (tx, OB 5 [.ref tb, .int (nI tn)]), (tb, AI G 120 tf), (ps, OB 0 [.ref pm, .ref pv, .int (nI 0)]), (pm, AJ G 10 z.2.1), (pv, AI G 10 z.2.2.1)] := hD
  refine lv_iconst (v := 0) hx hb dX2_parse_12 (by decide) ?_
  refine lv_istore_n (lv' := [(2, .int 0), (0, .ref pr), (1, .ref tx)]) hx hb dX2_parse_13 rfl hl (by decide) rfl (fun ls hl => ?_)
  refine lv_iconst (v := 0) hx hb dX2_parse_14 (by decide) ?_
  refine lv_istore_n (lv' := [(3, .int 0), (2, .int 0), (0, .ref pr), (1, .ref tx)]) hx hb dX2_parse_15 rfl hl (by decide) rfl (fun ls hl => ?_)
  have L16 : ∀ (kf : Nat) (la st : Nat) (y : CS) (H : Heap) (locs : List Loc) (ls : Array Slot), tn - la < kf → (la ≤ tn) → (st ≤ la) → (prsL tf tn la st y (tn - la) = prsL tf tn 0 0 ((0, z.1.2), z.2.1, z.2.2.1, 0) tn) → (okZ y) → va_P G.1 vwCl [(pr, OB 2 [.ref ps, .int y.1.1, .int y.1.2.1, .int y.1.2.2.1, .int y.1.2.2.2.1, .int y.1.2.2.2.2.1, .int y.1.2.2.2.2.2]), (tx, OB 5 [.ref tb, .int (nI tn)]), (tb, AI G 120 tf), (ps, OB 0 [.ref pm, .ref pv, .int (nI y.2.2.2)]), (pm, AJ G 10 y.2.1), (pv, AI G 10 y.2.2.1)] H → va_D A [(pr, OB 2 [.ref ps, .int y.1.1, .int y.1.2.1, .int y.1.2.2.1, .int y.1.2.2.2.1, .int y.1.2.2.2.2.1, .int y.1.2.2.2.2.2]), (tx, OB 5 [.ref tb, .int (nI tn)]), (tb, AI G 120 tf), (ps, OB 0 [.ref pm, .ref pv, .int (nI y.2.2.2)]), (pm, AJ G 10 y.2.1), (pv, AI G 10 y.2.2.1)] → va_S A s.heap H locs → lv_has ls 5 [(0, .ref pr), (1, .ref tx), (2, .int (nI st)), (3, .int (nI la))] → W p l e rmX2_parse s m ([.ref pr, .ref tx] : List Value).toArray below meth c H locs 0 0 Q (F0 m 16 ls []) := by
    intro kf
    induction kf with
    | zero => intro la st y H locs ls h; exact absurd h (Nat.not_lt_zero _)
    | succ kf ih =>
      intro la st y H locs ls hk hi hsl hL h8 hP hD hS hl
      refine lv_iload_n hx hb dX2_parse_16 rfl (lv_at hl 3 rfl) ?_
      refine lv_aload_n hx hb dX2_parse_17 rfl (lv_at hl 1 rfl) ?_
      refine call_Vi (rest := [.int (nI la)]) (As := []) (wr := [(pr, OB 2 [.ref ps, .int y.1.1, .int y.1.2.1, .int y.1.2.2.1, .int y.1.2.2.2.1, .int y.1.2.2.2.2.1, .int y.1.2.2.2.2.2]), (ps, OB 0 [.ref pm, .ref pv, .int (nI y.2.2.2)]), (pm, AJ G 10 y.2.1), (pv, AI G 10 y.2.2.1)]) (c1 := 0) (s1 := 0) ⟨hx, hb, hml, hown, hts⟩ (c_X5_length l G tx tb tf tn ) (cwV 0 hts gX2_parse_X5_length rfl rfl rfl (by decide +kernel) ⟨Nat.le_of_ble_eq_true rfl, Nat.le_of_ble_eq_true rfl⟩) hK hN hSS hP hD hS hA 0 5 rfl rfl rfl [1, 2] [0, 3, 4, 5] rfl rfl (by decide) (by decide) (by decide) rfl hl.1 rfl (Nat.le_of_ble_eq_true rfl) dX2_parse_18 ⟨Nat.le_of_ble_eq_true rfl, Nat.le_of_ble_eq_true rfl⟩ rfl rfl (fun r_18 u_18 H locs hpo hP hD hS => ?_)
      obtain ⟨hr9, rfl⟩ := hpo
      subst r_18
      have hP : va_P G.1 vwCl [(pr, OB 2 [.ref ps, .int y.1.1, .int y.1.2.1, .int y.1.2.2.1, .int y.1.2.2.2.1, .int y.1.2.2.2.2.1, .int y.1.2.2.2.2.2]), (ps, OB 0 [.ref pm, .ref pv, .int (nI y.2.2.2)]), (pm, AJ G 10 y.2.1), (pv, AI G 10 y.2.2.1), (tx, OB 5 [.ref tb, .int (nI tn)]), (tb, AI G 120 tf)] H := hP
      have hD : va_D A [(pr, OB 2 [.ref ps, .int y.1.1, .int y.1.2.1, .int y.1.2.2.1, .int y.1.2.2.2.1, .int y.1.2.2.2.2.1, .int y.1.2.2.2.2.2]), (ps, OB 0 [.ref pm, .ref pv, .int (nI y.2.2.2)]), (pm, AJ G 10 y.2.1), (pv, AI G 10 y.2.2.1), (tx, OB 5 [.ref tb, .int (nI tn)]), (tb, AI G 120 tf)] := hD
      refine lv_icmp_ge (tgt := 89) hx hb dX2_parse_21 (by decide) (fun c_21 => ?_) (fun c_21 => ?_)
      ·
        have c_21 : tn ≤ la := (nI_leI (a := tn) (b := la) (by omega) (by omega)).mp c_21
        obtain rfl : tn = la := by omega
        rw [Nat.sub_self] at hL
        refine lv_aload_n hx hb dX2_parse_89 rfl (lv_at hl 0 rfl) ?_
        refine va_get (D := G.1) (ci := 2) (v := .int y.1.1) (C := RX2) (T := TX2) (N := 7) hx hb hts hi2 hown hK hP 0 rfl rfl 1 (by decide) (hts (.fieldLink RX2 21 "ConflictEnumerator$Parser" "place" "I") (List.mem_of_getElem? (i := 2) rfl)) (fun _ h9 => h9) rfl dX2_parse_90 ?_
        refine lv_if_ne (tgt := 101) hx hb dX2_parse_93 (by decide) (fun c_93 => ?_) (fun c_93 => ?_)
        ·
          refine lv_aload_n hx hb dX2_parse_101 rfl (lv_at hl 1 rfl) ?_
          refine call_Vi (rest := []) (As := []) (wr := [(pr, OB 2 [.ref ps, .int y.1.1, .int y.1.2.1, .int y.1.2.2.1, .int y.1.2.2.2.1, .int y.1.2.2.2.2.1, .int y.1.2.2.2.2.2]), (ps, OB 0 [.ref pm, .ref pv, .int (nI y.2.2.2)]), (pm, AJ G 10 y.2.1), (pv, AI G 10 y.2.2.1)]) (c1 := 0) (s1 := 0) ⟨hx, hb, hml, hown, hts⟩ (c_X5_length l G tx tb tf tn ) (cwV 0 hts gX2_parse_X5_length rfl rfl rfl (by decide +kernel) ⟨Nat.le_of_ble_eq_true rfl, Nat.le_of_ble_eq_true rfl⟩) hK hN hSS hP hD hS hA 0 5 rfl rfl rfl [4, 5] [0, 1, 2, 3] rfl rfl (by decide) (by decide) (by decide) rfl hl.1 rfl (Nat.le_of_ble_eq_true rfl) dX2_parse_102 ⟨Nat.le_of_ble_eq_true rfl, Nat.le_of_ble_eq_true rfl⟩ rfl rfl (fun r_102 u_102 H locs hpo hP hD hS => ?_)
          obtain ⟨hr9, rfl⟩ := hpo
          subst r_102
          have hP : va_P G.1 vwCl [(pr, OB 2 [.ref ps, .int y.1.1, .int y.1.2.1, .int y.1.2.2.1, .int y.1.2.2.2.1, .int y.1.2.2.2.2.1, .int y.1.2.2.2.2.2]), (ps, OB 0 [.ref pm, .ref pv, .int (nI y.2.2.2)]), (pm, AJ G 10 y.2.1), (pv, AI G 10 y.2.2.1), (tx, OB 5 [.ref tb, .int (nI tn)]), (tb, AI G 120 tf)] H := hP
          have hD : va_D A [(pr, OB 2 [.ref ps, .int y.1.1, .int y.1.2.1, .int y.1.2.2.1, .int y.1.2.2.2.1, .int y.1.2.2.2.2.1, .int y.1.2.2.2.2.2]), (ps, OB 0 [.ref pm, .ref pv, .int (nI y.2.2.2)]), (pm, AJ G 10 y.2.1), (pv, AI G 10 y.2.2.1), (tx, OB 5 [.ref tb, .int (nI tn)]), (tb, AI G 120 tf)] := hD
          exact ret (nI tn) _ _ _ _ _ _ _ (Nat.le_of_ble_eq_true rfl) (Nat.le_of_ble_eq_true rfl) (rfl) (⟨by rw [← hL]; simp only [prsL, c_21, c_93, if_true, if_false], by rw [← hL]; rfl⟩) (hP.sub (ws' := [(pr, OB 2 [.ref ps, .int y.1.1, .int y.1.2.1, .int y.1.2.2.1, .int y.1.2.2.2.1, .int y.1.2.2.2.2.1, .int y.1.2.2.2.2.2]), (ps, OB 0 [.ref pm, .ref pv, .int (nI y.2.2.2)]), (pm, AJ G 10 y.2.1), (pv, AI G 10 y.2.2.1), (tx, OB 5 [.ref tb, .int (nI tn)]), (tb, AI G 120 tf)]) [0, 1, 2, 3, 4, 5] rfl) (hD.sub (ws' := [(pr, OB 2 [.ref ps, .int y.1.1, .int y.1.2.1, .int y.1.2.2.1, .int y.1.2.2.2.1, .int y.1.2.2.2.2.1, .int y.1.2.2.2.2.2]), (ps, OB 0 [.ref pm, .ref pv, .int (nI y.2.2.2)]), (pm, AJ G 10 y.2.1), (pv, AI G 10 y.2.2.1), (tx, OB 5 [.ref tb, .int (nI tn)]), (tb, AI G 120 tf)]) [0, 1, 2, 3, 4, 5] (by decide) rfl) hS dX2_parse_105
        ·
          refine lv_bipush (v := (-9)) hx hb dX2_parse_96 (by decide) ?_
          refine lv_goto (tgt := 105) hx hb dX2_parse_98 (by decide) ?_
          exact ret (-9) _ _ _ _ _ _ _ (Nat.le_of_ble_eq_true rfl) (Nat.le_of_ble_eq_true rfl) (rfl) (⟨by rw [← hL]; simp only [prsL, c_21, c_93, if_true, if_false], by rw [← hL]; rfl⟩) (hP.sub (ws' := [(pr, OB 2 [.ref ps, .int y.1.1, .int y.1.2.1, .int y.1.2.2.1, .int y.1.2.2.2.1, .int y.1.2.2.2.2.1, .int y.1.2.2.2.2.2]), (ps, OB 0 [.ref pm, .ref pv, .int (nI y.2.2.2)]), (pm, AJ G 10 y.2.1), (pv, AI G 10 y.2.2.1), (tx, OB 5 [.ref tb, .int (nI tn)]), (tb, AI G 120 tf)]) [0, 1, 2, 3, 4, 5] rfl) (hD.sub (ws' := [(pr, OB 2 [.ref ps, .int y.1.1, .int y.1.2.1, .int y.1.2.2.1, .int y.1.2.2.2.1, .int y.1.2.2.2.2.1, .int y.1.2.2.2.2.2]), (ps, OB 0 [.ref pm, .ref pv, .int (nI y.2.2.2)]), (pm, AJ G 10 y.2.1), (pv, AI G 10 y.2.2.1), (tx, OB 5 [.ref tb, .int (nI tn)]), (tb, AI G 120 tf)]) [0, 1, 2, 3, 4, 5] (by decide) rfl) hS dX2_parse_105
      ·
        have c_21 : la < tn := by have h9 := mt (nI_leI (a := tn) (b := la) (by omega) (by omega)).mpr c_21; omega
        have hsub : tn - la = (tn - (la + 1)) + 1 := by omega
        refine lv_aload_n hx hb dX2_parse_24 rfl (lv_at hl 1 rfl) ?_
        refine lv_iload_n hx hb dX2_parse_25 rfl (lv_at hl 3 rfl) ?_
        refine call_Vi (rest := []) (As := [.int (nI la)]) (wr := [(pr, OB 2 [.ref ps, .int y.1.1, .int y.1.2.1, .int y.1.2.2.1, .int y.1.2.2.2.1, .int y.1.2.2.2.2.1, .int y.1.2.2.2.2.2]), (ps, OB 0 [.ref pm, .ref pv, .int (nI y.2.2.2)]), (pm, AJ G 10 y.2.1), (pv, AI G 10 y.2.2.1)]) (c1 := 0) (s1 := 0) ⟨hx, hb, hml, hown, hts⟩ (c_X5_isLetter l G tx tb tf tn (nI la) (by first | assumption | omega)) (cwV 1 hts gX2_parse_X5_isLetter rfl rfl rfl (by decide +kernel) ⟨Nat.le_of_ble_eq_true rfl, Nat.le_of_ble_eq_true rfl⟩) hK hN hSS hP hD hS hA 0 5 rfl rfl rfl [4, 5] [0, 1, 2, 3] rfl rfl (by decide) (by decide) (by decide) rfl hl.1 rfl (Nat.le_of_ble_eq_true rfl) dX2_parse_26 ⟨Nat.le_of_ble_eq_true rfl, Nat.le_of_ble_eq_true rfl⟩ rfl rfl (fun r_26 u_26 H locs hpo hP hD hS => ?_)
        obtain ⟨hr9, rfl⟩ := hpo
        subst r_26
        have hP : va_P G.1 vwCl [(pr, OB 2 [.ref ps, .int y.1.1, .int y.1.2.1, .int y.1.2.2.1, .int y.1.2.2.2.1, .int y.1.2.2.2.2.1, .int y.1.2.2.2.2.2]), (ps, OB 0 [.ref pm, .ref pv, .int (nI y.2.2.2)]), (pm, AJ G 10 y.2.1), (pv, AI G 10 y.2.2.1), (tx, OB 5 [.ref tb, .int (nI tn)]), (tb, AI G 120 tf)] H := hP
        have hD : va_D A [(pr, OB 2 [.ref ps, .int y.1.1, .int y.1.2.1, .int y.1.2.2.1, .int y.1.2.2.2.1, .int y.1.2.2.2.2.1, .int y.1.2.2.2.2.2]), (ps, OB 0 [.ref pm, .ref pv, .int (nI y.2.2.2)]), (pm, AJ G 10 y.2.1), (pv, AI G 10 y.2.2.1), (tx, OB 5 [.ref tb, .int (nI tn)]), (tb, AI G 120 tf)] := hD
        refine wb_eq (tgt := 46) hx hb dX2_parse_29 (by decide) (fun c_29 => ?_) (fun c_29 => ?_)
        ·
          have hgo : ¬ (letB (getF tf tn (nI la)) = true ∧ letB (getF tf tn (nI (la + 1))) = true) := by rw [c_29]; simp
          refine lv_iconst (v := 0) hx hb dX2_parse_46 (by decide) ?_
          refine lv_istore (lv' := [(4, .int 0), (0, .ref pr), (1, .ref tx), (2, .int (nI st)), (3, .int (nI la))]) hx hb dX2_parse_47 hl (by decide) rfl (fun ls hl => ?_)
          refine lv_iload hx hb dX2_parse_49 (lv_at hl 0 rfl) ?_
          refine lv_if_ne (tgt := 83) hx hb dX2_parse_51 (by decide) (fun c_51 => absurd c_51 (by decide)) (fun c_51 => ?_)
          refine lv_aload_n hx hb dX2_parse_54 rfl (lv_at hl 2 rfl) ?_
          refine lv_iload_n hx hb dX2_parse_55 rfl (lv_at hl 4 rfl) ?_
          refine call_Vi (rest := []) (As := [.int (nI la)]) (wr := [(pr, OB 2 [.ref ps, .int y.1.1, .int y.1.2.1, .int y.1.2.2.1, .int y.1.2.2.2.1, .int y.1.2.2.2.2.1, .int y.1.2.2.2.2.2]), (ps, OB 0 [.ref pm, .ref pv, .int (nI y.2.2.2)]), (pm, AJ G 10 y.2.1), (pv, AI G 10 y.2.2.1)]) (c1 := 0) (s1 := 0) ⟨hx, hb, hml, hown, hts⟩ (c_X5_at l G tx tb tf tn (nI la) (by first | assumption | omega)) (cwV 1 hts gX2_parse_X5_at rfl rfl rfl (by decide +kernel) ⟨Nat.le_of_ble_eq_true rfl, Nat.le_of_ble_eq_true rfl⟩) hK hN hSS hP hD hS hA 0 5 rfl rfl rfl [4, 5] [0, 1, 2, 3] rfl rfl (by decide) (by decide) (by decide) rfl hl.1 rfl (Nat.le_of_ble_eq_true rfl) dX2_parse_56 ⟨Nat.le_of_ble_eq_true rfl, Nat.le_of_ble_eq_true rfl⟩ rfl rfl (fun r_56 u_56 H locs hpo hP hD hS => ?_)
          obtain ⟨hr9, rfl⟩ := hpo
          subst r_56
          have hP : va_P G.1 vwCl [(pr, OB 2 [.ref ps, .int y.1.1, .int y.1.2.1, .int y.1.2.2.1, .int y.1.2.2.2.1, .int y.1.2.2.2.2.1, .int y.1.2.2.2.2.2]), (ps, OB 0 [.ref pm, .ref pv, .int (nI y.2.2.2)]), (pm, AJ G 10 y.2.1), (pv, AI G 10 y.2.2.1), (tx, OB 5 [.ref tb, .int (nI tn)]), (tb, AI G 120 tf)] H := hP
          have hD : va_D A [(pr, OB 2 [.ref ps, .int y.1.1, .int y.1.2.1, .int y.1.2.2.1, .int y.1.2.2.2.1, .int y.1.2.2.2.2.1, .int y.1.2.2.2.2.2]), (ps, OB 0 [.ref pm, .ref pv, .int (nI y.2.2.2)]), (pm, AJ G 10 y.2.1), (pv, AI G 10 y.2.2.1), (tx, OB 5 [.ref tb, .int (nI tn)]), (tb, AI G 120 tf)] := hD
          refine lv_bipush (v := 32) hx hb dX2_parse_59 (by decide) ?_
          refine lv_icmp_eq (tgt := 79) hx hb dX2_parse_61 (by decide) (fun c_61 => ?_) (fun c_61 => ?_)
          ·
            refine lv_iload_n hx hb dX2_parse_79 rfl (lv_at hl 4 rfl) ?_
            refine lv_iconst (v := 1) hx hb dX2_parse_80 (by decide) ?_
            refine wn_iadd hx hb (la) (1) rfl rfl dX2_parse_81 ?_
            refine lv_istore_n (lv' := [(2, .int (nI (la + 1))), (4, .int 0), (0, .ref pr), (1, .ref tx), (3, .int (nI la))]) hx hb dX2_parse_82 rfl hl (by decide) rfl (fun ls hl => ?_)
            refine lv_iinc (v := nI (la + 1)) (lv' := [(3, .int (nI (la + 1))), (2, .int (nI (la + 1))), (4, .int 0), (0, .ref pr), (1, .ref tx)]) hx hb dX2_parse_83 hl (k := 4) rfl (nI_inc (la) 1) (by decide) rfl (fun ls hl => ?_)
            refine lv_goto (tgt := 16) hx hb dX2_parse_86 (by decide) ?_
            exact ih (la + 1) (la + 1) y _ _ _ (by omega) (by omega) (by omega) (by first | (rw [← hL, hsub, prsL, if_pos ⟨c_29, c_39⟩]; done) | (rw [← hL, hsub, prsL, if_neg hgo, if_pos c_61]; done) | (rw [← hL, hsub, prsL, if_neg hgo, if_neg c_61, if_pos c_74])) (by first | exact acA_ok h8 | exact h8) (hP.sub (ws' := [(pr, OB 2 [.ref ps, .int y.1.1, .int y.1.2.1, .int y.1.2.2.1, .int y.1.2.2.2.1, .int y.1.2.2.2.2.1, .int y.1.2.2.2.2.2]), (tx, OB 5 [.ref tb, .int (nI tn)]), (tb, AI G 120 tf), (ps, OB 0 [.ref pm, .ref pv, .int (nI y.2.2.2)]), (pm, AJ G 10 y.2.1), (pv, AI G 10 y.2.2.1)]) [0, 4, 5, 1, 2, 3] rfl) (hD.sub (ws' := [(pr, OB 2 [.ref ps, .int y.1.1, .int y.1.2.1, .int y.1.2.2.1, .int y.1.2.2.2.1, .int y.1.2.2.2.2.1, .int y.1.2.2.2.2.2]), (tx, OB 5 [.ref tb, .int (nI tn)]), (tb, AI G 120 tf), (ps, OB 0 [.ref pm, .ref pv, .int (nI y.2.2.2)]), (pm, AJ G 10 y.2.1), (pv, AI G 10 y.2.2.1)]) [0, 4, 5, 1, 2, 3] (by decide) rfl) hS (lv_sub (l' := [(0, .ref pr), (1, .ref tx), (2, .int (nI (la + 1))), (3, .int (nI (la + 1)))]) hl [3, 4, 1, 0] rfl)
          ·
            refine lv_aload_n hx hb dX2_parse_64 rfl (lv_at hl 1 rfl) ?_
            refine lv_aload_n hx hb dX2_parse_65 rfl (lv_at hl 2 rfl) ?_
            refine lv_iload_n hx hb dX2_parse_66 rfl (lv_at hl 3 rfl) ?_
            refine lv_iload_n hx hb dX2_parse_67 rfl (lv_at hl 4 rfl) ?_
            refine call_Si (rest := [.ref pr]) (As := [.ref tx, .int (nI st), .int (nI la)]) (wr := [(pr, OB 2 [.ref ps, .int y.1.1, .int y.1.2.1, .int y.1.2.2.1, .int y.1.2.2.2.1, .int y.1.2.2.2.2.1, .int y.1.2.2.2.2.2]), (ps, OB 0 [.ref pm, .ref pv, .int (nI y.2.2.2)]), (pm, AJ G 10 y.2.1), (pv, AI G 10 y.2.2.1)]) (c1 := 0) (s1 := 0) ⟨hx, hb, hml, hown, hts⟩ (c_X2_tokenOf l G tx tb tf tn st la (by first | assumption | omega) (hsl) (by omega)) (va_cwS 3 hts gX2_parse_X2_tokenOf rfl rfl rfl (by decide +kernel) ⟨Nat.le_of_ble_eq_true rfl, Nat.le_of_ble_eq_true rfl⟩) hK hN hSS hP hD hS hA [4, 5] [0, 1, 2, 3] rfl rfl (by decide) (by decide) (by decide) rfl hl.1 rfl (Nat.le_of_ble_eq_true rfl) dX2_parse_68 ⟨Nat.le_of_ble_eq_true rfl, Nat.le_of_ble_eq_true rfl⟩ rfl rfl (fun r_68 u_68 H locs hpo hP hD hS => ?_)
            obtain ⟨hr9, rfl⟩ := hpo
            subst r_68
            have hP : va_P G.1 vwCl [(pr, OB 2 [.ref ps, .int y.1.1, .int y.1.2.1, .int y.1.2.2.1, .int y.1.2.2.2.1, .int y.1.2.2.2.2.1, .int y.1.2.2.2.2.2]), (ps, OB 0 [.ref pm, .ref pv, .int (nI y.2.2.2)]), (pm, AJ G 10 y.2.1), (pv, AI G 10 y.2.2.1), (tx, OB 5 [.ref tb, .int (nI tn)]), (tb, AI G 120 tf)] H := hP
            have hD : va_D A [(pr, OB 2 [.ref ps, .int y.1.1, .int y.1.2.1, .int y.1.2.2.1, .int y.1.2.2.2.1, .int y.1.2.2.2.2.1, .int y.1.2.2.2.2.2]), (ps, OB 0 [.ref pm, .ref pv, .int (nI y.2.2.2)]), (pm, AJ G 10 y.2.1), (pv, AI G 10 y.2.2.1), (tx, OB 5 [.ref tb, .int (nI tn)]), (tb, AI G 120 tf)] := hD
            refine call_Vi (rest := []) (As := [.int (tokC tf tn st la)]) (wr := [(tx, OB 5 [.ref tb, .int (nI tn)]), (tb, AI G 120 tf)]) (c1 := 0) (s1 := 0) ⟨hx, hb, hml, hown, hts⟩ (c_X2_accept l G pr ps pm pv y (tokC tf tn st la) (h8.1) (h8.2)) (cwV 1 hts gX2_parse_X2_accept rfl rfl rfl (by decide +kernel) ⟨Nat.le_of_ble_eq_true rfl, Nat.le_of_ble_eq_true rfl⟩) hK hN hSS hP hD hS hA 0 2 rfl rfl rfl [0, 1, 2, 3] [4, 5] rfl rfl (by decide) (by decide) (by decide) rfl hl.1 rfl (Nat.le_of_ble_eq_true rfl) dX2_parse_71 ⟨Nat.le_of_ble_eq_true rfl, Nat.le_of_ble_eq_true rfl⟩ rfl rfl (fun r_71 u_71 H locs hpo hP hD hS => ?_)
            obtain ⟨hr9, rfl⟩ := hpo
            subst r_71
            have hP : va_P G.1 vwCl [(tx, OB 5 [.ref tb, .int (nI tn)]), (tb, AI G 120 tf), (pr, OB 2 [.ref ps, .int (((acA (tokC tf tn st la) y).2).1.1), .int (((acA (tokC tf tn st la) y).2).1.2.1), .int (((acA (tokC tf tn st la) y).2).1.2.2.1), .int (((acA (tokC tf tn st la) y).2).1.2.2.2.1), .int (((acA (tokC tf tn st la) y).2).1.2.2.2.2.1), .int (((acA (tokC tf tn st la) y).2).1.2.2.2.2.2)]), (ps, OB 0 [.ref pm, .ref pv, .int (nI (((acA (tokC tf tn st la) y).2).2.2.2))]), (pm, AJ G 10 (((acA (tokC tf tn st la) y).2).2.1)), (pv, AI G 10 (((acA (tokC tf tn st la) y).2).2.2.1))] H := hP
            have hD : va_D A [(tx, OB 5 [.ref tb, .int (nI tn)]), (tb, AI G 120 tf), (pr, OB 2 [.ref ps, .int (((acA (tokC tf tn st la) y).2).1.1), .int (((acA (tokC tf tn st la) y).2).1.2.1), .int (((acA (tokC tf tn st la) y).2).1.2.2.1), .int (((acA (tokC tf tn st la) y).2).1.2.2.2.1), .int (((acA (tokC tf tn st la) y).2).1.2.2.2.2.1), .int (((acA (tokC tf tn st la) y).2).1.2.2.2.2.2)]), (ps, OB 0 [.ref pm, .ref pv, .int (nI (((acA (tokC tf tn st la) y).2).2.2.2))]), (pm, AJ G 10 (((acA (tokC tf tn st la) y).2).2.1)), (pv, AI G 10 (((acA (tokC tf tn st la) y).2).2.2.1))] := hD
            refine wb_ne (tgt := 79) hx hb dX2_parse_74 (by decide) (fun c_74 => ?_) (fun c_74 => ?_)
            ·
              refine lv_iload_n hx hb dX2_parse_79 rfl (lv_at hl 4 rfl) ?_
              refine lv_iconst (v := 1) hx hb dX2_parse_80 (by decide) ?_
              refine wn_iadd hx hb (la) (1) rfl rfl dX2_parse_81 ?_
              refine lv_istore_n (lv' := [(2, .int (nI (la + 1))), (4, .int 0), (0, .ref pr), (1, .ref tx), (3, .int (nI la))]) hx hb dX2_parse_82 rfl hl (by decide) rfl (fun ls hl => ?_)
              refine lv_iinc (v := nI (la + 1)) (lv' := [(3, .int (nI (la + 1))), (2, .int (nI (la + 1))), (4, .int 0), (0, .ref pr), (1, .ref tx)]) hx hb dX2_parse_83 hl (k := 4) rfl (nI_inc (la) 1) (by decide) rfl (fun ls hl => ?_)
              refine lv_goto (tgt := 16) hx hb dX2_parse_86 (by decide) ?_
              exact ih (la + 1) (la + 1) ((acA (tokC tf tn st la) y).2) _ _ _ (by omega) (by omega) (by omega) (by first | (rw [← hL, hsub, prsL, if_pos ⟨c_29, c_39⟩]; done) | (rw [← hL, hsub, prsL, if_neg hgo, if_pos c_61]; done) | (rw [← hL, hsub, prsL, if_neg hgo, if_neg c_61, if_pos c_74])) (by first | exact acA_ok h8 | exact h8) (hP.sub (ws' := [(pr, OB 2 [.ref ps, .int (((acA (tokC tf tn st la) y).2).1.1), .int (((acA (tokC tf tn st la) y).2).1.2.1), .int (((acA (tokC tf tn st la) y).2).1.2.2.1), .int (((acA (tokC tf tn st la) y).2).1.2.2.2.1), .int (((acA (tokC tf tn st la) y).2).1.2.2.2.2.1), .int (((acA (tokC tf tn st la) y).2).1.2.2.2.2.2)]), (tx, OB 5 [.ref tb, .int (nI tn)]), (tb, AI G 120 tf), (ps, OB 0 [.ref pm, .ref pv, .int (nI ((acA (tokC tf tn st la) y).2).2.2.2)]), (pm, AJ G 10 (((acA (tokC tf tn st la) y).2).2.1)), (pv, AI G 10 (((acA (tokC tf tn st la) y).2).2.2.1))]) [2, 0, 1, 3, 4, 5] rfl) (hD.sub (ws' := [(pr, OB 2 [.ref ps, .int (((acA (tokC tf tn st la) y).2).1.1), .int (((acA (tokC tf tn st la) y).2).1.2.1), .int (((acA (tokC tf tn st la) y).2).1.2.2.1), .int (((acA (tokC tf tn st la) y).2).1.2.2.2.1), .int (((acA (tokC tf tn st la) y).2).1.2.2.2.2.1), .int (((acA (tokC tf tn st la) y).2).1.2.2.2.2.2)]), (tx, OB 5 [.ref tb, .int (nI tn)]), (tb, AI G 120 tf), (ps, OB 0 [.ref pm, .ref pv, .int (nI ((acA (tokC tf tn st la) y).2).2.2.2)]), (pm, AJ G 10 (((acA (tokC tf tn st la) y).2).2.1)), (pv, AI G 10 (((acA (tokC tf tn st la) y).2).2.2.1))]) [2, 0, 1, 3, 4, 5] (by decide) rfl) hS (lv_sub (l' := [(0, .ref pr), (1, .ref tx), (2, .int (nI (la + 1))), (3, .int (nI (la + 1)))]) hl [3, 4, 1, 0] rfl)
            ·
              refine lv_iload_n hx hb dX2_parse_77 rfl (lv_at hl 3 rfl) ?_
              exact ret (nI st) _ _ _ _ _ _ _ (Nat.le_of_ble_eq_true rfl) (Nat.le_of_ble_eq_true rfl) (rfl) (⟨by rw [← hL, hsub, prsL, if_neg hgo, if_neg c_61, if_neg (by rw [c_74]; decide)], by rw [← hL, hsub, prsL, if_neg hgo, if_neg c_61, if_neg (by rw [c_74]; decide)]⟩) (hP.sub (ws' := [(pr, OB 2 [.ref ps, .int (((acA (tokC tf tn st la) y).2).1.1), .int (((acA (tokC tf tn st la) y).2).1.2.1), .int (((acA (tokC tf tn st la) y).2).1.2.2.1), .int (((acA (tokC tf tn st la) y).2).1.2.2.2.1), .int (((acA (tokC tf tn st la) y).2).1.2.2.2.2.1), .int (((acA (tokC tf tn st la) y).2).1.2.2.2.2.2)]), (ps, OB 0 [.ref pm, .ref pv, .int (nI (((acA (tokC tf tn st la) y).2).2.2.2))]), (pm, AJ G 10 (((acA (tokC tf tn st la) y).2).2.1)), (pv, AI G 10 (((acA (tokC tf tn st la) y).2).2.2.1)), (tx, OB 5 [.ref tb, .int (nI tn)]), (tb, AI G 120 tf)]) [2, 3, 4, 5, 0, 1] rfl) (hD.sub (ws' := [(pr, OB 2 [.ref ps, .int (((acA (tokC tf tn st la) y).2).1.1), .int (((acA (tokC tf tn st la) y).2).1.2.1), .int (((acA (tokC tf tn st la) y).2).1.2.2.1), .int (((acA (tokC tf tn st la) y).2).1.2.2.2.1), .int (((acA (tokC tf tn st la) y).2).1.2.2.2.2.1), .int (((acA (tokC tf tn st la) y).2).1.2.2.2.2.2)]), (ps, OB 0 [.ref pm, .ref pv, .int (nI (((acA (tokC tf tn st la) y).2).2.2.2))]), (pm, AJ G 10 (((acA (tokC tf tn st la) y).2).2.1)), (pv, AI G 10 (((acA (tokC tf tn st la) y).2).2.2.1)), (tx, OB 5 [.ref tb, .int (nI tn)]), (tb, AI G 120 tf)]) [2, 3, 4, 5, 0, 1] (by decide) rfl) hS dX2_parse_78
        ·
          refine lv_aload_n hx hb dX2_parse_32 rfl (lv_at hl 1 rfl) ?_
          refine lv_iload_n hx hb dX2_parse_33 rfl (lv_at hl 3 rfl) ?_
          refine lv_iconst (v := 1) hx hb dX2_parse_34 (by decide) ?_
          refine wn_iadd hx hb (la) (1) rfl rfl dX2_parse_35 ?_
          refine call_Vi (rest := []) (As := [.int (nI (la + 1))]) (wr := [(pr, OB 2 [.ref ps, .int y.1.1, .int y.1.2.1, .int y.1.2.2.1, .int y.1.2.2.2.1, .int y.1.2.2.2.2.1, .int y.1.2.2.2.2.2]), (ps, OB 0 [.ref pm, .ref pv, .int (nI y.2.2.2)]), (pm, AJ G 10 y.2.1), (pv, AI G 10 y.2.2.1)]) (c1 := 0) (s1 := 0) ⟨hx, hb, hml, hown, hts⟩ (c_X5_isLetter l G tx tb tf tn (nI (la + 1)) (by first | assumption | omega)) (cwV 1 hts gX2_parse_X5_isLetter rfl rfl rfl (by decide +kernel) ⟨Nat.le_of_ble_eq_true rfl, Nat.le_of_ble_eq_true rfl⟩) hK hN hSS hP hD hS hA 0 5 rfl rfl rfl [4, 5] [0, 1, 2, 3] rfl rfl (by decide) (by decide) (by decide) rfl hl.1 rfl (Nat.le_of_ble_eq_true rfl) dX2_parse_36 ⟨Nat.le_of_ble_eq_true rfl, Nat.le_of_ble_eq_true rfl⟩ rfl rfl (fun r_36 u_36 H locs hpo hP hD hS => ?_)
          obtain ⟨hr9, rfl⟩ := hpo
          subst r_36
          have hP : va_P G.1 vwCl [(pr, OB 2 [.ref ps, .int y.1.1, .int y.1.2.1, .int y.1.2.2.1, .int y.1.2.2.2.1, .int y.1.2.2.2.2.1, .int y.1.2.2.2.2.2]), (ps, OB 0 [.ref pm, .ref pv, .int (nI y.2.2.2)]), (pm, AJ G 10 y.2.1), (pv, AI G 10 y.2.2.1), (tx, OB 5 [.ref tb, .int (nI tn)]), (tb, AI G 120 tf)] H := hP
          have hD : va_D A [(pr, OB 2 [.ref ps, .int y.1.1, .int y.1.2.1, .int y.1.2.2.1, .int y.1.2.2.2.1, .int y.1.2.2.2.2.1, .int y.1.2.2.2.2.2]), (ps, OB 0 [.ref pm, .ref pv, .int (nI y.2.2.2)]), (pm, AJ G 10 y.2.1), (pv, AI G 10 y.2.2.1), (tx, OB 5 [.ref tb, .int (nI tn)]), (tb, AI G 120 tf)] := hD
          refine wb_eq (tgt := 46) hx hb dX2_parse_39 (by decide) (fun c_39 => ?_) (fun c_39 => ?_)
          ·
            have hgo : ¬ (letB (getF tf tn (nI la)) = true ∧ letB (getF tf tn (nI (la + 1))) = true) := by rw [c_39]; simp
            refine lv_iconst (v := 0) hx hb dX2_parse_46 (by decide) ?_
            refine lv_istore (lv' := [(4, .int 0), (0, .ref pr), (1, .ref tx), (2, .int (nI st)), (3, .int (nI la))]) hx hb dX2_parse_47 hl (by decide) rfl (fun ls hl => ?_)
            refine lv_iload hx hb dX2_parse_49 (lv_at hl 0 rfl) ?_
            refine lv_if_ne (tgt := 83) hx hb dX2_parse_51 (by decide) (fun c_51 => absurd c_51 (by decide)) (fun c_51 => ?_)
            refine lv_aload_n hx hb dX2_parse_54 rfl (lv_at hl 2 rfl) ?_
            refine lv_iload_n hx hb dX2_parse_55 rfl (lv_at hl 4 rfl) ?_
            refine call_Vi (rest := []) (As := [.int (nI la)]) (wr := [(pr, OB 2 [.ref ps, .int y.1.1, .int y.1.2.1, .int y.1.2.2.1, .int y.1.2.2.2.1, .int y.1.2.2.2.2.1, .int y.1.2.2.2.2.2]), (ps, OB 0 [.ref pm, .ref pv, .int (nI y.2.2.2)]), (pm, AJ G 10 y.2.1), (pv, AI G 10 y.2.2.1)]) (c1 := 0) (s1 := 0) ⟨hx, hb, hml, hown, hts⟩ (c_X5_at l G tx tb tf tn (nI la) (by first | assumption | omega)) (cwV 1 hts gX2_parse_X5_at rfl rfl rfl (by decide +kernel) ⟨Nat.le_of_ble_eq_true rfl, Nat.le_of_ble_eq_true rfl⟩) hK hN hSS hP hD hS hA 0 5 rfl rfl rfl [4, 5] [0, 1, 2, 3] rfl rfl (by decide) (by decide) (by decide) rfl hl.1 rfl (Nat.le_of_ble_eq_true rfl) dX2_parse_56 ⟨Nat.le_of_ble_eq_true rfl, Nat.le_of_ble_eq_true rfl⟩ rfl rfl (fun r_56 u_56 H locs hpo hP hD hS => ?_)
            obtain ⟨hr9, rfl⟩ := hpo
            subst r_56
            have hP : va_P G.1 vwCl [(pr, OB 2 [.ref ps, .int y.1.1, .int y.1.2.1, .int y.1.2.2.1, .int y.1.2.2.2.1, .int y.1.2.2.2.2.1, .int y.1.2.2.2.2.2]), (ps, OB 0 [.ref pm, .ref pv, .int (nI y.2.2.2)]), (pm, AJ G 10 y.2.1), (pv, AI G 10 y.2.2.1), (tx, OB 5 [.ref tb, .int (nI tn)]), (tb, AI G 120 tf)] H := hP
            have hD : va_D A [(pr, OB 2 [.ref ps, .int y.1.1, .int y.1.2.1, .int y.1.2.2.1, .int y.1.2.2.2.1, .int y.1.2.2.2.2.1, .int y.1.2.2.2.2.2]), (ps, OB 0 [.ref pm, .ref pv, .int (nI y.2.2.2)]), (pm, AJ G 10 y.2.1), (pv, AI G 10 y.2.2.1), (tx, OB 5 [.ref tb, .int (nI tn)]), (tb, AI G 120 tf)] := hD
            refine lv_bipush (v := 32) hx hb dX2_parse_59 (by decide) ?_
            refine lv_icmp_eq (tgt := 79) hx hb dX2_parse_61 (by decide) (fun c_61 => ?_) (fun c_61 => ?_)
            ·
              refine lv_iload_n hx hb dX2_parse_79 rfl (lv_at hl 4 rfl) ?_
              refine lv_iconst (v := 1) hx hb dX2_parse_80 (by decide) ?_
              refine wn_iadd hx hb (la) (1) rfl rfl dX2_parse_81 ?_
              refine lv_istore_n (lv' := [(2, .int (nI (la + 1))), (4, .int 0), (0, .ref pr), (1, .ref tx), (3, .int (nI la))]) hx hb dX2_parse_82 rfl hl (by decide) rfl (fun ls hl => ?_)
              refine lv_iinc (v := nI (la + 1)) (lv' := [(3, .int (nI (la + 1))), (2, .int (nI (la + 1))), (4, .int 0), (0, .ref pr), (1, .ref tx)]) hx hb dX2_parse_83 hl (k := 4) rfl (nI_inc (la) 1) (by decide) rfl (fun ls hl => ?_)
              refine lv_goto (tgt := 16) hx hb dX2_parse_86 (by decide) ?_
              exact ih (la + 1) (la + 1) y _ _ _ (by omega) (by omega) (by omega) (by first | (rw [← hL, hsub, prsL, if_pos ⟨c_29, c_39⟩]; done) | (rw [← hL, hsub, prsL, if_neg hgo, if_pos c_61]; done) | (rw [← hL, hsub, prsL, if_neg hgo, if_neg c_61, if_pos c_74])) (by first | exact acA_ok h8 | exact h8) (hP.sub (ws' := [(pr, OB 2 [.ref ps, .int y.1.1, .int y.1.2.1, .int y.1.2.2.1, .int y.1.2.2.2.1, .int y.1.2.2.2.2.1, .int y.1.2.2.2.2.2]), (tx, OB 5 [.ref tb, .int (nI tn)]), (tb, AI G 120 tf), (ps, OB 0 [.ref pm, .ref pv, .int (nI y.2.2.2)]), (pm, AJ G 10 y.2.1), (pv, AI G 10 y.2.2.1)]) [0, 4, 5, 1, 2, 3] rfl) (hD.sub (ws' := [(pr, OB 2 [.ref ps, .int y.1.1, .int y.1.2.1, .int y.1.2.2.1, .int y.1.2.2.2.1, .int y.1.2.2.2.2.1, .int y.1.2.2.2.2.2]), (tx, OB 5 [.ref tb, .int (nI tn)]), (tb, AI G 120 tf), (ps, OB 0 [.ref pm, .ref pv, .int (nI y.2.2.2)]), (pm, AJ G 10 y.2.1), (pv, AI G 10 y.2.2.1)]) [0, 4, 5, 1, 2, 3] (by decide) rfl) hS (lv_sub (l' := [(0, .ref pr), (1, .ref tx), (2, .int (nI (la + 1))), (3, .int (nI (la + 1)))]) hl [3, 4, 1, 0] rfl)
            ·
              refine lv_aload_n hx hb dX2_parse_64 rfl (lv_at hl 1 rfl) ?_
              refine lv_aload_n hx hb dX2_parse_65 rfl (lv_at hl 2 rfl) ?_
              refine lv_iload_n hx hb dX2_parse_66 rfl (lv_at hl 3 rfl) ?_
              refine lv_iload_n hx hb dX2_parse_67 rfl (lv_at hl 4 rfl) ?_
              refine call_Si (rest := [.ref pr]) (As := [.ref tx, .int (nI st), .int (nI la)]) (wr := [(pr, OB 2 [.ref ps, .int y.1.1, .int y.1.2.1, .int y.1.2.2.1, .int y.1.2.2.2.1, .int y.1.2.2.2.2.1, .int y.1.2.2.2.2.2]), (ps, OB 0 [.ref pm, .ref pv, .int (nI y.2.2.2)]), (pm, AJ G 10 y.2.1), (pv, AI G 10 y.2.2.1)]) (c1 := 0) (s1 := 0) ⟨hx, hb, hml, hown, hts⟩ (c_X2_tokenOf l G tx tb tf tn st la (by first | assumption | omega) (hsl) (by omega)) (va_cwS 3 hts gX2_parse_X2_tokenOf rfl rfl rfl (by decide +kernel) ⟨Nat.le_of_ble_eq_true rfl, Nat.le_of_ble_eq_true rfl⟩) hK hN hSS hP hD hS hA [4, 5] [0, 1, 2, 3] rfl rfl (by decide) (by decide) (by decide) rfl hl.1 rfl (Nat.le_of_ble_eq_true rfl) dX2_parse_68 ⟨Nat.le_of_ble_eq_true rfl, Nat.le_of_ble_eq_true rfl⟩ rfl rfl (fun r_68 u_68 H locs hpo hP hD hS => ?_)
              obtain ⟨hr9, rfl⟩ := hpo
              subst r_68
              have hP : va_P G.1 vwCl [(pr, OB 2 [.ref ps, .int y.1.1, .int y.1.2.1, .int y.1.2.2.1, .int y.1.2.2.2.1, .int y.1.2.2.2.2.1, .int y.1.2.2.2.2.2]), (ps, OB 0 [.ref pm, .ref pv, .int (nI y.2.2.2)]), (pm, AJ G 10 y.2.1), (pv, AI G 10 y.2.2.1), (tx, OB 5 [.ref tb, .int (nI tn)]), (tb, AI G 120 tf)] H := hP
              have hD : va_D A [(pr, OB 2 [.ref ps, .int y.1.1, .int y.1.2.1, .int y.1.2.2.1, .int y.1.2.2.2.1, .int y.1.2.2.2.2.1, .int y.1.2.2.2.2.2]), (ps, OB 0 [.ref pm, .ref pv, .int (nI y.2.2.2)]), (pm, AJ G 10 y.2.1), (pv, AI G 10 y.2.2.1), (tx, OB 5 [.ref tb, .int (nI tn)]), (tb, AI G 120 tf)] := hD
              refine call_Vi (rest := []) (As := [.int (tokC tf tn st la)]) (wr := [(tx, OB 5 [.ref tb, .int (nI tn)]), (tb, AI G 120 tf)]) (c1 := 0) (s1 := 0) ⟨hx, hb, hml, hown, hts⟩ (c_X2_accept l G pr ps pm pv y (tokC tf tn st la) (h8.1) (h8.2)) (cwV 1 hts gX2_parse_X2_accept rfl rfl rfl (by decide +kernel) ⟨Nat.le_of_ble_eq_true rfl, Nat.le_of_ble_eq_true rfl⟩) hK hN hSS hP hD hS hA 0 2 rfl rfl rfl [0, 1, 2, 3] [4, 5] rfl rfl (by decide) (by decide) (by decide) rfl hl.1 rfl (Nat.le_of_ble_eq_true rfl) dX2_parse_71 ⟨Nat.le_of_ble_eq_true rfl, Nat.le_of_ble_eq_true rfl⟩ rfl rfl (fun r_71 u_71 H locs hpo hP hD hS => ?_)
              obtain ⟨hr9, rfl⟩ := hpo
              subst r_71
              have hP : va_P G.1 vwCl [(tx, OB 5 [.ref tb, .int (nI tn)]), (tb, AI G 120 tf), (pr, OB 2 [.ref ps, .int (((acA (tokC tf tn st la) y).2).1.1), .int (((acA (tokC tf tn st la) y).2).1.2.1), .int (((acA (tokC tf tn st la) y).2).1.2.2.1), .int (((acA (tokC tf tn st la) y).2).1.2.2.2.1), .int (((acA (tokC tf tn st la) y).2).1.2.2.2.2.1), .int (((acA (tokC tf tn st la) y).2).1.2.2.2.2.2)]), (ps, OB 0 [.ref pm, .ref pv, .int (nI (((acA (tokC tf tn st la) y).2).2.2.2))]), (pm, AJ G 10 (((acA (tokC tf tn st la) y).2).2.1)), (pv, AI G 10 (((acA (tokC tf tn st la) y).2).2.2.1))] H := hP
              have hD : va_D A [(tx, OB 5 [.ref tb, .int (nI tn)]), (tb, AI G 120 tf), (pr, OB 2 [.ref ps, .int (((acA (tokC tf tn st la) y).2).1.1), .int (((acA (tokC tf tn st la) y).2).1.2.1), .int (((acA (tokC tf tn st la) y).2).1.2.2.1), .int (((acA (tokC tf tn st la) y).2).1.2.2.2.1), .int (((acA (tokC tf tn st la) y).2).1.2.2.2.2.1), .int (((acA (tokC tf tn st la) y).2).1.2.2.2.2.2)]), (ps, OB 0 [.ref pm, .ref pv, .int (nI (((acA (tokC tf tn st la) y).2).2.2.2))]), (pm, AJ G 10 (((acA (tokC tf tn st la) y).2).2.1)), (pv, AI G 10 (((acA (tokC tf tn st la) y).2).2.2.1))] := hD
              refine wb_ne (tgt := 79) hx hb dX2_parse_74 (by decide) (fun c_74 => ?_) (fun c_74 => ?_)
              ·
                refine lv_iload_n hx hb dX2_parse_79 rfl (lv_at hl 4 rfl) ?_
                refine lv_iconst (v := 1) hx hb dX2_parse_80 (by decide) ?_
                refine wn_iadd hx hb (la) (1) rfl rfl dX2_parse_81 ?_
                refine lv_istore_n (lv' := [(2, .int (nI (la + 1))), (4, .int 0), (0, .ref pr), (1, .ref tx), (3, .int (nI la))]) hx hb dX2_parse_82 rfl hl (by decide) rfl (fun ls hl => ?_)
                refine lv_iinc (v := nI (la + 1)) (lv' := [(3, .int (nI (la + 1))), (2, .int (nI (la + 1))), (4, .int 0), (0, .ref pr), (1, .ref tx)]) hx hb dX2_parse_83 hl (k := 4) rfl (nI_inc (la) 1) (by decide) rfl (fun ls hl => ?_)
                refine lv_goto (tgt := 16) hx hb dX2_parse_86 (by decide) ?_
                exact ih (la + 1) (la + 1) ((acA (tokC tf tn st la) y).2) _ _ _ (by omega) (by omega) (by omega) (by first | (rw [← hL, hsub, prsL, if_pos ⟨c_29, c_39⟩]; done) | (rw [← hL, hsub, prsL, if_neg hgo, if_pos c_61]; done) | (rw [← hL, hsub, prsL, if_neg hgo, if_neg c_61, if_pos c_74])) (by first | exact acA_ok h8 | exact h8) (hP.sub (ws' := [(pr, OB 2 [.ref ps, .int (((acA (tokC tf tn st la) y).2).1.1), .int (((acA (tokC tf tn st la) y).2).1.2.1), .int (((acA (tokC tf tn st la) y).2).1.2.2.1), .int (((acA (tokC tf tn st la) y).2).1.2.2.2.1), .int (((acA (tokC tf tn st la) y).2).1.2.2.2.2.1), .int (((acA (tokC tf tn st la) y).2).1.2.2.2.2.2)]), (tx, OB 5 [.ref tb, .int (nI tn)]), (tb, AI G 120 tf), (ps, OB 0 [.ref pm, .ref pv, .int (nI ((acA (tokC tf tn st la) y).2).2.2.2)]), (pm, AJ G 10 (((acA (tokC tf tn st la) y).2).2.1)), (pv, AI G 10 (((acA (tokC tf tn st la) y).2).2.2.1))]) [2, 0, 1, 3, 4, 5] rfl) (hD.sub (ws' := [(pr, OB 2 [.ref ps, .int (((acA (tokC tf tn st la) y).2).1.1), .int (((acA (tokC tf tn st la) y).2).1.2.1), .int (((acA (tokC tf tn st la) y).2).1.2.2.1), .int (((acA (tokC tf tn st la) y).2).1.2.2.2.1), .int (((acA (tokC tf tn st la) y).2).1.2.2.2.2.1), .int (((acA (tokC tf tn st la) y).2).1.2.2.2.2.2)]), (tx, OB 5 [.ref tb, .int (nI tn)]), (tb, AI G 120 tf), (ps, OB 0 [.ref pm, .ref pv, .int (nI ((acA (tokC tf tn st la) y).2).2.2.2)]), (pm, AJ G 10 (((acA (tokC tf tn st la) y).2).2.1)), (pv, AI G 10 (((acA (tokC tf tn st la) y).2).2.2.1))]) [2, 0, 1, 3, 4, 5] (by decide) rfl) hS (lv_sub (l' := [(0, .ref pr), (1, .ref tx), (2, .int (nI (la + 1))), (3, .int (nI (la + 1)))]) hl [3, 4, 1, 0] rfl)
              ·
                refine lv_iload_n hx hb dX2_parse_77 rfl (lv_at hl 3 rfl) ?_
                exact ret (nI st) _ _ _ _ _ _ _ (Nat.le_of_ble_eq_true rfl) (Nat.le_of_ble_eq_true rfl) (rfl) (⟨by rw [← hL, hsub, prsL, if_neg hgo, if_neg c_61, if_neg (by rw [c_74]; decide)], by rw [← hL, hsub, prsL, if_neg hgo, if_neg c_61, if_neg (by rw [c_74]; decide)]⟩) (hP.sub (ws' := [(pr, OB 2 [.ref ps, .int (((acA (tokC tf tn st la) y).2).1.1), .int (((acA (tokC tf tn st la) y).2).1.2.1), .int (((acA (tokC tf tn st la) y).2).1.2.2.1), .int (((acA (tokC tf tn st la) y).2).1.2.2.2.1), .int (((acA (tokC tf tn st la) y).2).1.2.2.2.2.1), .int (((acA (tokC tf tn st la) y).2).1.2.2.2.2.2)]), (ps, OB 0 [.ref pm, .ref pv, .int (nI (((acA (tokC tf tn st la) y).2).2.2.2))]), (pm, AJ G 10 (((acA (tokC tf tn st la) y).2).2.1)), (pv, AI G 10 (((acA (tokC tf tn st la) y).2).2.2.1)), (tx, OB 5 [.ref tb, .int (nI tn)]), (tb, AI G 120 tf)]) [2, 3, 4, 5, 0, 1] rfl) (hD.sub (ws' := [(pr, OB 2 [.ref ps, .int (((acA (tokC tf tn st la) y).2).1.1), .int (((acA (tokC tf tn st la) y).2).1.2.1), .int (((acA (tokC tf tn st la) y).2).1.2.2.1), .int (((acA (tokC tf tn st la) y).2).1.2.2.2.1), .int (((acA (tokC tf tn st la) y).2).1.2.2.2.2.1), .int (((acA (tokC tf tn st la) y).2).1.2.2.2.2.2)]), (ps, OB 0 [.ref pm, .ref pv, .int (nI (((acA (tokC tf tn st la) y).2).2.2.2))]), (pm, AJ G 10 (((acA (tokC tf tn st la) y).2).2.1)), (pv, AI G 10 (((acA (tokC tf tn st la) y).2).2.2.1)), (tx, OB 5 [.ref tb, .int (nI tn)]), (tb, AI G 120 tf)]) [2, 3, 4, 5, 0, 1] (by decide) rfl) hS dX2_parse_78
          ·
            refine lv_iconst (v := 1) hx hb dX2_parse_42 (by decide) ?_
            refine lv_goto (tgt := 47) hx hb dX2_parse_43 (by decide) ?_
            refine lv_istore (lv' := [(4, .int 1), (0, .ref pr), (1, .ref tx), (2, .int (nI st)), (3, .int (nI la))]) hx hb dX2_parse_47 hl (by decide) rfl (fun ls hl => ?_)
            refine lv_iload hx hb dX2_parse_49 (lv_at hl 0 rfl) ?_
            refine lv_if_ne (tgt := 83) hx hb dX2_parse_51 (by decide) (fun c_51 => ?_) (fun c_51 => absurd c_51 (by decide))
            refine lv_iinc (v := nI (la + 1)) (lv' := [(3, .int (nI (la + 1))), (4, .int 1), (0, .ref pr), (1, .ref tx), (2, .int (nI st))]) hx hb dX2_parse_83 hl (k := 4) rfl (nI_inc (la) 1) (by decide) rfl (fun ls hl => ?_)
            refine lv_goto (tgt := 16) hx hb dX2_parse_86 (by decide) ?_
            exact ih (la + 1) st y _ _ _ (by omega) (by omega) (by omega) (by first | (rw [← hL, hsub, prsL, if_pos ⟨c_29, c_39⟩]; done) | (rw [← hL, hsub, prsL, if_neg hgo, if_pos c_61]; done) | (rw [← hL, hsub, prsL, if_neg hgo, if_neg c_61, if_pos c_74])) (by first | exact acA_ok h8 | exact h8) (hP.sub (ws' := [(pr, OB 2 [.ref ps, .int y.1.1, .int y.1.2.1, .int y.1.2.2.1, .int y.1.2.2.2.1, .int y.1.2.2.2.2.1, .int y.1.2.2.2.2.2]), (tx, OB 5 [.ref tb, .int (nI tn)]), (tb, AI G 120 tf), (ps, OB 0 [.ref pm, .ref pv, .int (nI y.2.2.2)]), (pm, AJ G 10 y.2.1), (pv, AI G 10 y.2.2.1)]) [0, 4, 5, 1, 2, 3] rfl) (hD.sub (ws' := [(pr, OB 2 [.ref ps, .int y.1.1, .int y.1.2.1, .int y.1.2.2.1, .int y.1.2.2.2.1, .int y.1.2.2.2.2.1, .int y.1.2.2.2.2.2]), (tx, OB 5 [.ref tb, .int (nI tn)]), (tb, AI G 120 tf), (ps, OB 0 [.ref pm, .ref pv, .int (nI y.2.2.2)]), (pm, AJ G 10 y.2.1), (pv, AI G 10 y.2.2.1)]) [0, 4, 5, 1, 2, 3] (by decide) rfl) hS (lv_sub (l' := [(0, .ref pr), (1, .ref tx), (2, .int (nI st)), (3, .int (nI (la + 1)))]) hl [2, 3, 4, 0] rfl)
  exact L16 ((tn - 0) + 1) 0 0 ((0, z.1.2), z.2.1, z.2.2.1, 0) _ _ _ (Nat.lt_succ_self _) (Nat.zero_le _) (Nat.le_refl _) (rfl) (⟨by dsimp only; omega, fun h9 => absurd rfl h9⟩) (hP.sub (ws' := [(pr, OB 2 [.ref ps, .int (((0, z.1.2), z.2.1, z.2.2.1, 0).1.1), .int (((0, z.1.2), z.2.1, z.2.2.1, 0).1.2.1), .int (((0, z.1.2), z.2.1, z.2.2.1, 0).1.2.2.1), .int (((0, z.1.2), z.2.1, z.2.2.1, 0).1.2.2.2.1), .int (((0, z.1.2), z.2.1, z.2.2.1, 0).1.2.2.2.2.1), .int (((0, z.1.2), z.2.1, z.2.2.1, 0).1.2.2.2.2.2)]), (tx, OB 5 [.ref tb, .int (nI tn)]), (tb, AI G 120 tf), (ps, OB 0 [.ref pm, .ref pv, .int (nI ((0, z.1.2), z.2.1, z.2.2.1, 0).2.2.2)]), (pm, AJ G 10 (((0, z.1.2), z.2.1, z.2.2.1, 0).2.1)), (pv, AI G 10 (((0, z.1.2), z.2.1, z.2.2.1, 0).2.2.1))]) [0, 1, 2, 3, 4, 5] rfl) (hD.sub (ws' := [(pr, OB 2 [.ref ps, .int (((0, z.1.2), z.2.1, z.2.2.1, 0).1.1), .int (((0, z.1.2), z.2.1, z.2.2.1, 0).1.2.1), .int (((0, z.1.2), z.2.1, z.2.2.1, 0).1.2.2.1), .int (((0, z.1.2), z.2.1, z.2.2.1, 0).1.2.2.2.1), .int (((0, z.1.2), z.2.1, z.2.2.1, 0).1.2.2.2.2.1), .int (((0, z.1.2), z.2.1, z.2.2.1, 0).1.2.2.2.2.2)]), (tx, OB 5 [.ref tb, .int (nI tn)]), (tb, AI G 120 tf), (ps, OB 0 [.ref pm, .ref pv, .int (nI ((0, z.1.2), z.2.1, z.2.2.1, 0).2.2.2)]), (pm, AJ G 10 (((0, z.1.2), z.2.1, z.2.2.1, 0).2.1)), (pv, AI G 10 (((0, z.1.2), z.2.1, z.2.2.1, 0).2.2.1))]) [0, 1, 2, 3, 4, 5] (by decide) rfl) hS (lv_sub (l' := [(0, .ref pr), (1, .ref tx), (2, .int (nI 0)), (3, .int (nI 0))]) hl [2, 3, 1, 0] rfl)
