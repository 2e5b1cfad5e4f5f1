set_option maxHeartbeats 4000000 in
set_option maxRecDepth 20000 in
theorem law_loop {p : Program} {l : Launch} {e : Env} {s : State} {m : MethodId} {below : List Frame} {meth : Method} {c : Code} {b L : Nat} {xs : Nat → Int32} {G : GT} {x0 m0 : Nat} (hL : L ≤ 1536) (C0 : lw_At p s m meth c b L xs) (hK : KK G s) (hN : NN s) (hSS : SS G.2.2.2.2.2 (fun q => s.heap.size ≤ q) s s.heap) : ∀ (f i : Nat), i ≤ L → L < i + f → ∀ (u : va_W) (H : Heap) (locs : List Loc) (ls : Array Slot), INV G x0 m0 u → va_P G.1 vwCl u H → va_D (fun q => s.heap.size ≤ q) u → va_S (fun q => s.heap.size ≤ q) s.heap H locs → lv_has ls 4 [(3, .int (nI i)), (2, .ref m0), (1, .ref x0), (0, .ref b)] →
    W p l e room_1 s m #[Value.ref b] below meth c H locs (28 + 6 * i) (6554 + 368 * i) (lw_Z below #[Value.ref b] s) (F0 m 18 ls [])
  | 0, i, h1, h2 => by omega
  | f + 1, i, h1, h2 => by
    intro u H locs ls hI hP hD hS hl
    obtain ⟨hx, hb, hr, hml, hown, hts, hX, hbl, hlocks, hgv⟩ := id C0
    have hA : ∀ q : Nat, s.heap.size ≤ q → (fun q : Nat => s.heap.size ≤ q) q := fun _ h => h
    have hbA : ¬ (fun q : Nat => s.heap.size ≤ q) b := Nat.not_le.mpr hbl
    refine lv_iload_n hx hb dL_law_18 rfl (lv_at hl 0 rfl) ?_
    refine lv_aload_n hx hb dL_law_19 rfl (lv_at hl 3 rfl) ?_
    refine va_slen hx hb hX hbl hbA hS dL_law_20 ?_
    refine lv_iconst (v := 3) hx hb dL_law_21 (by decide) ?_
    refine lv_isub hx hb dL_law_22 ?_
    refine lv_icmp_gt (tgt := 788) hx hb dL_law_23 (by decide) (fun hq => ?_) (fun hq => ?_)
    · refine lv_iconst (v := 1) hx hb dL_law_788 (by decide) ?_
      refine va_forget hS.2.2 ?_
      exact W.widen (by omega) (by omega) (lw_ret hx hb hr hlocks dL_law_789)
    · have h3 : i + 3 ≤ L := law_cmp hL (by omega) hq
      have kk : ∀ (u : va_W) (H : Heap) (locs : List Loc), INV G x0 m0 u → va_P G.1 vwCl u H → va_D (fun q => s.heap.size ≤ q) u → va_S (fun q => s.heap.size ≤ q) s.heap H locs → W p l e room_1 s m #[Value.ref b] below meth c H locs (28 + 6 * i + 18) (6554 + 368 * i + 1104) (lw_Z below #[Value.ref b] s) (F0 m 782 ls []) := by
        intro u H locs hI hP hD hS
        refine lv_iinc (v := nI (i + 3)) (lv' := [(3, .int (nI (i + 3))), (2, .ref m0), (1, .ref x0), (0, .ref b)]) hx hb dL_law_782 hl (k := 0) rfl (nI_inc i 3) (by decide) rfl (fun ls hl => ?_)
        refine lv_goto (tgt := 18) hx hb dL_law_785 (by decide) ?_
        exact W.widen (by omega) (by omega) (law_loop hL C0 hK hN hSS f (i + 3) h3 (by omega) u H locs ls hI hP hD hS hl)
      refine lv_aload_n hx hb dL_law_26 rfl (lv_at hl 3 rfl) ?_
      refine lv_iload_n hx hb dL_law_27 rfl (lv_at hl 0 rfl) ?_
      refine law_ld hx hb hX hbl hbA hS hL (j := i) (by omega) dL_law_28 ?_
      refine lv_bipush (v := 31) hx hb dL_law_29 (by decide) ?_
      refine lv_iand hx hb dL_law_31 ?_
      obtain ⟨k, hk, ek⟩ := and_31 (xs i)
      by_cases k0 : k = 0
      · subst k0
        refine lv_tableIn (tgt := 176) hx hb dL_law_32 (by rw [ek]; decide) (by rw [ek]; decide) (by rw [ek]; rfl) (by decide) ?_
        exact law_c0 C0 hK hN hSS hA hbA hI hP hD hS hl (by omega) hL (by omega) (by omega) kk
      by_cases k1 : k = 1
      · subst k1
        refine lv_tableIn (tgt := 199) hx hb dL_law_32 (by rw [ek]; decide) (by rw [ek]; decide) (by rw [ek]; rfl) (by decide) ?_
        exact law_c1 C0 hK hN hSS hA hbA hI hP hD hS hl (by omega) hL (by omega) (by omega) kk
      by_cases k2 : k = 2
      · subst k2
        refine lv_tableIn (tgt := 212) hx hb dL_law_32 (by rw [ek]; decide) (by rw [ek]; decide) (by rw [ek]; rfl) (by decide) ?_
        exact law_c2 C0 hK hN hSS hA hbA hI hP hD hS hl (by omega) hL (by omega) (by omega) kk
      by_cases k3 : k = 3
      · subst k3
        refine lv_tableIn (tgt := 225) hx hb dL_law_32 (by rw [ek]; decide) (by rw [ek]; decide) (by rw [ek]; rfl) (by decide) ?_
        exact law_c3 C0 hK hN hSS hA hbA hI hP hD hS hl (by omega) hL (by omega) (by omega) kk
      by_cases k4 : k = 4
      · subst k4
        refine lv_tableIn (tgt := 248) hx hb dL_law_32 (by rw [ek]; decide) (by rw [ek]; decide) (by rw [ek]; rfl) (by decide) ?_
        exact law_c4 C0 hK hN hSS hA hbA hI hP hD hS hl (by omega) hL (by omega) (by omega) kk
      by_cases k5 : k = 5
      · subst k5
        refine lv_tableIn (tgt := 281) hx hb dL_law_32 (by rw [ek]; decide) (by rw [ek]; decide) (by rw [ek]; rfl) (by decide) ?_
        exact law_c5 C0 hK hN hSS hA hbA hI hP hD hS hl (by omega) hL (by omega) (by omega) kk
      by_cases k6 : k = 6
      · subst k6
        refine lv_tableIn (tgt := 314) hx hb dL_law_32 (by rw [ek]; decide) (by rw [ek]; decide) (by rw [ek]; rfl) (by decide) ?_
        exact law_c6 C0 hK hN hSS hA hbA hI hP hD hS hl (by omega) hL (by omega) (by omega) kk
      by_cases k7 : k = 7
      · subst k7
        refine lv_tableIn (tgt := 337) hx hb dL_law_32 (by rw [ek]; decide) (by rw [ek]; decide) (by rw [ek]; rfl) (by decide) ?_
        exact law_c7 C0 hK hN hSS hA hbA hI hP hD hS hl (by omega) hL (by omega) (by omega) kk
      by_cases k8 : k = 8
      · subst k8
        refine lv_tableIn (tgt := 350) hx hb dL_law_32 (by rw [ek]; decide) (by rw [ek]; decide) (by rw [ek]; rfl) (by decide) ?_
        exact law_c8 C0 hK hN hSS hA hbA hI hP hD hS hl (by omega) hL (by omega) (by omega) kk
      by_cases k9 : k = 9
      · subst k9
        refine lv_tableIn (tgt := 363) hx hb dL_law_32 (by rw [ek]; decide) (by rw [ek]; decide) (by rw [ek]; rfl) (by decide) ?_
        exact law_c9 C0 hK hN hSS hA hbA hI hP hD hS hl (by omega) hL (by omega) (by omega) kk
      by_cases k10 : k = 10
      · subst k10
        refine lv_tableIn (tgt := 376) hx hb dL_law_32 (by rw [ek]; decide) (by rw [ek]; decide) (by rw [ek]; rfl) (by decide) ?_
        exact law_c10 C0 hK hN hSS hA hbA hI hP hD hS hl (by omega) hL (by omega) (by omega) kk
      by_cases k11 : k = 11
      · subst k11
        refine lv_tableIn (tgt := 389) hx hb dL_law_32 (by rw [ek]; decide) (by rw [ek]; decide) (by rw [ek]; rfl) (by decide) ?_
        exact law_c11 C0 hK hN hSS hA hbA hI hP hD hS hl (by omega) hL (by omega) (by omega) kk
      by_cases k12 : k = 12
      · subst k12
        refine lv_tableIn (tgt := 402) hx hb dL_law_32 (by rw [ek]; decide) (by rw [ek]; decide) (by rw [ek]; rfl) (by decide) ?_
        exact law_c12 C0 hK hN hSS hA hbA hI hP hD hS hl (by omega) hL (by omega) (by omega) kk
      by_cases k13 : k = 13
      · subst k13
        refine lv_tableIn (tgt := 415) hx hb dL_law_32 (by rw [ek]; decide) (by rw [ek]; decide) (by rw [ek]; rfl) (by decide) ?_
        exact law_c13 C0 hK hN hSS hA hbA hI hP hD hS hl (by omega) hL (by omega) (by omega) kk
      by_cases k14 : k = 14
      · subst k14
        refine lv_tableIn (tgt := 438) hx hb dL_law_32 (by rw [ek]; decide) (by rw [ek]; decide) (by rw [ek]; rfl) (by decide) ?_
        exact law_c14 C0 hK hN hSS hA hbA hI hP hD hS hl (by omega) hL (by omega) (by omega) kk
      by_cases k15 : k = 15
      · subst k15
        refine lv_tableIn (tgt := 451) hx hb dL_law_32 (by rw [ek]; decide) (by rw [ek]; decide) (by rw [ek]; rfl) (by decide) ?_
        exact law_c15 C0 hK hN hSS hA hbA hI hP hD hS hl (by omega) hL (by omega) (by omega) kk
      by_cases k16 : k = 16
      · subst k16
        refine lv_tableIn (tgt := 474) hx hb dL_law_32 (by rw [ek]; decide) (by rw [ek]; decide) (by rw [ek]; rfl) (by decide) ?_
        exact law_c16 C0 hK hN hSS hA hbA hI hP hD hS hl (by omega) hL (by omega) (by omega) kk
      by_cases k17 : k = 17
      · subst k17
        refine lv_tableIn (tgt := 497) hx hb dL_law_32 (by rw [ek]; decide) (by rw [ek]; decide) (by rw [ek]; rfl) (by decide) ?_
        exact law_c17 C0 hK hN hSS hA hbA hI hP hD hS hl (by omega) hL (by omega) (by omega) kk
      by_cases k18 : k = 18
      · subst k18
        refine lv_tableIn (tgt := 520) hx hb dL_law_32 (by rw [ek]; decide) (by rw [ek]; decide) (by rw [ek]; rfl) (by decide) ?_
        exact law_c18 C0 hK hN hSS hA hbA hI hP hD hS hl (by omega) hL (by omega) (by omega) kk
      by_cases k19 : k = 19
      · subst k19
        refine lv_tableIn (tgt := 543) hx hb dL_law_32 (by rw [ek]; decide) (by rw [ek]; decide) (by rw [ek]; rfl) (by decide) ?_
        exact law_c19 C0 hK hN hSS hA hbA hI hP hD hS hl (by omega) hL (by omega) (by omega) kk
      by_cases k20 : k = 20
      · subst k20
        refine lv_tableIn (tgt := 566) hx hb dL_law_32 (by rw [ek]; decide) (by rw [ek]; decide) (by rw [ek]; rfl) (by decide) ?_
        exact law_c20 C0 hK hN hSS hA hbA hI hP hD hS hl (by omega) hL (by omega) (by omega) kk
      by_cases k21 : k = 21
      · subst k21
        refine lv_tableIn (tgt := 589) hx hb dL_law_32 (by rw [ek]; decide) (by rw [ek]; decide) (by rw [ek]; rfl) (by decide) ?_
        exact law_c21 C0 hK hN hSS hA hbA hI hP hD hS hl (by omega) hL (by omega) (by omega) kk
      by_cases k22 : k = 22
      · subst k22
        refine lv_tableIn (tgt := 612) hx hb dL_law_32 (by rw [ek]; decide) (by rw [ek]; decide) (by rw [ek]; rfl) (by decide) ?_
        exact law_c22 C0 hK hN hSS hA hbA hI hP hD hS hl (by omega) hL (by omega) (by omega) kk
      by_cases k23 : k = 23
      · subst k23
        refine lv_tableIn (tgt := 635) hx hb dL_law_32 (by rw [ek]; decide) (by rw [ek]; decide) (by rw [ek]; rfl) (by decide) ?_
        exact law_c23 C0 hK hN hSS hA hbA hI hP hD hS hl (by omega) hL (by omega) (by omega) kk
      by_cases k24 : k = 24
      · subst k24
        refine lv_tableIn (tgt := 648) hx hb dL_law_32 (by rw [ek]; decide) (by rw [ek]; decide) (by rw [ek]; rfl) (by decide) ?_
        exact law_c24 C0 hK hN hSS hA hbA hI hP hD hS hl (by omega) hL (by omega) (by omega) kk
      by_cases k25 : k = 25
      · subst k25
        refine lv_tableIn (tgt := 661) hx hb dL_law_32 (by rw [ek]; decide) (by rw [ek]; decide) (by rw [ek]; rfl) (by decide) ?_
        exact law_c25 C0 hK hN hSS hA hbA hI hP hD hS hl (by omega) hL (by omega) (by omega) kk
      by_cases k26 : k = 26
      · subst k26
        refine lv_tableIn (tgt := 674) hx hb dL_law_32 (by rw [ek]; decide) (by rw [ek]; decide) (by rw [ek]; rfl) (by decide) ?_
        exact law_c26 C0 hK hN hSS hA hbA hI hP hD hS hl (by omega) hL (by omega) (by omega) kk
      by_cases k27 : k = 27
      · subst k27
        refine lv_tableIn (tgt := 697) hx hb dL_law_32 (by rw [ek]; decide) (by rw [ek]; decide) (by rw [ek]; rfl) (by decide) ?_
        exact law_c27 C0 hK hN hSS hA hbA hI hP hD hS hl (by omega) hL (by omega) (by omega) kk
      by_cases k28 : k = 28
      · subst k28
        refine lv_tableIn (tgt := 720) hx hb dL_law_32 (by rw [ek]; decide) (by rw [ek]; decide) (by rw [ek]; rfl) (by decide) ?_
        exact law_c28 C0 hK hN hSS hA hbA hI hP hD hS hl (by omega) hL (by omega) (by omega) kk
      by_cases k29 : k = 29
      · subst k29
        refine lv_tableIn (tgt := 743) hx hb dL_law_32 (by rw [ek]; decide) (by rw [ek]; decide) (by rw [ek]; rfl) (by decide) ?_
        exact law_c29 C0 hK hN hSS hA hbA hI hP hD hS hl (by omega) hL (by omega) (by omega) kk
      by_cases k30 : k = 30
      · subst k30
        refine lv_tableIn (tgt := 756) hx hb dL_law_32 (by rw [ek]; decide) (by rw [ek]; decide) (by rw [ek]; rfl) (by decide) ?_
        exact law_c30 C0 hK hN hSS hA hbA hI hP hD hS hl (by omega) hL (by omega) (by omega) kk
      by_cases k31 : k = 31
      · subst k31
        refine lv_tableIn (tgt := 769) hx hb dL_law_32 (by rw [ek]; decide) (by rw [ek]; decide) (by rw [ek]; rfl) (by decide) ?_
        exact law_c31 C0 hK hN hSS hA hbA hI hP hD hS hl (by omega) hL (by omega) (by omega) kk
      exfalso
      omega
theorem law_R0 : Rst (fun _ => 0) (fun _ => 0) 0 (fun _ => 0) 0 (fun _ => 0) 0 (fun _ => 0) 0 (fun _ => 0) := by
  have h : Rst (fun _ => 0) (fun _ => 0) 0 (fun _ => 0) 0 (fun _ => 0) 0 (zF (fun _ => 0) 16) 0 (fun _ => 0) := Rst.reset _ _ _ ⟨by omega, rfl, fun i hi => by omega⟩ rfl (Or.inl rfl) rfl rfl
  have e : zF (fun _ => 0) 16 = fun _ => 0 := by funext j; unfold zF; split <;> rfl
  rw [e] at h
  exact h
set_option maxRecDepth 20000 in
theorem law_perm0 {G : GT} {x0 m0 : Nat} (tx pr h0 hh sl tb ps pm pv sy sm sw mu ma mz mb ex sv a1 a2 a3 a5 a6 a7 a14 a16 : Nat) :
    (([(x0, OB 6 [.ref tx, .ref pr, .ref h0, .ref hh, .ref sl]), (tx, OB 5 [.ref tb, .int (nI 0)]), (tb, AI G 120 (fun _ => 0)), (pr, OB 2 [.ref ps, .int 0, .int 0, .int 0, .int 0, .int 0, .int 0]), (ps, OB 0 [.ref pm, .ref pv, .int (nI 0)]), (pm, AJ G 10 (fun _ => 0)), (pv, AI G 10 (fun _ => 0)), (h0, OB 4 [.ref sy, .ref mu, .ref mz, .ref ex, .int 0]), (sy, OB 0 [.ref sm, .ref sw, .int (nI 0)]), (sm, AJ G 10 (fun _ => 0)), (sw, AI G 10 (fun _ => 0)), (mu, OB 3 [.ref ma, .int (nI 0)]), (ma, AI G 252 (fun _ => 0)), (mz, OB 3 [.ref mb, .int (nI 0)]), (mb, AI G 252 (fun _ => 0)), (ex, AJ G 16 (fun _ => 0)), (hh, OB 1 [.ref sv, .int (nI 0), .int (nI 0)]), (sv, AQ G 5 (fun _ => none)), (sl, AQ G 2 (fun _ => none))] : va_W) ++ [(m0, OB 7 [.int 0, .ref a1, .ref a2, .ref a3, .int (nI 0), .ref a5, .ref a6, .ref a7, .int (nI 0), .int (nI 0), .int (nI 0), .int 0, .int 0, .int 0, .ref a14, .int 0, .ref a16]), (a1, AI G 568 (fun _ => 0)), (a2, AI G 64 (fun _ => 0)), (a3, AI G 2840 (fun _ => 0)), (a5, AI G 1136 (fun _ => 0)), (a6, AZ G 2 (fun _ => 0)), (a7, AI G 120 (fun _ => 0)), (a14, AI G 64 (fun _ => 0)), (a16, AZ G 1024 (fun _ => 0))]).Perm
    (xW G x0 tx tb pr ps pm pv hh sv sl (fun _ => 0) 0 ((0, 0, 0, 0, 0, 0), (fun _ => 0), (fun _ => 0), 0) 0 0 (fun _ => none) (fun _ => none) h0 sy sm sw mu ma mz mb ex (fun _ => 0) (fun _ => 0) 0 (fun _ => 0) 0 (fun _ => 0) 0 (fun _ => 0) 0 ++ (blks G (fun _ => none) 5 ++ (blks G (fun _ => none) 2 ++ (mW G m0 a1 a2 a3 a5 a6 a7 a14 a16 0 0 0 0 0 0 0 0 0 (fun _ => 0) (fun _ => 0) (fun _ => 0) (fun _ => 0) (fun _ => false) (fun _ => 0) (fun _ => 0) (fun _ => false) ++ [])))) := by
  have h := pmL ((xW G x0 tx tb pr ps pm pv hh sv sl (fun _ => 0) 0 ((0, 0, 0, 0, 0, 0), (fun _ => 0), (fun _ => 0), 0) 0 0 (fun _ => none) (fun _ => none) h0 sy sm sw mu ma mz mb ex (fun _ => 0) (fun _ => 0) 0 (fun _ => 0) 0 (fun _ => 0) 0 (fun _ => 0) 0).map (fun c => [c]) ++ [mW G m0 a1 a2 a3 a5 a6 a7 a14 a16 0 0 0 0 0 0 0 0 0 (fun _ => 0) (fun _ => 0) (fun _ => 0) (fun _ => 0) (fun _ => false) (fun _ => 0) (fun _ => 0) (fun _ => false)]) (I := [0, 1, 2, 3, 4, 5, 6, 10, 11, 12, 13, 14, 15, 16, 17, 18, 7, 8, 9, 19]) (J := [0, 1, 2, 3, 4, 5, 6, 7, 8, 9, 10, 11, 12, 13, 14, 15, 16, 17, 18, 19]) (by decide +kernel)
  exact h
set_option maxHeartbeats 4000000 in
set_option maxRecDepth 100000 in
/-- THE LAW, from its entry -/
theorem whole_start {p : Program} {e : Env} {s : State} {m : MethodId} {below : List Frame} {meth : Method} {c : Code} (l : Launch) (hflags : l.flags = flags0) {b L : Nat} {xs : Nat → Int32} (hL : L ≤ 1536) (C0 : lw_At p s m meth c b L xs) : W p l e room_1 s m #[Value.ref b] below meth c s.heap [] 0 0 (lw_Z below #[Value.ref b] s) (entryFrame m ([Value.ref b] : List Value).toArray 4) := by
  obtain ⟨hx, hb, hr, hml, hown, hts, hX, hbl, hlocks, hgv⟩ := id C0
  have hown : s.vm.findClass RL = some m.cls := hown
  have hA : ∀ q : Nat, s.heap.size ≤ q → (fun q : Nat => s.heap.size ≤ q) q := fun _ h => h
  have hLw : ∀ w ∈ wsL_law, w.before #[Value.ref b] s = true := fun w h => hts w (lin_all w h)
  obtain ⟨G, hK, hN, hSS⟩ := law_G hts hgv
  have hS : va_S (fun q : Nat => s.heap.size ≤ q) s.heap s.heap [] := va_S.rf
  have hP : va_P G.1 vwCl [] s.heap := fun k q h => by simp at h
  have hD : va_D (fun q : Nat => s.heap.size ≤ q) [] := ⟨fun i j p q h => by simp at h, fun k q h => by simp at h⟩
  have hl := lv_entry ([.ref b]) (n := 4) (Nat.le_of_ble_eq_true rfl)
  rw [lg_entry_eq]
  generalize (lg_sl ([.ref b]) ++ List.replicate (4 - (lg_sl ([.ref b])).length) Slot.unset).toArray = ls at hl ⊢
  have hl : lv_has ls 4 [(0, .ref b)] := hl
  refine va_new (ci := 6) (fs := [.null, .null, .null, .null, .null]) (C := RX6) (T := TX6) (N := 5) hx hb hts linX6 tyX6 tyX6_ok hown (hts (.classLink RL 7 RX6) (by decide +kernel)) (hts (.instantiable RX6 5) (by decide +kernel)) (hts (.initialized RX6) (by decide +kernel)) hK hP hD hS hA rfl (fun j hj => by rcases (show j = 0 ∨ j = 1 ∨ j = 2 ∨ j = 3 ∨ j = 4 by omega) with rfl | rfl | rfl | rfl | rfl <;> rfl) (Nat.le_of_ble_eq_true rfl) (Nat.le_of_ble_eq_true rfl) dL_law_0 (fun x0 H hP hD hS => ?_)
  have hP : va_P G.1 vwCl [(x0, OB 6 [.null, .null, .null, .null, .null])] H := hP
  have hD : va_D (fun q : Nat => s.heap.size ≤ q) [(x0, OB 6 [.null, .null, .null, .null, .null])] := hD
  refine lv_dup hx hb dL_law_3 rfl ?_
  refine call_Iv (rest := [.ref x0]) (As := []) (wr := []) (c1 := 19) (s1 := 719) ⟨hx, hb, hml, hown, hLw⟩ (c_X6_init l G x0) (cwI 0 hLw gL_law_X6_init rfl rfl rfl (hts (.initialized RX6) (by decide +kernel)) (hts (.methodLink RL 9 yX6_init) (by decide +kernel)) (hts (.instanceMethod yX6_init) (by decide +kernel)) rfl (by decide +kernel) ⟨Nat.le_of_ble_eq_true rfl, Nat.le_of_ble_eq_true rfl⟩) hK hN hSS hP hD hS hA [0] [] rfl rfl (by decide) (by decide) (by decide) rfl hl.1 rfl (Nat.le_of_ble_eq_true rfl) dL_law_4 ⟨Nat.le_of_ble_eq_true rfl, Nat.le_of_ble_eq_true rfl⟩ rfl rfl (fun u1 H locs hpo hP hD hS => ?_)
  obtain ⟨tx, pr, h0, hh, sl, tb, ps, pm, pv, sy, sm, sw, mu, ma, mz, mb, ex, sv, rfl⟩ := hpo
  refine lv_astore_n (lv' := [(1, .ref x0), (0, .ref b)]) hx hb dL_law_7 rfl hl (by decide) rfl (fun ls hl => ?_)
  refine va_new (ci := 7) (fs := [.int 0, .null, .null, .null, .int 0, .null, .null, .null, .int 0, .int 0, .int 0, .int 0, .int 0, .int 0, .null, .int 0, .null]) (C := RX7) (T := TX7) (N := 17) hx hb hts linX7 tyX7 tyX7_ok hown (hts (.classLink RL 10 RX7) (by decide +kernel)) (hts (.instantiable RX7 17) (by decide +kernel)) (hts (.initialized RX7) (by decide +kernel)) hK hP hD hS hA rfl (fun j hj => by rcases (show j = 0 ∨ j = 1 ∨ j = 2 ∨ j = 3 ∨ j = 4 ∨ j = 5 ∨ j = 6 ∨ j = 7 ∨ j = 8 ∨ j = 9 ∨ j = 10 ∨ j = 11 ∨ j = 12 ∨ j = 13 ∨ j = 14 ∨ j = 15 ∨ j = 16 by omega) with rfl | rfl | rfl | rfl | rfl | rfl | rfl | rfl | rfl | rfl | rfl | rfl | rfl | rfl | rfl | rfl | rfl <;> rfl) (Nat.le_of_ble_eq_true rfl) (Nat.le_of_ble_eq_true rfl) dL_law_8 (fun m0 H hP hD hS => ?_)
  refine lv_dup hx hb dL_law_11 rfl ?_
  refine call_Iv (rest := [.ref m0]) (As := []) (wc := [(m0, OB 7 [.int 0, .null, .null, .null, .int 0, .null, .null, .null, .int 0, .int 0, .int 0, .int 0, .int 0, .int 0, .null, .int 0, .null])]) (wr := [(x0, OB 6 [.ref tx, .ref pr, .ref h0, .ref hh, .ref sl]), (tx, OB 5 [.ref tb, .int (nI 0)]), (tb, AI G 120 (fun _ => 0)), (pr, OB 2 [.ref ps, .int 0, .int 0, .int 0, .int 0, .int 0, .int 0]), (ps, OB 0 [.ref pm, .ref pv, .int (nI 0)]), (pm, AJ G 10 (fun _ => 0)), (pv, AI G 10 (fun _ => 0)), (h0, OB 4 [.ref sy, .ref mu, .ref mz, .ref ex, .int 0]), (sy, OB 0 [.ref sm, .ref sw, .int (nI 0)]), (sm, AJ G 10 (fun _ => 0)), (sw, AI G 10 (fun _ => 0)), (mu, OB 3 [.ref ma, .int (nI 0)]), (ma, AI G 252 (fun _ => 0)), (mz, OB 3 [.ref mb, .int (nI 0)]), (mb, AI G 252 (fun _ => 0)), (ex, AJ G 16 (fun _ => 0)), (hh, OB 1 [.ref sv, .int (nI 0), .int (nI 0)]), (sv, AQ G 5 (fun _ => none)), (sl, AQ G 2 (fun _ => none))]) (c1 := 28) (s1 := 6554) ⟨hx, hb, hml, hown, hLw⟩ (c_X7_init l G m0) (cwI 0 hLw gL_law_X7_init rfl rfl rfl (hts (.initialized RX7) (by decide +kernel)) (hts (.methodLink RL 12 yX7_init) (by decide +kernel)) (hts (.instanceMethod yX7_init) (by decide +kernel)) rfl (by decide +kernel) ⟨Nat.le_of_ble_eq_true rfl, Nat.le_of_ble_eq_true rfl⟩) hK hN hSS hP hD hS hA [19] [0, 1, 2, 3, 4, 5, 6, 7, 8, 9, 10, 11, 12, 13, 14, 15, 16, 17, 18] rfl rfl (by decide) (by decide) (by decide) rfl hl.1 rfl (Nat.le_of_ble_eq_true rfl) dL_law_12 ⟨Nat.le_of_ble_eq_true rfl, Nat.le_of_ble_eq_true rfl⟩ rfl rfl (fun u2 H locs hpo hP hD hS => ?_)
  obtain ⟨a1, a2, a3, a5, a6, a7, a14, a16, rfl⟩ := hpo
  refine lv_astore_n (lv' := [(2, .ref m0), (1, .ref x0), (0, .ref b)]) hx hb dL_law_15 rfl hl (by decide) rfl (fun ls hl => ?_)
  refine lv_iconst (v := 0) hx hb dL_law_16 (by decide) ?_
  refine lv_istore_n (lv' := [(3, .int 0), (2, .ref m0), (1, .ref x0), (0, .ref b)]) hx hb dL_law_17 rfl hl (by decide) rfl (fun ls hl => ?_)
  refine law_loop hL C0 hK hN hSS (L + 1) 0 (by omega) (by omega) _ H locs ls ?_ hP hD hS hl
  refine INV.mk tx tb pr ps pm pv hh sv sl (fun _ => 0) 0 ((0, 0, 0, 0, 0, 0), (fun _ => 0), (fun _ => 0), 0) 0 0 (fun _ => none) (fun _ => none) h0 sy sm sw mu ma mz mb ex (fun _ => 0) (fun _ => 0) 0 (fun _ => 0) 0 (fun _ => 0) 0 (fun _ => 0) 0 (fun _ => none) (fun _ => none) a1 a2 a3 a5 a6 a7 a14 a16 0 0 0 0 0 0 0 0 (fun _ => 0) (fun _ => 0) (fun _ => 0) (fun _ => 0) (fun _ => false) (fun _ => 0) (fun _ => false) [] ?_ rfl rfl rfl law_R0 ⟨by omega, by omega, fun i hi => by omega⟩ (fun j hj => ⟨fun h => (by cases h), fun _ => rfl⟩) (by omega) (fun k => by decide)
  exact law_perm0 tx pr h0 hh sl tb ps pm pv sy sm sw mu ma mz mb ex sv a1 a2 a3 a5 a6 a7 a14 a16
-- ===== YOUR PART ENDS =====
set_option maxHeartbeats 4000000 in
theorem lw_walk (l : Launch) (hflags : l.flags = flags0) (b : Addr) (xs : List Int32) : MetFree l x (headSpec (Jvm.Cond.code x code maxLocals ret :: tables_1) room_1) (lw_P b xs) (fun _ _ _ _ _ => True) lw_Q := by
  refine MetFree.of_bodyS (code := code) (maxLocals := maxLocals) (ret := ret) (by decide) ?_ ?_
  · intro args s m h hn
    obtain ⟨meth, c, h1, h2, h3, h4, h5, h6, -, -⟩ := Cond.code_spec hn (atoms_spec (ws := Jvm.Cond.code x code maxLocals ret :: tables_1) h _ List.mem_cons_self)
    exact ⟨meth, c, h1, h2, h3, h4, h5, h6⟩
  · intro p e s m args below meth c s₁ B hml0 hP _
    obtain ⟨rfl, hx, hbd, hgv⟩ := hP
    obtain ⟨scr, harrAt, hlist, hof, hsmall⟩ := hx
    obtain ⟨hcb, hkn, -, -⟩ := State.arrayAt?_spec harrAt
    have hown : s.vm.findClass R_law = some m.cls := findClass_of_methodNamed B.named
    have hts0 : ∀ c ∈ (Jvm.Cond.code x code maxLocals ret :: tables_1), c.before #[Value.ref b] s = true := atoms_spec (ws := Jvm.Cond.code x code maxLocals ret :: tables_1) B.pre
    have hts : ∀ w ∈ lw_tbl, w.before #[Value.ref b] s = true := k2_hts_sels lw_privs (fun w hw => hts0 w (List.mem_cons_of_mem _ hw)) lw_privs_ok
    have hml : c.maxLocals = 4 := B.maxLocals_eq (hts0 _ List.mem_cons_self)
    have X₀ : Stand p l e room_1 s m #[Value.ref b] below meth c s₁ [] 0 0 := Stand.of_body B
    have hh0 : s₁.heap = s.heap := by rw [B.state]; rfl
    have hsz : scr.slots.size = xs.length := by rw [← Array.length_toList, hlist, List.length_map]
    have hval : ∀ j : Nat, j < xs.length → scr.slots[j]? = some (.int (xs.getD j 0)) := fun j hj => by
      rw [← Array.getElem?_toList, hlist]
      simp [hj]
    have hbl : b < s.heap.size := (Array.getElem?_eq_some_iff.mp hcb).1
    have hX : va_X b xs.length (fun j => xs.getD j 0) s s.heap := ⟨scr, hcb, hof, hkn, hsz, hval⟩
    have K : W p l e room_1 s m #[Value.ref b] below meth c s₁.heap [] 0 0 (lw_Z below #[Value.ref b] s) (entryFrame m ([Value.ref b] : List Value).toArray 4) := by
      rw [hh0]
      exact whole_start l hflags hbd ⟨B.exec, B.bytes, B.returns, hml, hown, hts, hX, hbl, B.notSynchronized, hgv⟩
    obtain ⟨t, a1, o, b1, b2, b3⟩ := K s₁ rfl X₀
    exact ⟨t, o, a1, b1, b2, b3⟩
theorem lw_pre_spec {args : Array Value} {s : State} (h : (Jvm.Cond.and given_1 narrow_1).before args s = true) (hr : rest_1_c.before args s = true) : ∃ (b : Addr) (xs : List Int32), lw_P b xs args s := by
  have hs := flat_of_before _ h
  have hq := flat_of_before _ hr
  have hc : (Cond.count 1).before args s = true := hs _ (by decide +kernel)
  have harr : (Cond.arrayOf (.arg 0) .int).before args s = true := hs _ (by decide +kernel)
  have hle : (Cond.le (.length (.arg 0)) (.int 1536)).before args s = true := hs _ (by decide +kernel)
  have hlen : (Cond.isInt (.length (.arg 0))).before args s = true := hq _ (by decide +kernel)
  have hall : (Cond.all (.arg 0) (.isInt (.elem (.arg 0) (.index 0)))).before args s = true := hq _ (by decide +kernel)
  obtain ⟨b, xs, hb, hx⟩ := State.ints_of_pre rfl harr hlen hall
  have hsm : xs.length < 2 ^ 31 := hx.choose_spec.2.2.2
  have hev : (Term.length (.arg 0)).eval args s none [] s = some (.int xs.length.toInt32) := hx.length_eval hb
  have hv := Cond.le_ints hev (show (Term.int 1536).eval args s none [] s = some (.int 1536) from rfl)
  have hd : xs.length.toInt32 ≤ 1536 := by
    simpa [Cond.before, Cond.holds, hv] using hle
  have hN : xs.length ≤ 1536 := (Int32.ofNat_le_ofNat hsm (by decide)).mp (show Int32.ofNat xs.length ≤ Int32.ofNat 1536 from hd)
  exact ⟨b, xs, Cond.one_arg hc (show args[0]? = some (.ref b) from hb), hx, hN, h⟩
theorem lw_comes (l : Launch) (hflags : l.flags = flags0) : Comes l x (Jvm.Cond.code x code maxLocals ret :: tables_1) room_1 (fun tb e args s => Calls_1 tb e args s ∧ rest_1 tb e args s ∧ Pre_1 tb e args s)
    (fun _ _ args s o t => lw_Q args s o t) := by
  intro p e ha hc hk s m args below hf hfit hheap happ hpre
  obtain ⟨b, xs, hP⟩ := lw_pre_spec hpre.2.2 hpre.2.1
  obtain ⟨k, o, h1, h2, h3, hQ⟩ := lw_walk l hflags b xs p e ha hc hk s m args below hf ((Spec.applies_iff_loose hf).mp happ).1 hP trivial
  exact ⟨k, o, h1, h2, h3, hQ⟩
theorem lw_frame {s t : State} {o : Outcome} {args : Array Value} (h : Framed s o t [] 600000 7302250) :
    Framed s o t (fieldLocs frame_1_writes args s ++ arrayLocs frame_1_arrays args s ++ staticLocs frame_1_statics s) 600000 7302250 := h
theorem lw_limb (L : Cond) (hL : ∀ (args : Array Value) (s t : State), L.after args s (.returned (some (.int 1))) t = true) :
    ArmFor flags0 classFile x code maxLocals ret World_1 tables_1 room_1 Calls_1 rest_1 Pre_1
      (fun tb e a s o t => postC L tb e a s o t ∧ Framed s o t (fieldLocs frame_1_writes a s ++ arrayLocs frame_1_arrays a s ++ staticLocs frame_1_statics s) 600000 7302250) := by
  intro l hflags _ _ p e ha hc hk s m args below hf hfit hheap happ hpre
  obtain ⟨k, o, h1, h2, h3, rfl, hF⟩ := lw_comes l hflags p e ha hc hk s m args below hf hfit hheap happ hpre
  exact ⟨k, _, h1, h2, h3, hL args s _, lw_frame hF⟩
theorem i_vc : Claimed_1_1 ∧ Claimed_1_2 := ⟨lw_limb limb_1_1 (fun args s t => by simp [limb_1_1, Cond.after, Cond.holds, Cond.value]), lw_limb limb_1_2 (fun args s t => Cond.after_iff.mpr (by
  first | (rw [show limb_1_2 = Cond.eq .result (.int 1) from rfl, Cond.eq_ints (x := 1) (y := 1) rfl rfl]; simp; done) | (simp [limb_1_2, Cond.value, Term.eval]; done)))⟩

