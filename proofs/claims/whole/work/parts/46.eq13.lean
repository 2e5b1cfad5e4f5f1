/-! BOTH READERS: literals, constraints, the system -/
abbrev MT3 : Type := (Nat → Int64) × (Nat → Int32) × Nat
theorem acA_0 {tk : Int32} {z : CS} (h : z.1.1 = 0) : acA tk z = acC tk z := by unfold acA; rw [if_pos h]
theorem acA_1 {tk : Int32} {z : CS} (h : z.1.1 = 1) : acA tk z = acK tk z := by unfold acA; rw [if_neg (by rw [h]; decide), if_pos h]
theorem acA_2 {tk : Int32} {z : CS} (h : z.1.1 = 2) : acA tk z = acB tk z := by unfold acA; rw [if_neg (by rw [h]; decide), if_neg (by rw [h]; decide), if_pos h]
theorem acA_3 {tk : Int32} {z : CS} (h : z.1.1 = 3) : acA tk z = acL tk z := by unfold acA; rw [if_neg (by rw [h]; decide), if_neg (by rw [h]; decide), if_neg (by rw [h]; decide), if_pos h]
theorem acA_4 {tk : Int32} {z : CS} (h : z.1.1 = 4) : acA tk z = acV tk true z := by unfold acA; rw [if_neg (by rw [h]; decide), if_neg (by rw [h]; decide), if_neg (by rw [h]; decide), if_neg (by rw [h]; decide), if_pos h]
theorem acA_5 {tk : Int32} {z : CS} (h : z.1.1 = 5) : acA tk z = acR tk z := by unfold acA; rw [if_neg (by rw [h]; decide), if_neg (by rw [h]; decide), if_neg (by rw [h]; decide), if_neg (by rw [h]; decide), if_neg (by rw [h]; decide), if_pos h]
theorem acA_6 {tk : Int32} {z : CS} (h : z.1.1 = 6) : acA tk z = acW tk z := by unfold acA; rw [if_neg (by rw [h]; decide), if_neg (by rw [h]; decide), if_neg (by rw [h]; decide), if_neg (by rw [h]; decide), if_neg (by rw [h]; decide), if_neg (by rw [h]; decide), if_pos h]
theorem acA_7 {tk : Int32} {z : CS} (h : z.1.1 = 7) : acA tk z = acE tk z := by unfold acA; rw [if_neg (by rw [h]; decide), if_neg (by rw [h]; decide), if_neg (by rw [h]; decide), if_neg (by rw [h]; decide), if_neg (by rw [h]; decide), if_neg (by rw [h]; decide), if_neg (by rw [h]; decide)]
section SYS
variable {f : Nat → Int32} {ln : Nat}
def LIT (f : Nat → Int32) (ln : Nat) (r : Int32 × CS) (w : Nat) (kd bd pw : Int32) (M : MT3) (P : Prop) (pl : Int32) (t : PT) (d : Nat → Int32) : Prop :=
  ∃ pp pn, Sim f ln r t ((pl, kd, bd, pw, pp, pn), M) ∧ (t.2.2.2.2 = -9 → VI pp pn (d (w + 2)) (d (w + 3)) ∧ P)
theorem litB_dg (d : Nat → Int32) (w : Nat) (t : PT) : litB d w t = (dgB t 1 6 && !(hasI (d (w + 2)) t.2.2.2.1)) := rfl
theorem inR_16 {x : Int32} (h : inR x 1 6 = true) : ∃ v, 1 ≤ v ∧ v ≤ 6 ∧ x = nI v := by
  have h2 : ¬ 6 < x := by unfold inR at h; rw [Bool.and_eq_true] at h; simpa using h.2
  have h3 : inR x 1 9 = true := by
    unfold inR at h ⊢
    rw [Bool.and_eq_true] at h ⊢
    refine ⟨h.1, ?_⟩
    have : ¬ 9 < x := fun h9 => h2 (by
      rw [Int32.lt_iff_toInt_lt] at h9 ⊢
      have e0 : (9 : Int32).toInt = 9 := rfl
      have e1 : (6 : Int32).toInt = 6 := rfl
      omega)
    simpa using this
  obtain ⟨v, h4, h5, rfl⟩ := inR_19 h3
  have : ¬ nI 6 < nI v := h2
  rw [nI_ltI (by decide) (by omega)] at this
  exact ⟨v, h4, by omega, rfl⟩
theorem var_take {r : Int32 × CS} {w : Nat} {pl kd bd pw pp pn : Int32} {M : MT3} {ng : Bool} {t : PT} {d : Nat → Int32} (hl : ln ≤ 120) (hf : ∀ k, k < ln → ¬ f k < 0) (h : Sim f ln r t ((pl, kd, bd, pw, pp, pn), M)) (he : t.2.2.2.2 = -9) (hpl : pl ≠ 0)
    (hac : acA (ct t) ((pl, kd, bd, pw, pp, pn), M) = acV (ct t) ng ((pl, kd, bd, pw, pp, pn), M)) (hv : VI pp pn (d (w + 2)) (d (w + 3))) :
    ∃ pp2 pn2, Sim f ln r (tkeM f ln (litB d w t) t) ((5, kd, bd, pw, pp2, pn2), M) ∧ ((tkeM f ln (litB d w t) t).2.2.2.2 = -9 → VI pp2 pn2 (d (w + 2) ||| 1 <<< (t.2.2.2.1 &&& 31)) (d (w + 3) ||| (if ng = true then 1 <<< (t.2.2.2.1 &&& 31) else 0))) := by
  have hd := (ct_dg hf h.1).2.1
  by_cases hdg : dgB t 1 6 = true
  · obtain ⟨e1, e2, e3⟩ := dgB_vl hdg
    obtain ⟨v, h1, h6, ev⟩ := inR_16 e3
    have hr : ¬ (ct t < 1 ∨ 6 < ct t) := fun h9 => by rw [hd.mp h9] at hdg; cases hdg
    have hct : ct t = nI v := e1.trans ev
    have hfr := hv.free h1 h6
    cases hu : hasI (d (w + 2)) (nI v) with
    | true =>
      have hb : litB d w t = false := by rw [litB_dg, hdg, ev, hu]; rfl
      have hac2 : (acA (ct t) ((pl, kd, bd, pw, pp, pn), M)).1 = false := by
        rw [hac]
        unfold acV
        rw [if_neg hr, if_pos]
        dsimp only
        rw [hct, hfr, hu]
        decide
      obtain ⟨p1, p2⟩ := h.take hl hf he (b := litB d w t) (by rw [hb, hac2]) (fun _ => hpl)
      have hne : (tkeM f ln (litB d w t) t).2.2.2.2 ≠ -9 := fun h9 => by rw [p2.mp h9] at hb; cases hb
      exact ⟨0, 0, p1.any hne _, fun h9 => absurd h9 hne⟩
    | false =>
      have hb : litB d w t = true := by rw [litB_dg, hdg, ev, hu]; rfl
      have hfree : ¬ ¬ ((pp ||| pn) &&& vbI (ct t) = 0) := by rw [hct, hfr, hu]; decide
      cases ng with
      | true =>
        have hac2 : acA (ct t) ((pl, kd, bd, pw, pp, pn), M) = (true, ((5, kd, bd, pw, pp, pn ||| vbI (nI v)), M)) := by
          rw [hac]
          unfold acV
          rw [if_neg hr, if_neg hfree, if_pos rfl, hct]
        obtain ⟨p1, p2⟩ := h.take hl hf he (b := litB d w t) (by rw [hb, hac2]) (fun _ => hpl)
        rw [hac2] at p1
        refine ⟨pp, pn ||| vbI (nI v), p1, fun _ => ?_⟩
        rw [if_pos rfl, ev]
        exact hv.neg h1 h6 hu
      | false =>
        have hac2 : acA (ct t) ((pl, kd, bd, pw, pp, pn), M) = (true, ((5, kd, bd, pw, pp ||| vbI (nI v), pn), M)) := by
          rw [hac]
          unfold acV
          rw [if_neg hr, if_neg hfree, if_neg (by decide), hct]
        obtain ⟨p1, p2⟩ := h.take hl hf he (b := litB d w t) (by rw [hb, hac2]) (fun _ => hpl)
        rw [hac2] at p1
        refine ⟨pp ||| vbI (nI v), pn, p1, fun _ => ?_⟩
        rw [if_neg (by decide), ev]
        exact hv.pos h1 h6 hu
  · have hdg : dgB t 1 6 = false := by simpa using hdg
    have hb : litB d w t = false := by rw [litB_dg, hdg]; rfl
    have hac2 : (acA (ct t) ((pl, kd, bd, pw, pp, pn), M)).1 = false := by
      rw [hac]
      unfold acV
      rw [if_pos (hd.mpr hdg)]
    obtain ⟨p1, p2⟩ := h.take hl hf he (b := litB d w t) (by rw [hb, hac2]) (fun _ => hpl)
    have hne : (tkeM f ln (litB d w t) t).2.2.2.2 ≠ -9 := fun h9 => by rw [p2.mp h9] at hb; cases hb
    exact ⟨0, 0, p1.any hne _, fun h9 => absurd h9 hne⟩
theorem litD_at {w k : Nat} {r : RS} (h2 : k ≠ w + 2) (h3 : k ≠ w + 3) : litD f ln w r k = r.2 k := by
  unfold litD
  split
  · rw [va_upN h3, va_upN h2]
  · rfl
theorem lit_step {r : Int32 × CS} {w : Nat} {kd bd pw : Int32} {M : MT3} {P : Prop} {pl : Int32} {t : PT} {d : Nat → Int32} (hl : ln ≤ 120) (hf : ∀ k, k < ln → ¬ f k < 0) (h : LIT f ln r w kd bd pw M P pl t d) (hp : pl = 3 ∨ (pl = 5 ∧ (t.2.2.2.2 = -9 → t.2.2.1 = 3 ∨ t.2.2.1 = 2))) : LIT f ln r w kd bd pw M P 5 (litM f ln w (t, d)).1 (litM f ln w (t, d)).2 := by
  obtain ⟨pp, pn, hs, hv⟩ := h
  by_cases he : t.2.2.2.2 = -9
  · obtain ⟨hv, hP⟩ := hv he
    have hkw := ct_kw hf hs.1
    have hpl : pl ≠ 0 := by rcases hp with h | ⟨h, -⟩ <;> rw [h] <;> decide
    have upd : ∀ {t1 : PT} {pp2 pn2 : Int32} (ng : Bool), t1 = ltA f ln t → (ng = true ↔ t.2.2.1 = 3) → Sim f ln r (tkeM f ln (litB d w t1) t1) ((5, kd, bd, pw, pp2, pn2), M) → ((tkeM f ln (litB d w t1) t1).2.2.2.2 = -9 → VI pp2 pn2 (d (w + 2) ||| 1 <<< (t1.2.2.2.1 &&& 31)) (d (w + 3) ||| (if ng = true then 1 <<< (t1.2.2.2.1 &&& 31) else 0))) → LIT f ln r w kd bd pw M P 5 (litM f ln w (t, d)).1 (litM f ln w (t, d)).2 := by
      intro t1 pp2 pn2 ng e hng p1 p2
      subst e
      refine ⟨pp2, pn2, p1, fun h9 => ⟨?_, hP⟩⟩
      have h9 : (ltB f ln w (t, d)).2.2.2.2 = -9 := h9
      show VI pp2 pn2 (litD f ln w (t, d) (w + 2)) (litD f ln w (t, d) (w + 3))
      unfold litD
      rw [if_pos h9, va_upN (by omega), va_upE rfl, va_upE rfl]
      have e3 : (if t.2.2.1 = 3 then (1 : Int32) <<< ((ltA f ln t).2.2.2.1 &&& 31) else 0) = (if ng = true then (1 : Int32) <<< ((ltA f ln t).2.2.2.1 &&& 31) else 0) := by
        by_cases h3 : t.2.2.1 = 3
        · rw [if_pos h3, if_pos (hng.mpr h3)]
        · rw [if_neg h3, if_neg (fun h => h3 (hng.mp h))]
      show VI pp2 pn2 (d (w + 2) ||| 1 <<< ((ltA f ln t).2.2.2.1 &&& 31)) (d (w + 3) ||| (if t.2.2.1 = 3 then (1 : Int32) <<< ((ltA f ln t).2.2.2.1 &&& 31) else 0))
      rw [e3]
      exact p2 h9
    by_cases h3 : t.2.2.1 = 3
    · have hct : ct t = 10 := hkw.2.2.2.2.2.1.mpr h3
      have hac : acA (ct t) ((pl, kd, bd, pw, pp, pn), M) = (true, ((4, kd, bd, pw, pp, pn), M)) := by
        have hL : acL (ct t) ((pl, kd, bd, pw, pp, pn), M) = (true, ((4, kd, bd, pw, pp, pn), M)) := by unfold acL; rw [if_pos hct]
        rcases hp with h5 | ⟨h5, -⟩
        · rw [acA_3 h5]; exact hL
        · rw [acA_5 h5]
          unfold acR
          rw [if_neg (by rw [hct]; decide), if_neg (by rw [hct]; rintro ⟨h9, -⟩; exact absurd h9 (by decide))]
          exact hL
      obtain ⟨p1, p2⟩ := hs.take hl hf he (b := true) (by rw [hac]) (fun _ => hpl)
      rw [hac] at p1
      have e1 : ltA f ln t = tkeM f ln true t := by unfold ltA; rw [if_pos h3]
      obtain ⟨pp2, pn2, q1, q2⟩ := var_take (w := w) (d := d) (ng := true) hl hf p1 (p2.mpr rfl) (by decide) (acA_4 rfl) hv
      exact upd true e1.symm ⟨fun _ => h3, fun _ => rfl⟩ q1 q2
    · have hct : ct t ≠ 10 := fun h9 => h3 (hkw.2.2.2.2.2.1.mp h9)
      have hL : acL (ct t) ((pl, kd, bd, pw, pp, pn), M) = acV (ct t) false ((pl, kd, bd, pw, pp, pn), M) := by unfold acL; rw [if_neg hct]
      have hac : acA (ct t) ((pl, kd, bd, pw, pp, pn), M) = acV (ct t) false ((pl, kd, bd, pw, pp, pn), M) := by
        rcases hp with h5 | ⟨h5, h6⟩
        · rw [acA_3 h5]; exact hL
        · have h2 : t.2.2.1 = 2 := by
            rcases h6 he with h | h
            · exact absurd h h3
            · exact h
          have h11 : ct t ≠ 11 := fun h9 => by rw [hkw.2.2.2.2.2.2.mp h9] at h2; exact absurd h2 (by decide)
          have h16 : ct t ≠ 16 := fun h9 => by
            have := hkw.2.2.2.1.mp h9
            rw [kwB_n (by rw [h2]; decide)] at this
            cases this
          rw [acA_5 h5]
          unfold acR
          rw [if_neg h11, if_neg (fun h9 => h16 h9.1)]
          exact hL
      have e1 : ltA f ln t = t := by unfold ltA; rw [if_neg h3]
      obtain ⟨pp2, pn2, q1, q2⟩ := var_take (w := w) (d := d) (ng := false) hl hf hs he hpl hac hv
      exact upd false e1.symm ⟨fun h => absurd h (by decide), fun h => absurd h h3⟩ q1 q2
  · have e1 : ltA f ln t = t := by
      unfold ltA
      split
      · exact tke_er he
      · rfl
    have e2 : ltB f ln w (t, d) = t := by
      unfold ltB
      show tkeM f ln _ (ltA f ln t) = t
      rw [e1]
      exact tke_er he
    have e3 : (litM f ln w (t, d)).1 = t := e2
    refine ⟨pp, pn, ?_, ?_⟩
    · rw [e3]; exact hs.any he _
    · rw [e3]; exact fun h9 => absurd h9 he
theorem litL_sim {r : Int32 × CS} {w : Nat} {kd bd pw : Int32} {M : MT3} {P : Prop} (hl : ln ≤ 120) (hf : ∀ k, k < ln → ¬ f k < 0) : ∀ k (s : RS), LIT f ln r w kd bd pw M P 5 s.1 s.2 → LIT f ln r w kd bd pw M P 5 (litL f ln w s k).1 (litL f ln w s k).2
  | 0, s, h => h
  | k + 1, s, h => by
    unfold litL
    split
    · rename_i hc
      exact litL_sim hl hf k _ (lit_step hl hf (t := s.1) (d := s.2) h (Or.inr ⟨rfl, fun _ => hc.2⟩))
    · exact h
theorem litL_at {w j : Nat} (h2 : j ≠ w + 2) (h3 : j ≠ w + 3) : ∀ k (s : RS), (litL f ln w s k).2 j = s.2 j
  | 0, s => rfl
  | k + 1, s => by
    unfold litL
    split
    · rw [litL_at h2 h3 k]
      exact litD_at h2 h3
    · rfl
theorem litL_end {w : Nat} (hl : ln ≤ 120) : ∀ k (s : RS), okP ln s.1 → leP9 ln s.1 ≤ k → ¬ ((litL f ln w s k).1.2.2.2.2 = -9 ∧ ((litL f ln w s k).1.2.2.1 = 3 ∨ (litL f ln w s k).1.2.2.1 = 2))
  | 0, s, ho, hk => by
    intro h9
    have := leP9_pos ho h9.1
    omega
  | k + 1, s, ho, hk => by
    unfold litL
    split
    · rename_i hc
      have := leP9_litlt (f := f) (w := w) hl ho hc.1 hc.2
      exact litL_end hl k _ (okP_lit ho) (by omega)
    · rename_i hc
      exact hc
end SYS
