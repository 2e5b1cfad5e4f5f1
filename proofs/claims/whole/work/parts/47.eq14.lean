/-! BOTH READERS: a constraint, the system -/
section CON
variable {f : Nat → Int32} {ln : Nat}
/-- or, xor, most -/
theorem kind_step {r : Int32 × CS} {t : PT} {z : CS} {pl k0 b0 pw : Int32} {M : MT3} (hl : ln ≤ 120) (hf : ∀ k, k < ln → ¬ f k < 0) (h : Sim f ln r t z) (hz : t.2.2.2.2 = -9 → acA (ct t) z = acK (ct t) ((pl, k0, b0, pw, 0, 0), M)) (h0 : t.2.2.2.2 = -9 → t.2.2.1 = 0 → z.1.1 ≠ 0) :
    Sim f ln r (bod1 f ln t) ((if kwB t 3 = true then 2 else 3, ct t, b0, pw, 0, 0), M) ∧ ((bod1 f ln t).2.2.2.2 = -9 → (ct t = 12 ∨ ct t = 13 ∨ ct t = 14)) := by
  have hkw := ct_kw hf h.1
  by_cases he : t.2.2.2.2 = -9
  · by_cases hc : ct t = 12 ∨ ct t = 13 ∨ ct t = 14
    · have hb : (kwB t 3 || kwB t 2 || kwB t 1) = true := by
        rcases hc with h9 | h9 | h9
        · rw [hkw.1.mp h9]; simp
        · rw [hkw.2.1.mp h9]; simp
        · rw [hkw.2.2.1.mp h9]; simp
      have hac : acA (ct t) z = (true, ((if kwB t 3 = true then 2 else 3, ct t, b0, pw, 0, 0), M)) := by
        rw [hz he]
        unfold acK
        rw [if_pos hc]
        by_cases h14 : ct t = 14
        · rw [if_pos h14, if_pos (hkw.2.2.1.mp h14)]
        · rw [if_neg h14, if_neg (fun h9 => h14 (hkw.2.2.1.mpr h9))]
      obtain ⟨p1, p2⟩ := h.take hl hf he (b := (kwB t 3 || kwB t 2 || kwB t 1)) (by rw [hb, hac]) (h0 he)
      rw [hac] at p1
      exact ⟨p1, fun _ => hc⟩
    · have hb : (kwB t 3 || kwB t 2 || kwB t 1) = false := by
        cases h3 : kwB t 3 with
        | true => exact absurd (Or.inr (Or.inr (hkw.2.2.1.mpr h3))) hc
        | false =>
          cases h2 : kwB t 2 with
          | true => exact absurd (Or.inr (Or.inl (hkw.2.1.mpr h2))) hc
          | false =>
            cases h1 : kwB t 1 with
            | true => exact absurd (Or.inl (hkw.1.mpr h1)) hc
            | false => rfl
      have hac : (acA (ct t) z).1 = false := by
        rw [hz he]
        unfold acK
        rw [if_neg hc]
      obtain ⟨p1, p2⟩ := h.take hl hf he (b := (kwB t 3 || kwB t 2 || kwB t 1)) (by rw [hb, hac]) (h0 he)
      have hne : (bod1 f ln t).2.2.2.2 ≠ -9 := fun h9 => by rw [p2.mp h9] at hb; cases hb
      exact ⟨p1.any hne _, fun h9 => absurd h9 hne⟩
  · have e : bod1 f ln t = t := tke_er he
    rw [e]
    exact ⟨h.any he _, fun h9 => absurd h9 he⟩
def KR (kd bd : Int32) (f : Nat → Int32) (ln : Nat) (t : PT) : Prop := (kd = 12 ∧ bodK t = 0) ∨ (kd = 13 ∧ bodK t = 1) ∨ (kd = 14 ∧ bodK t = 2 ∧ bd = bodV f ln t)
theorem bound_step {r : Int32 × CS} {t : PT} {b0 pw : Int32} {M : MT3} (hl : ln ≤ 120) (hf : ∀ k, k < ln → ¬ f k < 0) (hat : AT f ln t) (h : Sim f ln r (bod1 f ln t) ((if kwB t 3 = true then 2 else 3, ct t, b0, pw, 0, 0), M)) (hk : (bod1 f ln t).2.2.2.2 = -9 → (ct t = 12 ∨ ct t = 13 ∨ ct t = 14)) :
    ∃ bd, Sim f ln r (bod2 f ln t) ((3, ct t, bd, pw, 0, 0), M) ∧ ((bod2 f ln t).2.2.2.2 = -9 → KR (ct t) bd f ln t) := by
  have hkw := ct_kw hf hat
  cases h3 : kwB t 3 with
  | true =>
    rw [if_pos h3] at h
    have e2 : bod2 f ln t = tkeM f ln (dgB (bod1 f ln t) 0 6) (bod1 f ln t) := by unfold bod2; rw [if_pos h3]
    have eV : bodV f ln t = (bod1 f ln t).2.2.2.1 := by unfold bodV; rw [if_pos h3]
    have eK : bodK t = 2 := by unfold bodK; rw [if_pos h3]
    rw [e2]
    by_cases he : (bod1 f ln t).2.2.2.2 = -9
    · have hd := (ct_dg hf h.1).1
      by_cases hdg : dgB (bod1 f ln t) 0 6 = true
      · have hr : ¬ 6 < ct (bod1 f ln t) := fun h9 => by rw [hd.mp h9] at hdg; cases hdg
        have hac : acA (ct (bod1 f ln t)) ((2, ct t, b0, pw, 0, 0), M) = (true, ((3, ct t, ct (bod1 f ln t), pw, 0, 0), M)) := by
          rw [acA_2 rfl]
          unfold acB
          rw [if_neg hr]
        obtain ⟨p1, p2⟩ := h.take hl hf he (b := dgB (bod1 f ln t) 0 6) (by rw [hdg, hac]) (fun _ => (by decide : (2 : Int32) ≠ 0))
        rw [hac] at p1
        exact ⟨_, p1, fun _ => Or.inr (Or.inr ⟨hkw.2.2.1.mpr h3, eK, by rw [eV]; exact (dgB_vl hdg).1⟩)⟩
      · have hdg : dgB (bod1 f ln t) 0 6 = false := by simpa using hdg
        have hac : (acA (ct (bod1 f ln t)) ((2, ct t, b0, pw, 0, 0), M)).1 = false := by
          rw [acA_2 rfl]
          unfold acB
          rw [if_pos (hd.mpr hdg)]
        obtain ⟨p1, p2⟩ := h.take hl hf he (b := dgB (bod1 f ln t) 0 6) (by rw [hdg, hac]) (fun _ => (by decide : (2 : Int32) ≠ 0))
        have hne : (tkeM f ln (dgB (bod1 f ln t) 0 6) (bod1 f ln t)).2.2.2.2 ≠ -9 := fun h9 => by rw [p2.mp h9] at hdg; cases hdg
        exact ⟨0, p1.any hne _, fun h9 => absurd h9 hne⟩
    · rw [tke_er he]
      exact ⟨0, h.any he _, fun h9 => absurd h9 he⟩
  | false =>
    rw [if_neg (by rw [h3]; decide)] at h
    have e2 : bod2 f ln t = bod1 f ln t := by unfold bod2; rw [if_neg (by rw [h3]; decide)]
    rw [e2]
    refine ⟨b0, h, fun h9 => ?_⟩
    rcases hk h9 with hc | hc | hc
    · left
      refine ⟨hc, ?_⟩
      have h2 : ¬ kwB t 2 = true := fun h8 => by
        have := hkw.2.1.mpr h8
        rw [hc] at this
        exact absurd this (by decide)
      unfold bodK
      rw [if_neg (by rw [h3]; decide), if_neg h2]
    · right; left
      refine ⟨hc, ?_⟩
      unfold bodK
      rw [if_neg (by rw [h3]; decide), if_pos (hkw.2.1.mp hc)]
    · rw [hkw.2.2.1.mp hc] at h3
      cases h3
def dOk (md : Nat → Int64) (wt : Nat → Int32) (n : Nat) (sf : Nat → Int32) : Prop := ∀ i, i < n → wt i = cA sf i 5 ∧ ((cA sf i 4 = 0 ∧ ¬ wt i = 0) ∨ (cA sf i 4 = 1 ∧ wt i = 0)) ∧ (∃ w, w ≤ 9 ∧ wt i = nI w) ∧ ∀ a, a < 64 → holdC sf i a = bitL (md i) a
theorem con_pre {r : Int32 × CS} {t : PT} {d : Nat → Int32} {k0 b0 w0 p0 n0 : Int32} {md : Nat → Int64} {wt : Nat → Int32} {nn : Nat} (hl : ln ≤ 120) (hf : ∀ k, k < ln → ¬ f k < 0) (h : Sim f ln r t ((0, k0, b0, w0, p0, n0), md, wt, nn)) (he : t.2.2.2.2 = -9) (htk : ¬ t.2.2.1 = 0) (hnn : nn < 10) {pw : Int32} (hpw : pw = if kwB t 5 = true then 0 else 1) :
    ∃ bd, Sim f ln r (bod2 f ln (con1 f ln t)) ((3, ct (con1 f ln t), bd, pw, 0, 0), md, wt, nn) ∧ ((bod2 f ln (con1 f ln t)).2.2.2.2 = -9 → KR (ct (con1 f ln t)) bd f ln (con1 f ln t)) := by
  have hkw := ct_kw hf h.1
  have s1 : ∃ kd, Sim f ln r (con1 f ln t) kd ∧ (((con1 f ln t).2.2.2.2 = -9 → ∃ pl kx, acA (ct (con1 f ln t)) kd = acK (ct (con1 f ln t)) ((pl, kx, b0, pw, 0, 0), md, wt, nn)) ∧ ((con1 f ln t).2.2.2.2 = -9 → (con1 f ln t).2.2.1 = 0 → kd.1.1 ≠ 0)) := by
    cases h5 : kwB t 5 with
    | true =>
      have hct := hkw.2.2.2.2.1.mpr h5
      have hac : acA (ct t) ((0, k0, b0, w0, p0, n0), md, wt, nn) = (true, ((1, k0, b0, 0, 0, 0), md, wt, nn)) := by
        rw [acA_0 rfl]
        unfold acC
        rw [if_neg (show ¬ 10 ≤ nn by omega), if_pos hct]
      obtain ⟨p1, p2⟩ := h.take hl hf he (b := true) (by rw [hac]) (fun h9 => absurd h9 htk)
      rw [hac] at p1
      have e1 : con1 f ln t = tkeM f ln true t := by unfold con1; rw [if_pos h5]
      rw [e1]
      refine ⟨((1, k0, b0, 0, 0, 0), md, wt, nn), p1, fun _ => ⟨1, k0, ?_⟩, fun _ _ => (by decide : (1 : Int32) ≠ 0)⟩
      rw [acA_1 rfl, hpw, if_pos h5]
    | false =>
      have e1 : con1 f ln t = t := by unfold con1; rw [if_neg (by rw [h5]; decide)]
      rw [e1]
      refine ⟨_, h, fun _ => ⟨0, k0, ?_⟩, fun _ h9 => absurd h9 htk⟩
      rw [acA_0 rfl, hpw, if_neg (by rw [h5]; decide)]
      unfold acC
      rw [if_neg (show ¬ 10 ≤ nn by omega), if_neg (fun h9 => by rw [hkw.2.2.2.2.1.mp h9] at h5; cases h5)]
  obtain ⟨zk, hs1, hac1, h01⟩ := s1
  by_cases he1 : (con1 f ln t).2.2.2.2 = -9
  · obtain ⟨pl, kx, hac⟩ := hac1 he1
    obtain ⟨q1, q2⟩ := kind_step hl hf hs1 (fun _ => hac) h01
    exact bound_step hl hf hs1.1 q1 q2
  · have e1 : bod1 f ln (con1 f ln t) = con1 f ln t := tke_er he1
    have e2 : bod2 f ln (con1 f ln t) = con1 f ln t := by
      unfold bod2
      split
      · rw [e1]; exact tke_er he1
      · exact e1
    rw [e2]
    exact ⟨0, hs1.any he1 _, fun h9 => absurd h9 he1⟩
theorem con2_e {t : PT} {d : Nat → Int32} {nn : Nat} : con2 f ln nn (t, d) = litL f ln (4 + 6 * nn) (litM f ln (4 + 6 * nn) (bod2 f ln (con1 f ln t), bodD f ln (4 + 6 * nn) (con1 f ln t, d))) (ln + 1) := by
  unfold con2 bodM
  rfl
theorem bodD_2 {w : Nat} {s : RS} : bodD f ln w s (w + 2) = 0 := by
  unfold bodD
  rw [va_upN (by omega), va_upE rfl]
theorem bodD_3 {w : Nat} {s : RS} : bodD f ln w s (w + 3) = 0 := by
  unfold bodD
  rw [va_upE rfl]
theorem con_lit0 {r : Int32 × CS} {t2 : PT} {w : Nat} {s : RS} {P : Prop} {kd bd pw : Int32} {M : MT3} (hs2 : Sim f ln r t2 ((3, kd, bd, pw, 0, 0), M)) (hKR : t2.2.2.2.2 = -9 → P) : LIT f ln r w kd bd pw M P 3 t2 (bodD f ln w s) := by
  refine ⟨0, 0, hs2, fun h9 => ⟨?_, hKR h9⟩⟩
  rw [bodD_2, bodD_3]
  exact VI.zero
theorem con_lit1 {r : Int32 × CS} {t2 : PT} {w q : Nat} {D : Nat → Int32} {P : Prop} {kd bd pw : Int32} {M : MT3} (hl : ln ≤ 120) (hf : ∀ k, k < ln → ¬ f k < 0) (h : LIT f ln r w kd bd pw M P 3 t2 D) (hok : okP ln t2) (hq : ln + 1 ≤ q) : LIT f ln r w kd bd pw M P 5 (litL f ln w (litM f ln w (t2, D)) q).1 (litL f ln w (litM f ln w (t2, D)) q).2 ∧
    (¬ ((litL f ln w (litM f ln w (t2, D)) q).1.2.2.2.2 = -9 ∧ ((litL f ln w (litM f ln w (t2, D)) q).1.2.2.1 = 3 ∨ (litL f ln w (litM f ln w (t2, D)) q).1.2.2.1 = 2))) ∧ ∀ j, j ≠ w + 2 → j ≠ w + 3 → (litL f ln w (litM f ln w (t2, D)) q).2 j = D j := by
  have hL1 := lit_step hl hf h (Or.inl rfl)
  have hok2 : okP ln (litM f ln w (t2, D)).1 := okP_lit (r := (t2, D)) hok
  have hat : ∀ j, j ≠ w + 2 → j ≠ w + 3 → (litM f ln w (t2, D)).2 j = D j := fun j h2 h3 => litD_at (r := (t2, D)) h2 h3
  generalize litM f ln w (t2, D) = s9 at hL1 hok2 hat
  exact ⟨litL_sim hl hf q s9 hL1, litL_end hl q s9 hok2 (Nat.le_trans leP9_bd hq), fun j h2 h3 => (litL_at h2 h3 q s9).trans (hat j h2 h3)⟩
theorem con_lit {r : Int32 × CS} {t : PT} {d : Nat → Int32} {kd bd pw : Int32} {md : Nat → Int64} {wt : Nat → Int32} {nn : Nat} (hl : ln ≤ 120) (hf : ∀ k, k < ln → ¬ f k < 0) (hs2 : Sim f ln r (bod2 f ln (con1 f ln t)) ((3, kd, bd, pw, 0, 0), md, wt, nn)) (hKR : (bod2 f ln (con1 f ln t)).2.2.2.2 = -9 → KR kd bd f ln (con1 f ln t)) :
    LIT f ln r (4 + 6 * nn) kd bd pw (md, wt, nn) (KR kd bd f ln (con1 f ln t)) 5 (con2 f ln nn (t, d)).1 (con2 f ln nn (t, d)).2 ∧ (¬ ((con2 f ln nn (t, d)).1.2.2.2.2 = -9 ∧ ((con2 f ln nn (t, d)).1.2.2.1 = 3 ∨ (con2 f ln nn (t, d)).1.2.2.1 = 2))) ∧ ∀ j, j ≠ 4 + 6 * nn + 2 → j ≠ 4 + 6 * nn + 3 → (con2 f ln nn (t, d)).2 j = bodD f ln (4 + 6 * nn) (con1 f ln t, d) j := by
  rw [con2_e]
  exact con_lit1 hl hf (con_lit0 hs2 hKR) hs2.1.ok (Nat.le_refl _)
theorem con_dOk {t : PT} {d : Nat → Int32} {kd bd pw2 pp pn : Int32} {md : Nat → Int64} {wt : Nat → Int32} {nn : Nat} (hcell : ∀ j, j ≠ 4 + 6 * nn + 2 → j ≠ 4 + 6 * nn + 3 → (con2 f ln nn (t, d)).2 j = bodD f ln (4 + 6 * nn) (con1 f ln t, d) j) (hd : dOk md wt nn d) (hVI : VI pp pn ((con2 f ln nn (t, d)).2 (4 + 6 * nn + 2)) ((con2 f ln nn (t, d)).2 (4 + 6 * nn + 3))) (hK : KR kd bd f ln (con1 f ln t))
    (w1 : pw2 = (if kwB t 5 = true then 0 else conV f ln nn (t, d))) (w2 : kwB t 5 = true ∨ ∃ w, 1 ≤ w ∧ w ≤ 9 ∧ conV f ln nn (t, d) = nI w) : dOk (va_up md nn (modB kd bd pp pn 64)) (va_up wt nn pw2) (nn + 1) (conD f ln nn (t, d)) := by
  intro i hi
  have hD : ∀ j, j ≠ 0 → j ≠ 4 + 6 * nn + 4 → j ≠ 4 + 6 * nn + 5 → conD f ln nn (t, d) j = (con2 f ln nn (t, d)).2 j := fun j g0 g4 g5 => by unfold conD; rw [va_upN g0, va_upN g5, va_upN g4]
  by_cases e : i = nn
  · subst e
    have c0 : cA (conD f ln i (t, d)) i 0 = bodK (con1 f ln t) := by
      show conD f ln i (t, d) (4 + 6 * i + 0) = _
      rw [hD _ (by omega) (by omega) (by omega), hcell _ (by omega) (by omega)]
      unfold bodD
      rw [va_upN (by omega), va_upN (by omega), va_upN (by omega), va_upE rfl]
    have c1 : cA (conD f ln i (t, d)) i 1 = bodV f ln (con1 f ln t) := by
      show conD f ln i (t, d) (4 + 6 * i + 1) = _
      rw [hD _ (by omega) (by omega) (by omega), hcell _ (by omega) (by omega)]
      unfold bodD
      rw [va_upN (by omega), va_upN (by omega), va_upE rfl]
    have c2 : cA (conD f ln i (t, d)) i 2 = (con2 f ln i (t, d)).2 (4 + 6 * i + 2) := hD _ (by omega) (by omega) (by omega)
    have c3 : cA (conD f ln i (t, d)) i 3 = (con2 f ln i (t, d)).2 (4 + 6 * i + 3) := hD _ (by omega) (by omega) (by omega)
    have c4 : cA (conD f ln i (t, d)) i 4 = if kwB t 5 = true then 1 else 0 := by
      show conD f ln i (t, d) (4 + 6 * i + 4) = _
      unfold conD
      rw [va_upN (by omega), va_upN (by omega), va_upE rfl]
    have c5 : cA (conD f ln i (t, d)) i 5 = if kwB t 5 = true then 0 else conV f ln i (t, d) := by
      show conD f ln i (t, d) (4 + 6 * i + 5) = _
      unfold conD
      rw [va_upN (by omega), va_upE rfl]
    rw [va_upE rfl, va_upE rfl, c4, c5]
    refine ⟨w1, ?_, ?_, fun a ha => ?_⟩
    · by_cases h5 : kwB t 5 = true
      · rw [w1, if_pos h5, if_pos h5]; exact Or.inr ⟨rfl, rfl⟩
      · rw [w1, if_neg h5, if_neg h5]
        rcases w2 with w2 | ⟨w, g1, g9, ew⟩
        · exact absurd w2 h5
        · refine Or.inl ⟨rfl, fun h9 => ?_⟩
          rw [ew, ← nI_0, nI_eq (by omega) (by omega)] at h9
          omega
    · rw [w1]
      by_cases h5 : kwB t 5 = true
      · rw [if_pos h5]; exact ⟨0, by omega, rfl⟩
      · rw [if_neg h5]
        rcases w2 with w2 | ⟨w, g1, g9, ew⟩
        · exact absurd w2 h5
        · exact ⟨w, g9, ew⟩
    · unfold holdC
      rw [c0, c1, c2, c3]
      exact hold_body hVI hK ha
  · have hc : ∀ v, v < 6 → cA (conD f ln nn (t, d)) i v = cA d i v := fun v hv => by
      show conD f ln nn (t, d) (4 + 6 * i + v) = d (4 + 6 * i + v)
      rw [hD _ (by omega) (by omega) (by omega), hcell _ (by omega) (by omega)]
      unfold bodD
      rw [va_upN (by omega), va_upN (by omega), va_upN (by omega), va_upN (by omega)]
    have := hd i (by omega)
    rw [va_upN e, va_upN e, hc 4 (by omega), hc 5 (by omega)]
    unfold holdC
    rw [hc 0 (by omega), hc 1 (by omega), hc 2 (by omega), hc 3 (by omega)]
    exact this
/-- the end of a constraint -/
theorem con_fin {r : Int32 × CS} {t3 : PT} {pl kd bd pw2 pp pn : Int32} {md : Nat → Int64} {wt : Nat → Int32} {nn : Nat} {D : Nat → Int32} (hl : ln ≤ 120) (hf : ∀ k, k < ln → ¬ f k < 0) (hs4 : Sim f ln r t3 ((pl, kd, bd, pw2, pp, pn), md, wt, nn)) (hpl : pl ≠ 0)
    (hyes : t3.2.2.2.2 = -9 → (t3.2.2.1 == 4) = true → acA (ct t3) ((pl, kd, bd, pw2, pp, pn), md, wt, nn) = acE (ct t3) ((pl, kd, bd, pw2, pp, pn), md, wt, nn)) (hno : t3.2.2.2.2 = -9 → (t3.2.2.1 == 4) = false → (acA (ct t3) ((pl, kd, bd, pw2, pp, pn), md, wt, nn)).1 = false)
    (hD : t3.2.2.2.2 = -9 → dOk (va_up md nn (modB kd bd pp pn 64)) (va_up wt nn pw2) (nn + 1) D) : ∃ z, Sim f ln r (tkeM f ln (t3.2.2.1 == 4) t3) z ∧ ((tkeM f ln (t3.2.2.1 == 4) t3).2.2.2.2 = -9 → z.1.1 = 0 ∧ z.2.2.2 = nn + 1 ∧ dOk z.2.1 z.2.2.1 (nn + 1) D) := by
  have hkw3 := ct_kw hf hs4.1
  by_cases he3 : t3.2.2.2.2 = -9
  · cases hb : (t3.2.2.1 == 4) with
    | true =>
      have hct : ct t3 = 11 := hkw3.2.2.2.2.2.2.mpr (eq_of_beq hb)
      have hac : acA (ct t3) ((pl, kd, bd, pw2, pp, pn), md, wt, nn) = (true, ((0, kd, bd, pw2, pp, pn), va_up md nn (modB kd bd pp pn 64), va_up wt nn pw2, nn + 1)) := by
        rw [hyes he3 hb]
        unfold acE
        rw [if_pos hct]
      obtain ⟨p1, p2⟩ := hs4.take hl hf he3 (b := true) (by rw [hac]) (fun _ => hpl)
      rw [hac] at p1
      exact ⟨_, p1, fun _ => ⟨rfl, rfl, hD he3⟩⟩
    | false =>
      obtain ⟨p1, p2⟩ := hs4.take hl hf he3 (b := false) (hno he3 hb).symm (fun _ => hpl)
      have hne : (tkeM f ln false t3).2.2.2.2 ≠ -9 := fun h9 => by have := p2.mp h9; cases this
      exact ⟨_, p1, fun h9 => absurd h9 hne⟩
  · rw [tke_er he3]
    exact ⟨_, hs4, fun h9 => absurd h9 he3⟩
theorem con_sim {r : Int32 × CS} {t : PT} {d : Nat → Int32} {k0 b0 w0 p0 n0 : Int32} {md : Nat → Int64} {wt : Nat → Int32} {nn : Nat} (hl : ln ≤ 120) (hf : ∀ k, k < ln → ¬ f k < 0) (h : Sim f ln r t ((0, k0, b0, w0, p0, n0), md, wt, nn)) (he : t.2.2.2.2 = -9) (htk : ¬ t.2.2.1 = 0) (hnn : nn < 10) (hd : dOk md wt nn d) :
    ∃ z, Sim f ln r (con4 f ln nn (t, d)) z ∧ ((con4 f ln nn (t, d)).2.2.2.2 = -9 → z.1.1 = 0 ∧ z.2.2.2 = nn + 1 ∧ dOk z.2.1 z.2.2.1 (nn + 1) (conD f ln nn (t, d))) := by
  obtain ⟨pw, hpw⟩ : ∃ pw : Int32, pw = if kwB t 5 = true then 0 else 1 := ⟨_, rfl⟩
  obtain ⟨bd, hs2, hKR⟩ := con_pre (d := d) hl hf h he htk hnn hpw
  generalize hkd : ct (con1 f ln t) = kd at hs2 hKR
  obtain ⟨⟨pp, pn, hs3, hv3⟩, hend, hcell⟩ := con_lit (d := d) hl hf hs2 hKR
  have hkw2 := ct_kw hf hs3.1
  have e4 : con4 f ln nn (t, d) = tkeM f ln ((con3 f ln nn (t, d)).2.2.1 == 4) (con3 f ln nn (t, d)) := rfl
  by_cases hW : conW f ln nn (t, d) = true
  · have hW3 : kwB t 5 = false ∧ (con2 f ln nn (t, d)).1.2.2.2.2 = -9 ∧ kwB (con2 f ln nn (t, d)).1 4 = true := by
      unfold conW at hW
      rw [Bool.and_eq_true, Bool.and_eq_true] at hW
      exact ⟨by simpa using hW.1.1, eq_of_beq hW.1.2, hW.2⟩
    obtain ⟨h5, he2, h4⟩ := hW3
    have hpw1 : pw = 1 := by rw [hpw, if_neg (by rw [h5]; decide)]
    have hct := hkw2.2.2.2.1.mpr h4
    have hac : acA (ct (con2 f ln nn (t, d)).1) ((5, kd, bd, pw, pp, pn), md, wt, nn) = (true, ((6, kd, bd, pw, pp, pn), md, wt, nn)) := by
      rw [acA_5 rfl]
      unfold acR
      rw [if_neg (by rw [hct]; decide), if_pos ⟨hct, (by rw [hpw1]; decide : ¬ pw = 0)⟩]
    obtain ⟨p1, p2⟩ := hs3.take hl hf he2 (b := true) (by rw [hac]) (fun _ => (by decide : (5 : Int32) ≠ 0))
    rw [hac] at p1
    have he6 := p2.mpr rfl
    have eV : conV f ln nn (t, d) = (tkeM f ln true (con2 f ln nn (t, d)).1).2.2.2.1 := by unfold conV; rw [if_pos hW]
    have e3 : con3 f ln nn (t, d) = tkeM f ln (dgB (tkeM f ln true (con2 f ln nn (t, d)).1) 1 9) (tkeM f ln true (con2 f ln nn (t, d)).1) := by unfold con3; rw [if_pos hW]
    generalize tkeM f ln true (con2 f ln nn (t, d)).1 = t6 at p1 he6 e3 eV
    rw [e4, e3]
    have hd6 := (ct_dg hf p1.1).2.2
    by_cases hdg : dgB t6 1 9 = true
    · have hr : ¬ (ct t6 < 1 ∨ 9 < ct t6) := fun h9 => by rw [hd6.mp h9] at hdg; cases hdg
      obtain ⟨g1, g2, g3⟩ := dgB_vl hdg
      have hac6 : acA (ct t6) ((6, kd, bd, pw, pp, pn), md, wt, nn) = (true, ((7, kd, bd, ct t6, pp, pn), md, wt, nn)) := by
        rw [acA_6 rfl]
        unfold acW
        rw [if_neg hr]
      obtain ⟨q1, q2⟩ := p1.take hl hf he6 (b := dgB t6 1 9) (by rw [hdg, hac6]) (fun _ => (by decide : (6 : Int32) ≠ 0))
      rw [hac6] at q1
      refine con_fin hl hf q1 (by decide) (fun _ _ => acA_7 rfl) (fun h8 hb => ?_) (fun _ => con_dOk hcell hd (hv3 he2).1 (hv3 he2).2 (by rw [if_neg (by rw [h5]; decide), eV]; exact g1) (Or.inr (by rw [eV]; exact inR_19 g3)))
      rw [acA_7 rfl]
      unfold acE
      rw [if_neg (fun h9 => by rw [(ct_kw hf q1.1).2.2.2.2.2.2.mp h9] at hb; exact absurd hb (by decide))]
    · have hdg : dgB t6 1 9 = false := by simpa using hdg
      have hac6 : (acA (ct t6) ((6, kd, bd, pw, pp, pn), md, wt, nn)).1 = false := by
        rw [acA_6 rfl]
        unfold acW
        rw [if_pos (hd6.mpr hdg)]
      obtain ⟨q1, q2⟩ := p1.take hl hf he6 (b := dgB t6 1 9) (by rw [hdg, hac6]) (fun _ => (by decide : (6 : Int32) ≠ 0))
      have hne : (tkeM f ln (dgB t6 1 9) t6).2.2.2.2 ≠ -9 := fun h9 => by rw [q2.mp h9] at hdg; cases hdg
      exact con_fin (pl := 7) (kd := 0) (bd := 0) (pw2 := 0) (pp := 0) (pn := 0) (md := md) (wt := wt) hl hf (q1.any hne _) (by decide) (fun h9 => absurd h9 hne) (fun h9 => absurd h9 hne) (fun h9 => absurd h9 hne)
  · have e3 : con3 f ln nn (t, d) = (con2 f ln nn (t, d)).1 := by unfold con3; rw [if_neg hW]
    have eV : conV f ln nn (t, d) = 1 := by unfold conV; rw [if_neg hW]
    rw [e4, e3]
    refine con_fin hl hf hs3 (by decide) (fun he2 hb => ?_) (fun he2 hb => ?_) (fun he2 => con_dOk hcell hd (hv3 he2).1 (hv3 he2).2 (by rw [hpw, eV]) (Or.inr ⟨1, by omega, by omega, eV⟩))
    · have hct := hkw2.2.2.2.2.2.2.mpr (eq_of_beq hb)
      rw [acA_5 rfl]
      unfold acR
      rw [if_pos hct]
    · have h11 : ct (con2 f ln nn (t, d)).1 ≠ 11 := fun h9 => by rw [hkw2.2.2.2.2.2.2.mp h9] at hb; exact absurd hb (by decide)
      have h10 : ct (con2 f ln nn (t, d)).1 ≠ 10 := fun h9 => hend ⟨he2, Or.inl (hkw2.2.2.2.2.2.1.mp h9)⟩
      have hdg : dgB (con2 f ln nn (t, d)).1 1 6 = false := dgB_n (fun h9 => hend ⟨he2, Or.inr h9⟩) _ _
      have h16 : ¬ (ct (con2 f ln nn (t, d)).1 = 16 ∧ ¬ pw = 0) := by
        rintro ⟨g1, g2⟩
        apply hW
        unfold conW
        have h5 : kwB t 5 = false := by
          cases h5 : kwB t 5 with
          | false => rfl
          | true => exact absurd (by rw [hpw, if_pos h5]) g2
        rw [hkw2.2.2.2.1.mp g1, he2]
        show (!kwB t 5 && _ && _) = true
        rw [h5]
        rfl
      rw [acA_5 rfl]
      unfold acR
      rw [if_neg h11, if_neg h16]
      unfold acL
      rw [if_neg h10]
      unfold acV
      rw [if_pos ((ct_dg hf hs3.1).2.1.mpr hdg)]
def SS9 (f : Nat → Int32) (ln : Nat) (r : Int32 × CS) (nn : Nat) (s : RS) : Prop := ∃ z, Sim f ln r s.1 z ∧ (s.1.2.2.2.2 = -9 → z.1.1 = 0 ∧ z.2.2.2 = nn ∧ dOk z.2.1 z.2.2.1 nn s.2)
theorem sys_sim {r : Int32 × CS} (hl : ln ≤ 120) (hf : ∀ k, k < ln → ¬ f k < 0) : ∀ k nn (s : RS), nn ≤ 10 → SS9 f ln r nn s → SS9 f ln r (sysL f ln nn s k).2 (sysL f ln nn s k).1
  | 0, nn, s, _, h => h
  | k + 1, nn, s, hnn, h => by
    unfold sysL
    split
    · rename_i hc
      refine sys_sim hl hf k (conN nn) (conM f ln nn s) (conN_le hnn) ?_
      obtain ⟨⟨⟨pl, k0, b0, w0, p0, n0⟩, md, wt, m⟩, hs, hz⟩ := h
      obtain ⟨z1, z2, z3⟩ := hz hc.1
      have z1 : pl = 0 := z1
      have z2 : m = nn := z2
      subst z1 z2
      by_cases h10 : m = 10
      · unfold conM conN
        rw [if_pos h10, if_pos h10]
        have hac : acA (ct s.1) ((0, k0, b0, w0, p0, n0), md, wt, m) = (false, ((0, k0, b0, w0, p0, n0), md, wt, m)) := by
          rw [acA_0 rfl]
          unfold acC
          rw [if_pos (show 10 ≤ m by omega)]
        obtain ⟨p1, p2⟩ := hs.take hl hf hc.1 (b := false) (by rw [hac]) (fun h9 => absurd h9 hc.2)
        refine ⟨_, p1, fun h9 => ?_⟩
        have := p2.mp h9
        cases this
      · unfold conM conN
        rw [if_neg h10, if_neg h10]
        exact con_sim hl hf hs hc.1 hc.2 (by omega) z3
    · exact h
theorem sys_end (hl : ln ≤ 120) : ∀ k nn (s : RS), okP ln s.1 → leP9 ln s.1 ≤ k → ¬ ((sysL f ln nn s k).1.1.2.2.2.2 = -9 ∧ ¬ (sysL f ln nn s k).1.1.2.2.1 = 0)
  | 0, nn, s, ho, hk => by
    intro h9
    have := leP9_pos ho h9.1
    omega
  | k + 1, nn, s, ho, hk => by
    unfold sysL
    split
    · rename_i hc
      have := conM_lt (f := f) (nn := nn) hl ho hc.1 hc.2
      exact sys_end hl k _ _ (conM_ok ho) (by omega)
    · rename_i hc
      exact hc
/-- BOTH READERS: the same error, or the same system -/
theorem read_eq (hl : ln ≤ 120) (hf : ∀ k, k < ln → ¬ f k < 0) (vl : Int32) (d : Nat → Int32) (zz : Int32 × Int32 × Int32 × Int32 × Int32) (md : Nat → Int64) (wt : Nat → Int32) :
    (prsL f ln 0 0 ((0, zz), md, wt, 0) ln).1 = (sysM f ln vl d).1.1.2.2.2.2 ∧
    ((sysM f ln vl d).1.1.2.2.2.2 = -9 → (prsL f ln 0 0 ((0, zz), md, wt, 0) ln).2.2.2.2 = (sysM f ln vl d).2 ∧ cOk (prsL f ln 0 0 ((0, zz), md, wt, 0) ln).2.2.1 (prsL f ln 0 0 ((0, zz), md, wt, 0) ln).2.2.2.1 (sysM f ln vl d).2 (sysM f ln vl d).1.2) := by
  have hr : prsL f ln 0 0 ((0, zz), md, wt, 0) ln = cP f ln 0 ((0, zz), md, wt, 0) := rfl
  rw [hr]
  generalize hrr : cP f ln 0 ((0, zz), md, wt, 0) = r
  have h0 : SS9 f ln r 0 (sys0 f ln vl d) := by
    refine ⟨((0, zz), md, wt, 0), ⟨⟨0, vl, Nat.zero_le _, rfl, rfl, rfl, rfl⟩, fun h9 => absurd rfl h9, fun _ => ?_⟩, fun _ => ⟨rfl, rfl, fun i hi => by omega⟩⟩
    rw [← hrr]
    exact tok_eq hl hf vl _ ln 0 (by omega)
  have h1 : SS9 f ln r (sysM f ln vl d).2 (sysM f ln vl d).1 := sys_sim hl hf (ln + 1) 0 _ (by omega) h0
  have hok : okP ln (sys0 f ln vl d).1 := by have h9 := advM_ok (f := f) (vl := vl) (Nat.zero_le ln); exact ⟨h9.1, h9.2.2.1, h9.2.2.2⟩
  have hend : ¬ ((sysM f ln vl d).1.1.2.2.2.2 = -9 ∧ ¬ (sysM f ln vl d).1.1.2.2.1 = 0) := sys_end hl (ln + 1) 0 _ hok leP9_bd
  obtain ⟨z, hs, hz⟩ := h1
  by_cases he : (sysM f ln vl d).1.1.2.2.2.2 = -9
  · have htk : (sysM f ln vl d).1.1.2.2.1 = 0 := by
      apply Classical.byContradiction
      exact fun h9 => hend ⟨he, h9⟩
    obtain ⟨z1, z2, z3⟩ := hz he
    have hR := hs.2.2 he
    have e : r = (-9, z) := by
      rw [hR]
      unfold dT
      rw [if_pos htk, if_pos z1]
    rw [e, he]
    refine ⟨rfl, fun _ => ⟨z2, (sysM_0 (f := f) (ln := ln) (vl := vl) (d := d)).2, (sysM_0 (f := f) (ln := ln) (vl := vl) (d := d)).1, z3⟩⟩
  · exact ⟨hs.2.1 he, fun h9 => absurd h9 he⟩
end CON
