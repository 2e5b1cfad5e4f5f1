/-! BOTH READERS: constraint by constraint -/
def AT (f : Nat → Int32) (ln : Nat) (t : PT) : Prop := ∃ p vl, p ≤ ln ∧ t.1 = (advM f ln p vl).1 ∧ t.2.1 = (advM f ln p vl).2.1 ∧ t.2.2.1 = (advM f ln p vl).2.2.1 ∧ t.2.2.2.1 = (advM f ln p vl).2.2.2
def ct (t : PT) : Int32 := ctM t.2.2.1 t.2.2.2.1
section SIM
variable {f : Nat → Int32} {ln : Nat}
theorem AT.ok {t : PT} (h : AT f ln t) : okP ln t := by
  obtain ⟨p, vl, hp, e1, e2, e3, e4⟩ := h
  have := advM_ok (f := f) (vl := vl) hp
  unfold okP
  rw [e1, e2, e3]
  exact ⟨this.1, this.2.2.1, this.2.2.2⟩
theorem AT.tk {t : PT} (hf : ∀ k, k < ln → ¬ f k < 0) (h : AT f ln t) : (t.2.2.1 = 0 ∧ t.2.1 = ln) ∨ t.2.2.1 = 1 ∨ (t.2.2.1 = 2 ∧ ∃ v, v ≤ 9 ∧ t.2.2.2.1 = nI v) ∨ t.2.2.1 = 3 ∨ t.2.2.1 = 4 ∨ t.2.2.1 = 5 := by
  obtain ⟨p, vl, hp, e1, e2, e3, e4⟩ := h
  rw [e2, e3, e4]
  exact adv_tk hf hp vl
theorem AT.take {t : PT} (b : Bool) (h : AT f ln t) : AT f ln (tkeM f ln b t) := by
  have ho := h.ok.1
  obtain ⟨p, vl, hp, e1, e2, e3, e4⟩ := h
  unfold tkeM
  by_cases h1 : t.2.2.2.2 = -9
  · rw [if_pos h1]
    by_cases h2 : b = true
    · rw [if_pos h2]
      exact ⟨t.1, t.2.2.2.1, ho, rfl, rfl, rfl, rfl⟩
    · rw [if_neg h2]
      exact ⟨p, vl, hp, e1, e2, e3, e4⟩
  · rw [if_neg h1]
    exact ⟨p, vl, hp, e1, e2, e3, e4⟩
theorem acA_17 (z : CS) : (acA 17 z).1 = false := by
  have hV : ∀ ng, (acV 17 ng z).1 = false := fun ng => by unfold acV; rw [if_pos (Or.inr (by decide))]
  have hL : (acL 17 z).1 = false := by unfold acL; rw [if_neg (by decide)]; exact hV false
  have hK : ∀ w, (acK 17 w).1 = false := fun w => by unfold acK; rw [if_neg (by decide)]
  have hE : (acE 17 z).1 = false := by unfold acE; rw [if_neg (by decide)]
  unfold acA
  split
  · unfold acC
    split
    · rfl
    · rw [if_neg (by decide)]; exact hK _
  · split
    · exact hK _
    · split
      · unfold acB; rw [if_pos (by decide)]
      · split
        · exact hL
        · split
          · exact hV true
          · split
            · unfold acR
              rw [if_neg (by decide), if_neg (by rintro ⟨h9, -⟩; exact absurd h9 (by decide))]
              exact hL
            · split
              · unfold acW; rw [if_pos (Or.inr (by decide))]
              · exact hE
def Sim (f : Nat → Int32) (ln : Nat) (r : Int32 × CS) (t : PT) (z : CS) : Prop := AT f ln t ∧ (t.2.2.2.2 ≠ -9 → r.1 = t.2.2.2.2) ∧ (t.2.2.2.2 = -9 → r = dT f ln t z)
theorem Sim.any {r : Int32 × CS} {t : PT} {z : CS} (h : Sim f ln r t z) (he : t.2.2.2.2 ≠ -9) (z2 : CS) : Sim f ln r t z2 := ⟨h.1, h.2.1, fun h9 => absurd h9 he⟩
theorem tke_er {b : Bool} {t : PT} (he : t.2.2.2.2 ≠ -9) : tkeM f ln b t = t := by unfold tkeM; rw [if_neg he]
/-- a token taken by both, or refused by both -/
theorem Sim.take {r : Int32 × CS} {t : PT} {z : CS} {b : Bool} (hl : ln ≤ 120) (hf : ∀ k, k < ln → ¬ f k < 0) (h : Sim f ln r t z) (he : t.2.2.2.2 = -9) (hb : b = (acA (ct t) z).1) (h0 : t.2.2.1 = 0 → z.1.1 ≠ 0) : Sim f ln r (tkeM f ln b t) (acA (ct t) z).2 ∧ ((tkeM f ln b t).2.2.2.2 = -9 ↔ b = true) := by
  have hT := h.1.take b
  have hok := h.1.ok
  have htl : t.2.1 < 2 ^ 31 := by have := hok.1; have := hok.2.1; omega
  have hr := h.2.2 he
  cases hbb : b with
  | true =>
    rw [hbb] at hb hT
    have htk : ¬ t.2.2.1 = 0 := by
      intro h9
      have : ct t = 17 := by unfold ct ctM; rw [h9]; rfl
      rw [this, acA_17] at hb
      cases hb
    have e1 : tkeM f ln true t = adT f ln t.1 t.2.2.2.1 := by unfold tkeM adT; rw [if_pos he, if_pos rfl, he]
    refine ⟨⟨hT, fun h9 => absurd (by rw [e1]; rfl) h9, fun _ => ?_⟩, by rw [e1]; exact ⟨fun _ => rfl, fun _ => rfl⟩⟩
    rw [e1, hr]
    unfold dT tkP
    rw [if_neg htk, if_pos (show (acA (ctM t.2.2.1 t.2.2.2.1) z).1 = true from hb.symm)]
    have := hok.1
    exact tok_eq hl hf t.2.2.2.1 _ (ln - t.1) t.1 (by omega)
  | false =>
    rw [hbb] at hb hT
    have e1 : tkeM f ln false t = (t.1, t.2.1, t.2.2.1, t.2.2.2.1, nI t.2.1) := by unfold tkeM; rw [if_pos he, if_neg (by decide)]
    have hne : ¬ nI t.2.1 = -9 := nI_n9 htl
    refine ⟨⟨hT, fun _ => ?_, fun h9 => absurd (by rw [e1] at h9; exact h9) hne⟩, by rw [e1]; exact ⟨fun h9 => absurd h9 hne, fun h9 => by cases h9⟩⟩
    rw [e1, hr]
    unfold dT tkP
    by_cases htk : t.2.2.1 = 0
    · rw [if_pos htk, if_neg (h0 htk)]
    · rw [if_neg htk, if_neg (show ¬ (acA (ctM t.2.2.1 t.2.2.2.1) z).1 = true by rw [show (acA (ctM t.2.2.1 t.2.2.2.1) z).1 = false from hb.symm]; decide)]
/-- what the class's token is, by the model's -/
theorem kwB_1 {t : PT} (h : t.2.2.1 = 1) (w : Int32) : kwB t w = (t.2.2.2.1 == w) := by unfold kwB; rw [h]; rfl
theorem kwB_n {t : PT} (h : ¬ t.2.2.1 = 1) (w : Int32) : kwB t w = false := by unfold kwB; rw [beq_eq_false_iff_ne.mpr h]; rfl
theorem dgB_n {t : PT} (h : ¬ t.2.2.1 = 2) (a b : Int32) : dgB t a b = false := by unfold dgB; rw [beq_eq_false_iff_ne.mpr h]; rfl
theorem ct_w {t : PT} (h : t.2.2.1 = 1) : ct t = (if t.2.2.2.1 = 1 then 12 else if t.2.2.2.1 = 2 then 13 else if t.2.2.2.1 = 3 then 14 else if t.2.2.2.1 = 4 then 16 else if t.2.2.2.1 = 5 then 15 else 17) := by unfold ct ctM; rw [if_pos h]
theorem ct_d {t : PT} (h : t.2.2.1 = 2) : ct t = t.2.2.2.1 := by unfold ct ctM; rw [h]; rfl
theorem ct_o {t : PT} (h : t.2.2.1 = 0 ∨ t.2.2.1 = 3 ∨ t.2.2.1 = 4 ∨ t.2.2.1 = 5) : ct t = if t.2.2.1 = 3 then 10 else if t.2.2.1 = 4 then 11 else 17 := by
  unfold ct ctM
  rcases h with h | h | h | h <;> rw [h] <;> rfl
theorem dg_no : ∀ v, v ≤ 9 → ∀ c, c ≤ 7 → ¬ nI v = nI (10 + c) := by decide +kernel
/-- words: the token's number against the keyword -/
theorem ct_kw {t : PT} (hf : ∀ k, k < ln → ¬ f k < 0) (h : AT f ln t) : (ct t = 12 ↔ kwB t 1 = true) ∧ (ct t = 13 ↔ kwB t 2 = true) ∧ (ct t = 14 ↔ kwB t 3 = true) ∧ (ct t = 16 ↔ kwB t 4 = true) ∧ (ct t = 15 ↔ kwB t 5 = true) ∧ (ct t = 10 ↔ t.2.2.1 = 3) ∧ (ct t = 11 ↔ t.2.2.1 = 4) := by
  rcases h.tk hf with h0 | h1 | ⟨h2, v, hv, ev⟩ | h3
  · rw [ct_o (Or.inl h0.1), kwB_n (by rw [h0.1]; decide), kwB_n (by rw [h0.1]; decide), kwB_n (by rw [h0.1]; decide), kwB_n (by rw [h0.1]; decide), kwB_n (by rw [h0.1]; decide), h0.1]
    decide
  · rw [ct_w h1, kwB_1 h1, kwB_1 h1, kwB_1 h1, kwB_1 h1, kwB_1 h1, h1]
    generalize t.2.2.2.1 = x
    by_cases g1 : x = 1
    · subst g1; decide
    · by_cases g2 : x = 2
      · subst g2; decide
      · by_cases g3 : x = 3
        · subst g3; decide
        · by_cases g4 : x = 4
          · subst g4; decide
          · by_cases g5 : x = 5
            · subst g5; decide
            · rw [if_neg g1, if_neg g2, if_neg g3, if_neg g4, if_neg g5, beq_eq_false_iff_ne.mpr g1, beq_eq_false_iff_ne.mpr g2, beq_eq_false_iff_ne.mpr g3, beq_eq_false_iff_ne.mpr g4, beq_eq_false_iff_ne.mpr g5]
              decide
  · rw [ct_d h2, ev, kwB_n (by rw [h2]; decide), kwB_n (by rw [h2]; decide), kwB_n (by rw [h2]; decide), kwB_n (by rw [h2]; decide), kwB_n (by rw [h2]; decide), h2]
    have q := dg_no v hv
    exact ⟨⟨fun h => absurd h (q 2 (by decide)), fun h => by cases h⟩, ⟨fun h => absurd h (q 3 (by decide)), fun h => by cases h⟩, ⟨fun h => absurd h (q 4 (by decide)), fun h => by cases h⟩, ⟨fun h => absurd h (q 6 (by decide)), fun h => by cases h⟩, ⟨fun h => absurd h (q 5 (by decide)), fun h => by cases h⟩, ⟨fun h => absurd h (q 0 (by decide)), fun h => absurd h (by decide)⟩, ⟨fun h => absurd h (q 1 (by decide)), fun h => absurd h (by decide)⟩⟩
  · have hn : ¬ t.2.2.1 = 1 := by rcases h3 with h | h | h <;> rw [h] <;> decide
    rw [ct_o (Or.inr h3), kwB_n hn, kwB_n hn, kwB_n hn, kwB_n hn, kwB_n hn]
    rcases h3 with h | h | h <;> rw [h] <;> decide
/-- digits -/
theorem ct_dg {t : PT} (hf : ∀ k, k < ln → ¬ f k < 0) (h : AT f ln t) : (6 < ct t ↔ dgB t 0 6 = false) ∧ ((ct t < 1 ∨ 6 < ct t) ↔ dgB t 1 6 = false) ∧ ((ct t < 1 ∨ 9 < ct t) ↔ dgB t 1 9 = false) := by
  have key : ¬ t.2.2.1 = 2 → (∀ c, c ≤ 7 → ct t = nI (10 + c) → 6 < ct t ∧ 9 < ct t) → (∃ c, c ≤ 7 ∧ ct t = nI (10 + c)) → (6 < ct t ↔ dgB t 0 6 = false) ∧ ((ct t < 1 ∨ 6 < ct t) ↔ dgB t 1 6 = false) ∧ ((ct t < 1 ∨ 9 < ct t) ↔ dgB t 1 9 = false) := by
    rintro hn hq ⟨c, hc, e⟩
    rw [dgB_n hn, dgB_n hn, dgB_n hn]
    have := hq c hc e
    exact ⟨⟨fun _ => rfl, fun _ => this.1⟩, ⟨fun _ => rfl, fun _ => Or.inr this.1⟩, ⟨fun _ => rfl, fun _ => Or.inr this.2⟩⟩
  have hq : ∀ c, c ≤ 7 → ct t = nI (10 + c) → 6 < ct t ∧ 9 < ct t := fun c hc e => by
    rw [e]
    exact (by decide +kernel : ∀ c, c ≤ 7 → (6 : Int32) < nI (10 + c) ∧ (9 : Int32) < nI (10 + c)) c hc
  rcases h.tk hf with h0 | h1 | ⟨h2, v, hv, ev⟩ | h3
  · exact key (by rw [h0.1]; decide) hq ⟨7, by decide, by rw [ct_o (Or.inl h0.1), h0.1]; rfl⟩
  · refine key (by rw [h1]; decide) hq ?_
    rw [ct_w h1]
    generalize t.2.2.2.1 = x
    by_cases g1 : x = 1
    · exact ⟨2, by decide, by rw [if_pos g1]; rfl⟩
    · by_cases g2 : x = 2
      · exact ⟨3, by decide, by rw [if_neg g1, if_pos g2]; rfl⟩
      · by_cases g3 : x = 3
        · exact ⟨4, by decide, by rw [if_neg g1, if_neg g2, if_pos g3]; rfl⟩
        · by_cases g4 : x = 4
          · exact ⟨6, by decide, by rw [if_neg g1, if_neg g2, if_neg g3, if_pos g4]; rfl⟩
          · by_cases g5 : x = 5
            · exact ⟨5, by decide, by rw [if_neg g1, if_neg g2, if_neg g3, if_neg g4, if_pos g5]; rfl⟩
            · exact ⟨7, by decide, by rw [if_neg g1, if_neg g2, if_neg g3, if_neg g4, if_neg g5]; rfl⟩
  · rw [ct_d h2]
    unfold dgB
    rw [h2, ev]
    exact (by decide +kernel : ∀ v, v ≤ 9 → (6 < nI v ↔ ((2 : Int32) == 2 && inR (nI v) 0 6) = false) ∧ ((nI v < 1 ∨ 6 < nI v) ↔ ((2 : Int32) == 2 && inR (nI v) 1 6) = false) ∧ ((nI v < 1 ∨ 9 < nI v) ↔ ((2 : Int32) == 2 && inR (nI v) 1 9) = false)) v hv
  · have hn : ¬ t.2.2.1 = 2 := by rcases h3 with h | h | h <;> rw [h] <;> decide
    refine key hn hq ?_
    rw [ct_o (Or.inr h3)]
    rcases h3 with h | h | h <;> rw [h]
    · exact ⟨0, by decide, rfl⟩
    · exact ⟨1, by decide, rfl⟩
    · exact ⟨7, by decide, rfl⟩
theorem dgB_vl {t : PT} {a b : Int32} (h : dgB t a b = true) : ct t = t.2.2.2.1 ∧ t.2.2.1 = 2 ∧ inR t.2.2.2.1 a b = true := by
  unfold dgB at h
  rw [Bool.and_eq_true] at h
  have h2 : t.2.2.1 = 2 := eq_of_beq h.1
  exact ⟨ct_d h2, h2, h.2⟩
end SIM
