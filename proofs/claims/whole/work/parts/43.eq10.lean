/-! BOTH READERS: tokens -/
def ctM (kd v : Int32) : Int32 := if kd = 1 then (if v = 1 then 12 else if v = 2 then 13 else if v = 3 then 14 else if v = 4 then 16 else if v = 5 then 15 else 17) else if kd = 2 then v else if kd = 3 then 10 else if kd = 4 then 11 else 17
def cP (f : Nat → Int32) (ln p : Nat) (z : CS) : Int32 × CS := prsL f ln p p z (ln - p)
def tkP (f : Nat → Int32) (ln S E : Nat) (tk : Int32) (z : CS) : Int32 × CS := if (acA tk z).1 = true then cP f ln E (acA tk z).2 else (nI S, (acA tk z).2)
def dT (f : Nat → Int32) (ln : Nat) (t : PT) (z : CS) : Int32 × CS := if t.2.2.1 = 0 then (if z.1.1 = 0 then -9 else nI t.2.1, z) else tkP f ln t.2.1 t.1 (ctM t.2.2.1 t.2.2.2.1) z
def adT (f : Nat → Int32) (ln p : Nat) (vl : Int32) : PT := ((advM f ln p vl).1, (advM f ln p vl).2.1, (advM f ln p vl).2.2.1, (advM f ln p vl).2.2.2, -9)
theorem adT_mk (f : Nat → Int32) (ln p : Nat) (vl : Int32) {a b : Nat} {c d : Int32} (h : advM f ln p vl = (a, b, c, d)) : adT f ln p vl = (a, b, c, d, -9) := by unfold adT; rw [h]
section TOKS
variable {f : Nat → Int32} {ln : Nat}
theorem getF_out {k : Nat} (hl : ln ≤ 120) (hk : ln ≤ k) (hk2 : k < 1000) : getF f ln (nI k) = -9 := by
  unfold getF
  rw [if_neg]
  intro h
  obtain ⟨j, hj, e⟩ := inB_t (show ln < 2 ^ 31 by omega) h
  have := (nI_eq (show k < 2 ^ 31 by omega) (show j < 2 ^ 31 by omega)).mp e
  omega
theorem getF_in {k : Nat} (hl : ln ≤ 120) (hk : k < ln) : getF f ln (nI k) = f k := getF_nI hk (by omega)
theorem letB_le {k : Nat} (hl : ln ≤ 120) (hk : k < 1000) : letB (getF f ln (nI k)) = leP f ln k := by
  unfold leP chA
  rcases Nat.lt_or_ge k ln with h | h
  · rw [getF_in hl h, if_pos h]; rfl
  · rw [getF_out hl h hk, if_neg (by omega)]; rfl
theorem cP_s {p : Nat} (hp : p < ln) (z : CS) : cP f ln p z = if letB (getF f ln (nI p)) = true ∧ letB (getF f ln (nI (p + 1))) = true then prsL f ln (p + 1) p z (ln - (p + 1))
    else if getF f ln (nI p) = 32 then cP f ln (p + 1) z
    else tkP f ln p (p + 1) (tokC f ln p p) z := by
  unfold cP tkP
  rw [show ln - p = (ln - (p + 1)) + 1 by omega, prsL]
  rfl
/-- a word goes on to its end -/
theorem word_eq (hl : ln ≤ 120) (z : CS) {S : Nat} : ∀ d la, la + d = ln → la < ln → leP f ln la = true → prsL f ln la S z (ln - la) = tkP f ln S (skipW (leP f ln) la (ln - la)) (tokC f ln S (skipW (leP f ln) la (ln - la) - 1)) z
  | 0, la, hd, h1, _ => by omega
  | d + 1, la, hd, h1, h2 => by
    rw [skipW_yes h2 h1, show ln - la = (ln - (la + 1)) + 1 by omega, prsL, letB_le hl (by omega), letB_le hl (by omega)]
    cases h3 : leP f ln (la + 1) with
    | true =>
      have h4 : la + 1 < ln := chA_in (P := fun z => inR z 97 122 = true) h3 (by decide)
      rw [if_pos ⟨h2, rfl⟩]
      exact word_eq hl z d (la + 1) (by omega) h4 h3
    | false =>
      have h32 : ¬ getF f ln (nI la) = 32 := by
        intro h9
        have := letB_le (f := f) hl (show la < 1000 by omega)
        rw [h9, h2] at this
        exact absurd this (by decide)
      rw [if_neg (by simp), if_neg h32, skipW_no h3]
      rfl
theorem spl_isW (hl : ln ≤ 120) {S E : Nat} (hE : E ≤ ln) (hS : S < E) : (splB f ln S (E - 1) 0 = isW f S E 111 114 0 0) ∧ (splB f ln S (E - 1) 1 = isW f S E 120 111 114 0) ∧ (splB f ln S (E - 1) 2 = isW f S E 109 111 115 116) ∧ (splB f ln S (E - 1) 3 = isW f S E 104 97 114 100) ∧ (splB f ln S (E - 1) 4 = isW f S E 119 0 0 0) := by
  have e1 : E - 1 - S + 1 = E - S := by omega
  have w0 : wsz 114 0 0 = 2 := by decide
  have w1 : wsz 111 114 0 = 3 := by decide
  have w2 : wsz 111 115 116 = 4 := by decide
  have w3 : wsz 97 114 100 = 4 := by decide
  have w4 : wsz 0 0 0 = 1 := by decide
  unfold splB isW
  rw [e1, w0, w1, w2, w3, w4]
  refine ⟨?_, ?_, ?_, ?_, ?_⟩
  · show (decide (E - S = 2) && allU _ 0 2) = _
    by_cases h : E - S = 2
    · rw [decide_eq_true h]
      simp only [allU, getF_in hl (show S + 0 < ln by omega), getF_in hl (show S + 1 < ln by omega)]
      show (true && (if (f S == 111) = true then if (f (S + 1) == 114) = true then true else false else false)) = (true && (f S == 111) && (false || f (S + 1) == 114) && (true || _) && (true || _))
      cases (f S == 111) <;> cases (f (S + 1) == 114) <;> rfl
    · rw [decide_eq_false h]; rfl
  · show (decide (E - S = 3) && allU _ 0 3) = _
    by_cases h : E - S = 3
    · rw [decide_eq_true h]
      simp only [allU, getF_in hl (show S + 0 < ln by omega), getF_in hl (show S + 1 < ln by omega), getF_in hl (show S + 2 < ln by omega)]
      show (true && (if (f S == 120) = true then if (f (S + 1) == 111) = true then if (f (S + 2) == 114) = true then true else false else false else false)) = (true && (f S == 120) && (false || f (S + 1) == 111) && (false || f (S + 2) == 114) && (true || _))
      cases (f S == 120) <;> cases (f (S + 1) == 111) <;> cases (f (S + 2) == 114) <;> rfl
    · rw [decide_eq_false h]; rfl
  · show (decide (E - S = 4) && allU _ 0 4) = _
    by_cases h : E - S = 4
    · rw [decide_eq_true h]
      simp only [allU, getF_in hl (show S + 0 < ln by omega), getF_in hl (show S + 1 < ln by omega), getF_in hl (show S + 2 < ln by omega), getF_in hl (show S + 3 < ln by omega)]
      show (true && (if (f S == 109) = true then if (f (S + 1) == 111) = true then if (f (S + 2) == 115) = true then if (f (S + 3) == 116) = true then true else false else false else false else false)) = (true && (f S == 109) && (false || f (S + 1) == 111) && (false || f (S + 2) == 115) && (false || f (S + 3) == 116))
      cases (f S == 109) <;> cases (f (S + 1) == 111) <;> cases (f (S + 2) == 115) <;> cases (f (S + 3) == 116) <;> rfl
    · rw [decide_eq_false h]; rfl
  · show (decide (E - S = 4) && allU _ 0 4) = _
    by_cases h : E - S = 4
    · rw [decide_eq_true h]
      simp only [allU, getF_in hl (show S + 0 < ln by omega), getF_in hl (show S + 1 < ln by omega), getF_in hl (show S + 2 < ln by omega), getF_in hl (show S + 3 < ln by omega)]
      show (true && (if (f S == 104) = true then if (f (S + 1) == 97) = true then if (f (S + 2) == 114) = true then if (f (S + 3) == 100) = true then true else false else false else false else false)) = (true && (f S == 104) && (false || f (S + 1) == 97) && (false || f (S + 2) == 114) && (false || f (S + 3) == 100))
      cases (f S == 104) <;> cases (f (S + 1) == 97) <;> cases (f (S + 2) == 114) <;> cases (f (S + 3) == 100) <;> rfl
    · rw [decide_eq_false h]; rfl
  · show (decide (E - S = 1) && allU _ 0 1) = _
    by_cases h : E - S = 1
    · rw [decide_eq_true h]
      simp only [allU, getF_in hl (show S + 0 < ln by omega)]
      show (true && (if (f S == 119) = true then true else false)) = (true && (f S == 119) && (true || _) && (true || _) && (true || _))
      cases (f S == 119) <;> rfl
    · rw [decide_eq_false h]; rfl
theorem wrd_eq (hl : ln ≤ 120) {S E : Nat} (hE : E ≤ ln) (hS : S < E) : wrdC f ln S (E - 1) = ctM 1 (kwM f S E) := by
  obtain ⟨h0, h1, h2, h3, h4⟩ := spl_isW (f := f) hl hE hS
  unfold wrdC kwM
  rw [h0, h1, h2, h3, h4]
  have hx : isW f S E 104 97 114 100 = true → isW f S E 119 0 0 0 = false := by
    intro h
    have w3 : wsz 97 114 100 = 4 := by decide
    have w4 : wsz 0 0 0 = 1 := by decide
    unfold isW at h ⊢
    rw [w3] at h
    rw [w4]
    have : E - S = 4 := by
      simp only [Bool.and_eq_true, decide_eq_true_eq] at h
      exact h.1.1.1.1
    rw [this]
    rfl
  cases isW f S E 111 114 0 0 with
  | true => rfl
  | false =>
    cases isW f S E 120 111 114 0 with
    | true => rfl
    | false =>
      cases isW f S E 109 111 115 116 with
      | true => rfl
      | false =>
        cases hh : isW f S E 104 97 114 100 with
        | true => rw [hx hh]; rfl
        | false => cases isW f S E 119 0 0 0 <;> rfl
/-- the class from a place on, by the model's next token -/
theorem tok_eq (hl : ln ≤ 120) (hf : ∀ k, k < ln → ¬ f k < 0) (vl : Int32) (z : CS) : ∀ d p, p + d = ln → cP f ln p z = dT f ln (adT f ln p vl) z
  | 0, p, hp => by
    have hp : p = ln := by omega
    subst hp
    have e : advM f p p vl = (p, p, 0, vl) := advM_end rfl (by unfold chA; rw [if_neg (by omega)]; decide) (by unfold chA; rw [if_neg (by omega)]; decide)
    rw [adT_mk f p p vl e]
    unfold cP dT
    rw [Nat.sub_self]
    rfl
  | d + 1, p, hp => by
    have hpl : p < ln := by omega
    have hg : getF f ln (nI p) = chA f ln p := by rw [getF_in hl hpl]; unfold chA; rw [if_pos hpl]
    have hch : chA f ln p = f p := by unfold chA; rw [if_pos hpl]
    have hc0 : ¬ chA f ln p < 0 := by rw [hch]; exact hf p hpl
    rw [cP_s hpl, hg]
    by_cases hs : chA f ln p = 32
    · have ih := tok_eq hl hf vl z d (p + 1) (by omega)
      rw [if_neg (by rw [hs]; rintro ⟨h9, -⟩; exact absurd h9 (by decide)), if_pos hs, ih]
      have e : advM f ln p vl = advM f ln (p + 1) vl := by
        unfold advM
        rw [skipW_yes (q := spP f ln) (show spP f ln p = true by unfold spP; rw [hs]; rfl) hpl]
      unfold adT
      rw [e]
    · cases hlt : inR (chA f ln p) 97 122 with
      | true =>
        have hlp : leP f ln p = true := hlt
        have hw := word_eq hl z (S := p) (d + 1) p hp hpl hlp
        have hge := skipW_ge (leP f ln) (ln - (p + 1)) (p + 1)
        have hle := skipW_le (leP f ln) (ln - (p + 1)) (p + 1)
        have e1 : skipW (leP f ln) p (ln - p) = skipW (leP f ln) (p + 1) (ln - (p + 1)) := skipW_yes hlp hpl
        have hE : skipW (leP f ln) p (ln - p) ≤ ln := by omega
        have hS : p < skipW (leP f ln) p (ln - p) := by omega
        have e2 : advM f ln p vl = (skipW (leP f ln) p (ln - p), p, 1, kwM f p (skipW (leP f ln) p (ln - p))) := by
          have h0 : spP f ln p = false := by unfold spP; simpa using hs
          unfold advM
          rw [skipW_no h0, if_neg hc0, if_pos hlt]
        have e3 : tokC f ln p (skipW (leP f ln) p (ln - p) - 1) = ctM 1 (kwM f p (skipW (leP f ln) p (ln - p))) := by
          unfold tokC
          rw [letB_le hl (by omega), if_pos hlp]
          exact wrd_eq hl hE hS
        have e4 : cP f ln p z = prsL f ln p p z (ln - p) := rfl
        rw [← hg, ← cP_s hpl, e4, hw, adT_mk f ln p vl e2, e3]
        unfold dT
        exact (if_neg (by decide : ¬ (1 : Int32) = 0)).symm
      | false =>
        have e2 := advM_oth (f := f) (ln := ln) (nx := p) (vl := vl) rfl hs hc0 hlt
        have hlb : letB (chA f ln p) = false := hlt
        rw [if_neg (by rw [hlb]; rintro ⟨h9, -⟩; cases h9), if_neg hs, adT_mk f ln p vl e2]
        have e3 : tokC f ln p p = ctM (tkM (chA f ln p)) (chA f ln p - 48) := by
          unfold tokC tkM
          rw [hg, hlb, if_neg (by decide)]
          cases hd : inR (chA f ln p) 48 57 with
          | true =>
            have h9 : ¬ chA f ln p < 48 ∧ ¬ 57 < chA f ln p := by
              unfold inR at hd
              simpa using hd
            rw [if_pos h9]
            rfl
          | false =>
            have h9 : ¬ (¬ chA f ln p < 48 ∧ ¬ 57 < chA f ln p) := by
              intro h8
              unfold inR at hd
              rw [decide_eq_false h8.1, decide_eq_false h8.2] at hd
              cases hd
            rw [if_neg h9]
            by_cases h45 : chA f ln p = 45
            · rw [if_pos h45, if_pos h45]; rfl
            · rw [if_neg h45, if_neg h45]
              by_cases h59 : chA f ln p = 59
              · rw [if_pos h59, if_pos h59]; rfl
              · rw [if_neg h59, if_neg h59]; rfl
        rw [e3]
        unfold dT
        have h0 : ¬ tkM (chA f ln p) = 0 := by
          unfold tkM
          split
          · decide
          · split
            · decide
            · split <;> decide
        rw [if_neg h0]
/-- what a token looks like -/
theorem adv_tk (hf : ∀ k, k < ln → ¬ f k < 0) {p : Nat} (hp : p ≤ ln) (vl : Int32) : ((advM f ln p vl).2.2.1 = 0 ∧ (advM f ln p vl).2.1 = ln) ∨ (advM f ln p vl).2.2.1 = 1 ∨ ((advM f ln p vl).2.2.1 = 2 ∧ ∃ v, v ≤ 9 ∧ (advM f ln p vl).2.2.2 = nI v) ∨ (advM f ln p vl).2.2.1 = 3 ∨ (advM f ln p vl).2.2.1 = 4 ∨ (advM f ln p vl).2.2.1 = 5 := by
  have h1 := skipW_ge (spP f ln) (ln - p) p
  have h2 := skipW_le (spP f ln) (ln - p) p
  unfold advM
  generalize skipW (spP f ln) p (ln - p) = S at h1 h2
  by_cases hc : chA f ln S < 0
  · rw [if_pos hc]
    refine Or.inl ⟨rfl, ?_⟩
    show S = ln
    rcases Nat.lt_or_ge S ln with h | h
    · unfold chA at hc
      rw [if_pos h] at hc
      exact absurd hc (hf S h)
    · omega
  · rw [if_neg hc]
    cases hlt : inR (chA f ln S) 97 122 with
    | true => rw [if_pos rfl]; exact Or.inr (Or.inl rfl)
    | false =>
      rw [if_neg (by decide)]
      show (tkM (chA f ln S) = 0 ∧ _) ∨ tkM (chA f ln S) = 1 ∨ (tkM (chA f ln S) = 2 ∧ ∃ v, v ≤ 9 ∧ chA f ln S - 48 = nI v) ∨ _
      unfold tkM
      cases hd : inR (chA f ln S) 48 57 with
      | true =>
        refine Or.inr (Or.inr (Or.inl ⟨rfl, ?_⟩))
        have h9 : ¬ chA f ln S < 48 ∧ ¬ 57 < chA f ln S := by
          unfold inR at hd
          simpa using hd
        obtain ⟨c, hcc, e⟩ := nI_of hc
        rw [e] at h9 ⊢
        have g1 : ¬ c < 48 := fun h => h9.1 ((nI_ltI (b := 48) hcc (by decide)).mpr h)
        have g2 : ¬ 57 < c := fun h => h9.2 ((nI_ltI (a := 57) (by decide) hcc).mpr h)
        exact ⟨c - 48, by omega, nI_subW (a := c) (b := 48) (by omega)⟩
      | false =>
        refine Or.inr (Or.inr (Or.inr ?_))
        rw [if_neg (by decide)]
        by_cases h45 : chA f ln S = 45
        · rw [if_pos h45]; exact Or.inl rfl
        · rw [if_neg h45]
          by_cases h59 : chA f ln S = 59
          · rw [if_pos h59]; exact Or.inr (Or.inl rfl)
          · rw [if_neg h59]; exact Or.inr (Or.inr rfl)
end TOKS
