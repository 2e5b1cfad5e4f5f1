/-! THE RELATION between a state of the class and a state of the model; a step keeps it -/
def cOk (md : Nat → Int64) (wt : Nat → Int32) (n : Nat) (sf : Nat → Int32) : Prop :=
  n ≤ 10 ∧ sf 0 = nI n ∧ ∀ i, i < n → wt i = cA sf i 5 ∧ ((cA sf i 4 = 0 ∧ ¬ wt i = 0) ∨ (cA sf i 4 = 1 ∧ wt i = 0)) ∧ (∃ w, w ≤ 9 ∧ wt i = nI w) ∧ ∀ a, a < 64 → holdC sf i a = bitL (md i) a
abbrev SA (md : Nat → Int64) (wt : Nat → Int32) (n : Nat) : Nat → Bool := fun z => satB md wt n (nI z)
def mOk (Q : Nat → Prop) (f : Nat → Int32) (n : Nat) : Prop := n ≤ 252 ∧ ∃ U : Nat → Nat, (∀ i, i < n → f i = nI (U i) ∧ U i < 1024 ∧ Q (U i)) ∧ ∀ i j, i < n → j < n → i ≠ j → U i ≠ U j
def Rst (md : Nat → Int64) (wt : Nat → Int32) (n : Nat) (uf : Nat → Int32) (un : Nat) (zf : Nat → Int32) (zn : Nat) (xf : Nat → Int64) (st : Int32) (sf : Nat → Int32) : Prop :=
  cOk md wt n sf ∧ mOk (isMus (SA md wt n) (softN wt n)) uf un ∧ mOk (isMss (SA md wt n) (softN wt n)) zf zn ∧ (∀ j, j < 1024 → subB (nI j) (nI (softN wt n)) = true → exB xf j = covB uf un zf zn j) ∧
  sf 1 = st ∧ (st = 0 ∨ st = 1) ∧ sf 2 = nI un ∧ sf 3 = nI zn ∧ (∀ i, i < un → sf (64 + i) = uf i) ∧ ∀ i, i < zn → sf (316 + i) = zf i
section REL
variable {md : Nat → Int64} {wt : Nat → Int32} {n : Nat} {sf : Nat → Int32}
theorem cOk.hd (h : cOk md wt n sf) : ∀ i, i < n → (cA sf i 4 = 0 ↔ ¬ wt i = 0) := by
  intro i hi
  rcases (h.2.2 i hi).2.1 with h1 | h1
  · exact ⟨fun _ => h1.2, fun _ => h1.1⟩
  · refine ⟨fun h9 => ?_, fun h9 => absurd h1.2 h9⟩
    rw [h1.1] at h9
    exact absurd h9 (by decide)
theorem cOk.soft (h : cOk md wt n sf) : softS sf n = softM wt n := softH_eq n h.hd
theorem cOk.softI (h : cOk md wt n sf) : softS sf n = nI (softN wt n) := h.soft.trans (softM_nI wt n (by have := h.1; omega))
theorem cOk.vio (h : cOk md wt n sf) {a : Nat} (ha : a < 64) : vioM sf a n = violM md a n := vioM_eq n fun i hi => (h.2.2 i hi).2.2.2 a ha
theorem cOk.mdl (h : cOk md wt n sf) (vf : Nat → Int32) (sel : Int32) : mdlM (vlF vf (fun zz => vioM sf zz n) 64) (hardS sf n) sel = firstB (modsOf md wt sel n) 0 64 := by
  unfold mdlM
  refine mdlU_eq 64 0 fun b hb => ?_
  have hb64 : b < 64 := by omega
  show (vlF vf (fun zz => vioM sf zz n) 64 b &&& (sel ||| hardS sf n) == 0) = _
  unfold vlF hardS
  rw [if_pos hb64]
  show (vioM sf b n &&& (sel ||| _) == 0) = _
  rw [h.vio hb64, h.soft]
  exact hit_eq h.1 hb64
theorem cOk.sat (h : cOk md wt n sf) (vf : Nat → Int32) (sel : Int32) : satM (vlF vf (fun zz => vioM sf zz n) 64) (hardS sf n) sel = satB md wt n sel := by
  unfold satM
  rw [h.mdl, satB_9]
theorem cOk.satF (h : cOk md wt n sf) (vf : Nat → Int32) : satM (vlF vf (fun zz => vioM sf zz n) 64) (hardS sf n) = satB md wt n := funext fun x => h.sat vf x
theorem cOk.gM (h : cOk md wt n sf) (vf : Nat → Int32) (sel : Int32) : gM (vlF vf (fun zz => vioM sf zz n) 64) (hardS sf n) sf n sel = growF (satB md wt n) (softM wt n) sel n := by
  show growM _ _ _ _ = _
  rw [h.satF]
  exact growM_eq (by have := h.1; omega) h.hd n (Nat.le_refl n)
theorem cOk.sM (h : cOk md wt n sf) (vf : Nat → Int32) (sel : Int32) : sM (vlF vf (fun zz => vioM sf zz n) 64) (hardS sf n) n sel = shrinkF (satB md wt n) sel n := by
  show shrM _ _ _ = _
  rw [h.satF]
  exact shrM_eq n (by have := h.1; omega)
theorem cOk.mono (h : cOk md wt n sf) : ∀ a b, a &&& b = a → SA md wt n b = true → SA md wt n a = true := fun _ _ h1 h2 => sat_mono h.1 h1 h2
theorem and_lt {a b : Nat} (h : a &&& b = a) (hb : b < 1024) : a < 1024 := by
  rw [← h]
  exact Nat.lt_of_le_of_lt Nat.and_le_right hb
theorem gC_gN (hn : n ≤ 10) {x : Nat} (hs : SA md wt n x = true) (hx : x &&& softN wt n = x) : gC md wt n x = gN (SA md wt n) (softN wt n) x n := by
  have e2 := growF_gN (satB md wt n) (sm := softN wt n) (x := x) n (by omega)
  have h3 := (gN_ok (S := SA md wt n) (sm := softN wt n) (x := x) (fun _ _ h1 h2 => sat_mono hn h1 h2) hs hx n).2.2.1
  have h4 := and_lt h3 (softN_1024 wt hn)
  unfold gC
  rw [e2]
  exact nI_clamp (Nat.lt_of_lt_of_le h4 (by decide))
theorem sC_sN (hn : n ≤ 10) {x : Nat} (hs : SA md wt n x = false) (hx : x < 1024) : sC md wt n x = sN (SA md wt n) x n := by
  have e2 := shrinkF_sN (satB md wt n) (x := x) n (by omega)
  have h3 := (sN_ok (S := SA md wt n) (x := x) (fun _ _ h1 h2 => sat_mono hn h1 h2) hs n).2.1
  have h4 := and_lt h3 hx
  unfold sC
  rw [e2]
  exact nI_clamp (Nat.lt_of_lt_of_le h4 (by decide))
end REL
section REL2
variable {md : Nat → Int64} {wt : Nat → Int32} {n : Nat} {uf : Nat → Int32} {un : Nat} {zf : Nat → Int32} {zn : Nat} {xf : Nat → Int64} {st : Int32} {sf : Nat → Int32}
/-- what the seeds look at -/
theorem Rst.look (h : Rst md wt n uf un zf zn xf st sf) (eg : Nat → Bool) {j : Nat} (hj : j < 1024) : mkAll sf eg n un zn j = !(subB (nI j) (nI (softN wt n)) && !exB xf j) := by
  obtain ⟨hc, hu, hz, hx, h1, h2, h3, h4, h5, h6⟩ := h
  rw [mkAll_at hj, hc.softI]
  have e : covB (fun k => sf (64 + k)) un (fun k => sf (316 + k)) zn j = covB uf un zf zn j := by
    unfold covB
    rw [anyL_congr (q := fun k => subB (uf k) (nI j)) un (fun k hk => by show subB (sf (64 + k)) (nI j) = _; rw [h5 k hk]), anyL_congr (q := fun k => subB (nI j) (zf k)) zn (fun k hk => by show subB (nI j) (sf (316 + k)) = _; rw [h6 k hk])]
  rw [e]
  cases hs : subB (nI j) (nI (softN wt n)) with
  | false => rfl
  | true =>
    rw [hx j hj hs]
    cases covB uf un zf zn j <;> rfl
theorem Rst.seed (h : Rst md wt n uf un zf zn xf st sf) (eg : Nat → Bool) : sdM (sf 1) (mkAll sf eg n un zn) 1024 = sdC st wt n xf := by
  have hl := fun j (hj : j < 1024) => h.look eg hj
  obtain ⟨hc, hu, hz, hx, h1, -⟩ := h
  have hs := softN_1024 wt hc.1
  rw [(sdM_eq hl 1024 (Nat.le_refl _)).1, h1]
  unfold sdC
  have e : 1024 = softN wt n + 1 + (1024 - (softN wt n + 1)) := by omega
  rw [e, seedF_past st _ (1024 - (softN wt n + 1))]
  intro j h2 h3
  cases hq : subB (nI j) (nI (softN wt n)) with
  | false => rfl
  | true =>
    have := sub_le (by omega) hs hq
    omega
theorem Rst.count (h : Rst md wt n uf un zf zn xf st sf) (eg : Nat → Bool) : cntU (mkAll sf eg n un zn) 1024 = cntF (fun z => subB (nI z) (nI (softN wt n)) && !exB xf z) (softN wt n + 1) := by
  have hl := fun j (hj : j < 1024) => h.look eg hj
  obtain ⟨hc, -⟩ := h
  have hs := softN_1024 wt hc.1
  rw [cnt_eq hl 1024 (Nat.le_refl _)]
  have e : 1024 = softN wt n + 1 + (1024 - (softN wt n + 1)) := by omega
  rw [e, cntF_past _ (1024 - (softN wt n + 1))]
  intro j h2 h3
  cases hq : subB (nI j) (nI (softN wt n)) with
  | false => rfl
  | true =>
    have := sub_le (by omega) hs hq
    omega
/-- the seed: a valid selection that nothing covers -/
theorem Rst.sdd (h : Rst md wt n uf un zf zn xf st sf) (hs : sdC st wt n xf ≠ -9) : ∃ x, sdC st wt n xf = nI x ∧ (sdC st wt n xf).toNatClampNeg = x ∧ x < 1024 ∧ x &&& softN wt n = x ∧ covB uf un zf zn x = false := by
  have hn := h.1.1
  have hsn := softN_1024 wt hn
  rcases seedF_in st (fun z => subB (nI z) (nI (softN wt n)) && !exB xf z) (softN wt n + 1) with h1 | ⟨z, hz, hq, h1⟩
  · exact absurd h1 hs
  · have e : sdC st wt n xf = nI z := h1
    have hq : (subB (nI z) (nI (softN wt n)) && !exB xf z) = true := hq
    rw [Bool.and_eq_true] at hq
    refine ⟨z, e, by rw [e, nI_clamp (by omega)], by omega, (sub_iff (by omega) hsn).mp hq.1, ?_⟩
    rw [← h.2.2.2.1 z (by omega) hq.1]
    simpa using hq.2
theorem mOk.push {Q : Nat → Prop} {f : Nat → Int32} {k x : Nat} (h : mOk Q f k) (hk : k < 252) (hx : x < 1024) (hq : Q x) (hne : ∀ i, i < k → f i ≠ nI x) : mOk Q (va_up f k (nI x)) (k + 1) := by
  obtain ⟨-, U, h1, h2⟩ := h
  refine ⟨by omega, va_up U k x, fun i hi => ?_, fun i j hi hj hij => ?_⟩
  · unfold va_up
    by_cases e : i = k
    · rw [if_pos e, if_pos e]; exact ⟨rfl, hx, hq⟩
    · rw [if_neg e, if_neg e]; exact h1 i (by omega)
  · unfold va_up
    by_cases e : i = k
    · by_cases e2 : j = k
      · omega
      · rw [if_pos e, if_neg e2]
        intro h9
        exact hne j (by omega) (by rw [(h1 j (by omega)).1, h9])
    · by_cases e2 : j = k
      · rw [if_neg e, if_pos e2]
        intro h9
        exact hne i (by omega) (by rw [(h1 i (by omega)).1, h9])
      · rw [if_neg e, if_neg e2]
        exact h2 i j (by omega) (by omega) hij
/-- one more fits: Sperner -/
theorem mOk.room {Q : Nat → Prop} {f : Nat → Int32} {k x : Nat} (h : mOk Q f k) (hx : x < 1024) (hq : Q x) (hne : ∀ i, i < k → f i ≠ nI x) (hap : ∀ a b, Q a → Q b → a ≠ b → ¬ (a &&& b = a)) : k < 252 := by
  obtain ⟨hk, U, h1, h2⟩ := h
  have hU : ∀ i, i < k → U i ≠ x := fun i hi h9 => hne i hi (by rw [(h1 i hi).1, h9])
  have := sperner (f := va_up U k x) (n := k + 1) (fun i hi => by
    unfold va_up
    by_cases e : i = k
    · rw [if_pos e]; exact hx
    · rw [if_neg e]; exact (h1 i (by omega)).2.1) (fun i j hi hj hij => by
    unfold va_up
    by_cases e : i = k
    · by_cases e2 : j = k
      · omega
      · rw [if_pos e, if_neg e2]
        exact hap _ _ hq (h1 j (by omega)).2.2 (Ne.symm (hU j (by omega)))
    · by_cases e2 : j = k
      · rw [if_neg e, if_pos e2]
        exact hap _ _ (h1 i (by omega)).2.2 hq (hU i (by omega))
      · rw [if_neg e, if_neg e2]
        exact hap _ _ (h1 i (by omega)).2.2 (h1 j (by omega)).2.2 (h2 i j (by omega) (by omega) hij))
  omega
end REL2
