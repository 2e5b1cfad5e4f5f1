/-! BOTH READERS: what a body's bits are -/
theorem modB_bit {kd bd pp pn : Int32} {a : Nat} (ha : a < 64) : ∀ k, k ≤ 64 → bitL (modB kd bd pp pn k) a = (decide (a < k) && bodH kd bd (bcI (nI a &&& pp) + bcI (notI (nI a) &&& pn)))
  | 0, _ => by
    rw [decide_eq_false (by omega)]
    exact bitL_0all.mp rfl a ha
  | k + 1, hk => by
    have ih := modB_bit (kd := kd) (bd := bd) (pp := pp) (pn := pn) ha k (by omega)
    unfold modB
    split
    · rename_i h
      rw [or_one ha (by omega), ih]
      by_cases e : a = k
      · subst e
        rw [h, decide_eq_true (show a < a + 1 by omega)]
        simp
      · have : decide (a < k + 1) = decide (a < k) := by apply decide_eq_decide.mpr; omega
        rw [this, decide_eq_false e, Bool.or_false]
    · rename_i h
      rw [ih]
      by_cases e : a = k
      · subst e
        have h : bodH kd bd (bcI (nI a &&& pp) + bcI (notI (nI a) &&& pn)) = false := by simpa using h
        rw [h]
        simp
      · have : decide (a < k + 1) = decide (a < k) := by apply decide_eq_decide.mpr; omega
        rw [this]
/-- which variables stand in a body: the class's two masks, the model's two -/
def VI (pp pn vs ng : Int32) : Prop := ∃ P N : Nat, pp = nI P ∧ pn = nI N ∧ P < 64 ∧ N < 64 ∧ P &&& N = 0 ∧ ∀ v, v < 6 → hasB vs (v + 1) = (P ||| N).testBit v ∧ hasB ng (v + 1) = N.testBit v
theorem VI.zero : VI 0 0 0 0 := ⟨0, 0, rfl, rfl, by decide, by decide, rfl, by decide +kernel⟩
theorem bc6 : ∀ x, x < 64 → bcI (nI x) = nI (cntB x 6) ∧ cntB x 6 ≤ 6 := by decide +kernel
theorem par12 : ∀ c, c ≤ 12 → (nI c &&& 1 == 1) = (nI c - nI c / 2 * 2 == 1) := by decide +kernel
theorem dm_bit (x k : Nat) : x / 2 ^ k % 2 = if x.testBit k = true then 1 else 0 := by
  rw [Nat.testBit_eq_decide_div_mod_eq]
  generalize x / 2 ^ k = M
  by_cases h : M % 2 = 1
  · simp [h]
  · simp [h]; omega
theorem VI.count {pp pn vs ng : Int32} (h : VI pp pn vs ng) {a : Nat} (ha : a < 64) : ∃ c, c ≤ 12 ∧ bcI (nI a &&& pp) + bcI (notI (nI a) &&& pn) = nI c ∧ cntM vs ng a 6 = nI c := by
  obtain ⟨P, N, rfl, rfl, hP, hN, hd, hv⟩ := h
  have e1 : nI a &&& nI P = nI (a &&& P) := nx_and a P
  have e2 : notI (nI a) &&& nI N = nI (anN N a) := by rw [and_comm32, notI_nI]
  have l1 : a &&& P < 64 := Nat.lt_of_le_of_lt Nat.and_le_right hP
  have l2 : anN N a < 64 := Nat.lt_of_le_of_lt (anN_le _ _) hN
  obtain ⟨b1, c1⟩ := bc6 _ l1
  obtain ⟨b2, c2⟩ := bc6 _ l2
  refine ⟨cntB (a &&& P) 6 + cntB (anN N a) 6, by omega, by rw [e1, e2, b1, b2, nI_plus], ?_⟩
  have key : ∀ k, k ≤ 6 → cntM vs ng a k = nI (cntB (a &&& P) k + cntB (anN N a) k) := by
    intro k
    induction k with
    | zero => intro _; rfl
    | succ k ih =>
      intro hk
      obtain ⟨q1, q2⟩ := hv k (by omega)
      have h3 : (P &&& N).testBit k = false := by rw [hd]; exact Nat.zero_testBit k
      rw [Nat.testBit_and] at h3
      unfold cntM cntB
      rw [ih (by omega), hasI_nI, hasI_nI, hasI_nI, q1, q2, hasB_nI (by omega), dm_bit, dm_bit, Nat.testBit_and, anN_bit, Nat.testBit_or, Int32.add_zero]
      cases hp : P.testBit k <;> cases hn : N.testBit k <;> cases hk2 : a.testBit k <;> simp_all
      all_goals first
        | rfl
        | (show nI _ + nI 1 = _; rw [nI_plus]; congr 1 <;> omega)
  exact key 6 (Nat.le_refl _)
theorem hold_body {pp pn vs ng kd bd bdM : Int32} (h : VI pp pn vs ng) {kM : Int32} (hk : (kd = 12 ∧ kM = 0) ∨ (kd = 13 ∧ kM = 1) ∨ (kd = 14 ∧ kM = 2 ∧ bd = bdM)) {a : Nat} (ha : a < 64) : holdM kM bdM vs ng a = bitL (modB kd bd pp pn 64) a := by
  rw [modB_bit ha 64 (Nat.le_refl _), decide_eq_true ha, Bool.true_and]
  obtain ⟨c, hc, e1, e2⟩ := h.count ha
  rw [e1]
  unfold holdM bodH
  rw [e2]
  rcases hk with ⟨rfl, rfl⟩ | ⟨rfl, rfl⟩ | ⟨rfl, rfl, rfl⟩
  · rw [if_pos rfl, if_pos rfl]
  · rw [if_neg (by decide), if_pos rfl, if_neg (by decide), if_pos rfl]
    exact (par12 c hc).symm
  · rw [if_neg (by decide), if_neg (by decide), if_neg (by decide), if_neg (by decide)]
/-- one more variable -/
theorem vbI_nI : ∀ v, 1 ≤ v → v ≤ 6 → vbI (nI v) = nI (2 ^ (v - 1)) := by
  have : ∀ v, v ≤ 6 → 1 ≤ v → vbI (nI v) = nI (2 ^ (v - 1)) := by decide +kernel
  exact fun v h1 h2 => this v h2 h1
theorem pw6 : ∀ v, v < 6 → 2 ^ v < 64 := by decide
theorem VI.free {pp pn vs ng : Int32} (h : VI pp pn vs ng) {v : Nat} (h1 : 1 ≤ v) (h2 : v ≤ 6) : ((pp ||| pn) &&& vbI (nI v) = 0) ↔ hasI vs (nI v) = false := by
  obtain ⟨P, N, rfl, rfl, hP, hN, hd, hv⟩ := h
  have q := (hv (v - 1) (by omega)).1
  rw [show v - 1 + 1 = v by omega] at q
  have hlt : (P ||| N) &&& 2 ^ (v - 1) < 64 := Nat.lt_of_le_of_lt Nat.and_le_right (pw6 _ (by omega))
  rw [vbI_nI v h1 h2, nx_or, nx_and, hasI_nI, q, ← nI_0, nI_eq (by omega) (by omega)]
  constructor
  · intro h
    have := congrArg (fun x => x.testBit (v - 1)) h
    simpa [Nat.testBit_and, pow_bit] using this
  · intro h
    apply Nat.eq_of_testBit_eq
    intro i
    rw [Nat.testBit_and, pow_bit, Nat.zero_testBit]
    by_cases e : v - 1 = i
    · subst e; rw [h]; rfl
    · simp [e]
theorem hasB_or {x : Int32} {k v : Nat} (hk : k < 32) (hv : v < 32) : hasB (x ||| 1 <<< (nI v &&& 31)) k = (hasB x k || decide (k = v)) := by
  rw [hasB_bt _ hk, hasB_bt _ hk, b_or]
  show (bt x k || bt (bitI v) k) = _
  rw [bt_bit hv hk]
theorem VI.pos {pp pn vs ng : Int32} (h : VI pp pn vs ng) {v : Nat} (h1 : 1 ≤ v) (h2 : v ≤ 6) (hf : hasI vs (nI v) = false) : VI (pp ||| vbI (nI v)) pn (vs ||| 1 <<< (nI v &&& 31)) (ng ||| 0) := by
  obtain ⟨P, N, rfl, rfl, hP, hN, hd, hv⟩ := h
  have q := (hv (v - 1) (by omega)).1
  rw [show v - 1 + 1 = v by omega, ← hasI_nI, hf, Nat.testBit_or] at q
  have q1 : P.testBit (v - 1) = false := by revert q; cases P.testBit (v - 1) <;> simp
  have q2 : N.testBit (v - 1) = false := by revert q; cases N.testBit (v - 1) <;> simp
  refine ⟨P ||| 2 ^ (v - 1), N, by rw [vbI_nI v h1 h2, nx_or], rfl, Nat.or_lt_two_pow (n := 6) hP (pw6 _ (by omega)), hN, ?_, fun k hk => ?_⟩
  · apply Nat.eq_of_testBit_eq
    intro i
    have h3 : (P &&& N).testBit i = false := by rw [hd]; exact Nat.zero_testBit i
    rw [Nat.testBit_and] at h3
    rw [Nat.testBit_and, Nat.testBit_or, pow_bit, Nat.zero_testBit]
    by_cases e : v - 1 = i
    · subst e; rw [q2]; simp
    · simp [e]; revert h3; cases P.testBit i <;> simp
  · obtain ⟨g1, g2⟩ := hv k hk
    rw [or0, hasB_or (by omega) (by omega), g1, g2, Nat.testBit_or, Nat.testBit_or, Nat.testBit_or, pow_bit]
    refine ⟨?_, rfl⟩
    have : decide (k + 1 = v) = decide (v - 1 = k) := by apply decide_eq_decide.mpr; omega
    rw [this]
    cases P.testBit k <;> cases N.testBit k <;> cases decide (v - 1 = k) <;> rfl
theorem VI.neg {pp pn vs ng : Int32} (h : VI pp pn vs ng) {v : Nat} (h1 : 1 ≤ v) (h2 : v ≤ 6) (hf : hasI vs (nI v) = false) : VI pp (pn ||| vbI (nI v)) (vs ||| 1 <<< (nI v &&& 31)) (ng ||| 1 <<< (nI v &&& 31)) := by
  obtain ⟨P, N, rfl, rfl, hP, hN, hd, hv⟩ := h
  have q := (hv (v - 1) (by omega)).1
  rw [show v - 1 + 1 = v by omega, ← hasI_nI, hf, Nat.testBit_or] at q
  have q1 : P.testBit (v - 1) = false := by revert q; cases P.testBit (v - 1) <;> simp
  refine ⟨P, N ||| 2 ^ (v - 1), rfl, by rw [vbI_nI v h1 h2, nx_or], hP, Nat.or_lt_two_pow (n := 6) hN (pw6 _ (by omega)), ?_, fun k hk => ?_⟩
  · apply Nat.eq_of_testBit_eq
    intro i
    have h3 : (P &&& N).testBit i = false := by rw [hd]; exact Nat.zero_testBit i
    rw [Nat.testBit_and] at h3
    rw [Nat.testBit_and, Nat.testBit_or, pow_bit, Nat.zero_testBit]
    by_cases e : v - 1 = i
    · subst e; rw [q1]; simp
    · simp [e]; revert h3; cases P.testBit i <;> simp
  · obtain ⟨g1, g2⟩ := hv k hk
    have : decide (k + 1 = v) = decide (v - 1 = k) := by apply decide_eq_decide.mpr; omega
    rw [hasB_or (by omega) (by omega), hasB_or (by omega) (by omega), g1, g2, Nat.testBit_or, Nat.testBit_or, Nat.testBit_or, pow_bit, this]
    refine ⟨?_, rfl⟩
    cases P.testBit k <;> cases N.testBit k <;> cases decide (v - 1 = k) <;> rfl
