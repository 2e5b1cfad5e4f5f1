/-! BOTH SIDES, ONE VALUE: sizes, seeds, counts, hitting sets, blame -/
theorem bc_eq : ∀ j, j < 1024 → bcI (nI j) = bcM (nI j) 10 := by decide +kernel
theorem bc_sm : ∀ j, j < 1024 → bcM (nI j) 10 = nI (bcM (nI j) 10).toNatClampNeg ∧ (bcM (nI j) 10).toNatClampNeg ≤ 10 := by decide +kernel
theorem neg_sm : ∀ a, a ≤ 10 → ∀ b, b ≤ 10 → (-(nI a) < -(nI b) ↔ nI b < nI a) := by decide +kernel
theorem bc_neg {i j : Nat} (hi : i < 1024) (hj : j < 1024) : (-(bcM (nI i) 10) < -(bcM (nI j) 10)) ↔ bcM (nI j) 10 < bcM (nI i) 10 := by
  obtain ⟨e1, h1⟩ := bc_sm i hi
  obtain ⟨e2, h2⟩ := bc_sm j hj
  rw [e1, e2]
  exact neg_sm _ h1 _ h2
/-- a submask is no greater -/
theorem subB_nI {a b : Nat} (ha : a < 1024) (hb : b < 1024) : subB (nI a) (nI b) = true ↔ anN a b = 0 := by
  unfold subB
  rw [notI_nI]
  have h1 : anN a b < 1024 := Nat.lt_of_le_of_lt (anN_le a b) ha
  constructor
  · intro h
    have h2 : nI (anN a b) = nI 0 := eq_of_beq h
    exact (nI_eq (by omega) (by omega)).mp h2
  · intro h
    rw [h]
    rfl
theorem anN_0 {a b : Nat} : anN a b = 0 ↔ a &&& b = a := by
  unfold anN
  constructor
  · intro h
    apply Nat.eq_of_testBit_eq
    intro i
    have h1 := congrArg (fun x => x.testBit i) h
    simp only [Nat.testBit_xor, Nat.testBit_and, Nat.zero_testBit] at h1
    rw [Nat.testBit_and]
    revert h1
    cases a.testBit i <;> cases b.testBit i <;> simp
  · intro h
    rw [h, Nat.xor_self]
theorem sub_iff {a b : Nat} (ha : a < 1024) (hb : b < 1024) : subB (nI a) (nI b) = true ↔ a &&& b = a := (subB_nI ha hb).trans anN_0
theorem sub_le {a b : Nat} (ha : a < 1024) (hb : b < 1024) (h : subB (nI a) (nI b) = true) : a ≤ b := by
  have h1 := (sub_iff ha hb).mp h
  rw [← h1]
  exact Nat.and_le_right
/-- seeds -/
theorem seedF_past (st : Int32) (q : Nat → Bool) {k : Nat} : ∀ d, (∀ j, k ≤ j → j < k + d → q j = false) → seedF st q (k + d) = seedF st q k
  | 0, _ => rfl
  | d + 1, h => by
    have ih := seedF_past st q d (fun j h1 h2 => h j h1 (by omega))
    show seedF st q (k + d + 1) = _
    rw [seedF, if_neg (by rw [h (k + d) (by omega) (by omega)]; decide), ih]
theorem sdM_eq {st : Int32} {q eg : Nat → Bool} (h : ∀ j, j < 1024 → eg j = !(q j)) : ∀ j, j ≤ 1024 → sdM st eg j = (seedF st q j).1 ∧ ((seedF st q j).1 = -9 ∨ ∃ z, z < 1024 ∧ (seedF st q j).1 = nI z ∧ (seedF st q j).2 = bcM (nI z) 10)
  | 0, _ => ⟨rfl, Or.inl rfl⟩
  | j + 1, hj => by
    obtain ⟨ih, ih2⟩ := sdM_eq h j (by omega)
    cases hq : q j with
    | false =>
      have he : eg j = true := by rw [h j (by omega), hq]; rfl
      rw [seedF, if_neg (by rw [hq]; decide), sdM, if_pos he]
      exact ⟨ih, ih2⟩
    | true =>
      have he : ¬ eg j = true := by rw [h j (by omega), hq]; decide
      rw [seedF, if_pos hq, sdM, if_neg he, ih, bc_eq j (by omega)]
      rcases ih2 with h9 | ⟨z, hz, e1, e2⟩
      · rw [if_pos (Or.inl h9), if_pos (Or.inl h9)]
        exact ⟨rfl, Or.inr ⟨j, by omega, rfl, rfl⟩⟩
      · have hn : ¬ (seedF st q j).1 = -9 := by rw [e1]; exact nI_n9 (by omega)
        have hc : ((seedF st q j).1 = -9 ∨ (if (seedF st q j).1 = -9 then -9 else szM st (seedF st q j).1) < szM st (nI j)) ↔ ((seedF st q j).1 = -9 ∨ (if st = 0 then (seedF st q j).2 < bcM (nI j) 10 else bcM (nI j) 10 < (seedF st q j).2)) := by
          rw [if_neg hn, e1, e2]
          unfold szM
          by_cases hs : st = 0
          · rw [if_pos hs, if_pos hs, if_pos hs]
          · rw [if_neg hs, if_neg hs, if_neg hs, bc_neg hz (by omega)]
        by_cases hcc : (seedF st q j).1 = -9 ∨ (if st = 0 then (seedF st q j).2 < bcM (nI j) 10 else bcM (nI j) 10 < (seedF st q j).2)
        · rw [if_pos (hc.mpr hcc), if_pos hcc]
          exact ⟨rfl, Or.inr ⟨j, by omega, rfl, rfl⟩⟩
        · rw [if_neg (fun h9 => hcc (hc.mp h9)), if_neg hcc]
          exact ⟨rfl, Or.inr ⟨z, hz, e1, e2⟩⟩
theorem cnt_eq {q eg : Nat → Bool} (h : ∀ j, j < 1024 → eg j = !(q j)) : ∀ j, j ≤ 1024 → cntU eg j = cntF q j
  | 0, _ => rfl
  | j + 1, hj => by
    have ih := cnt_eq h j (by omega)
    unfold cntU cntF
    rw [h j (by omega), ih]
    cases q j <;> simp
theorem cntF_past (q : Nat → Bool) {k : Nat} : ∀ d, (∀ j, k ≤ j → j < k + d → q j = false) → cntF q (k + d) = cntF q k
  | 0, _ => rfl
  | d + 1, h => by
    have ih := cntF_past q d (fun j h1 h2 => h j h1 (by omega))
    show cntF q (k + d + 1) = _
    rw [cntF, if_neg (by rw [h (k + d) (by omega) (by omega)]; decide), ih]
/-- what the lists cover -/
def anyL (p : Nat → Bool) : Nat → Bool
  | 0 => false
  | k + 1 => anyL p k || p k
def covB (uf : Nat → Int32) (un : Nat) (zf : Nat → Int32) (zn j : Nat) : Bool := anyL (fun k => subB (uf k) (nI j)) un || anyL (fun k => subB (nI j) (zf k)) zn
theorem anyL_congr {p q : Nat → Bool} : ∀ n, (∀ k, k < n → p k = q k) → anyL p n = anyL q n
  | 0, _ => rfl
  | n + 1, h => by unfold anyL; rw [anyL_congr n (fun k hk => h k (by omega)), h n (by omega)]
theorem anyL_t {p : Nat → Bool} : ∀ n, anyL p n = true ↔ ∃ k, k < n ∧ p k = true
  | 0 => by constructor; intro h; cases h; rintro ⟨k, hk, _⟩; omega
  | n + 1 => by
    unfold anyL
    rw [Bool.or_eq_true, anyL_t n]
    constructor
    · rintro (⟨k, hk, h⟩ | h)
      · exact ⟨k, by omega, h⟩
      · exact ⟨n, by omega, h⟩
    · rintro ⟨k, hk, h⟩
      rcases Nat.lt_or_ge k n with h1 | h1
      · exact Or.inl ⟨k, h1, h⟩
      · exact Or.inr (by rw [show n = k by omega]; exact h)
theorem mAll_at {ps : Nat → Nat → Bool} {g : Nat → Bool} {z : Nat} (hz : z < 1024) : ∀ n, mAll ps g n z = (g z || anyL (fun k => ps k z) n)
  | 0 => by simp [mAll, anyL]
  | n + 1 => by
    unfold mAll anyL
    show mkB (ps n) (mAll ps g n) 1024 z = _
    unfold mkB
    rw [if_pos hz, mAll_at hz n, Bool.or_assoc]
theorem mkAll_at {sf : Nat → Int32} {eg : Nat → Bool} {n un zn z : Nat} (hz : z < 1024) : mkAll sf eg n un zn z = (!(subB (nI z) (softS sf n)) || covB (fun k => sf (64 + k)) un (fun k => sf (316 + k)) zn z) := by
  unfold mkAll
  rw [mAll_at hz, mAll_at hz]
  unfold covB iniB supP subP
  rw [if_pos hz, Bool.or_assoc]
/-- marks -/
theorem or_one {x : Int64} {a b : Nat} (ha : a < 64) (hb : b < 64) : bitL (x ||| 1 <<< ((nI b : Int32).toInt64 &&& 63)) a = (bitL x a || decide (a = b)) := by
  have h1 : ∀ b, b < 64 → ∀ a, a < 64 → bitL (1 <<< ((nI b : Int32).toInt64 &&& 63)) a = decide (a = b) := by decide +kernel
  rw [← h1 b hb a ha, bitL_get ha, bitL_get ha, bitL_get ha, Int64.toBitVec_or, BitVec.getLsbD_or]
theorem exB_mk {xf : Nat → Int64} {i j : Nat} : exB (mkF xf j) i = (exB xf i || decide (i = j)) := by
  unfold exB mkF va_up
  by_cases h : i / 64 = j / 64
  · rw [if_pos h, or_one (by omega) (by omega), h]
    have : decide (i % 64 = j % 64) = decide (i = j) := by
      apply decide_eq_decide.mpr
      constructor <;> intro h2 <;> omega
    rw [this]
  · rw [if_neg h]
    have : decide (i = j) = false := decide_eq_false (fun h2 => h (by rw [h2]))
    rw [this, Bool.or_false]
theorem exB_mark {q : Nat → Bool} {xf : Nat → Int64} {b i : Nat} : ∀ k, exB (markF q xf b k) i = (exB xf i || (decide (b ≤ i) && decide (i < b + k) && q i))
  | 0 => by
    show exB xf i = _
    by_cases h : b ≤ i
    · rw [decide_eq_false (show ¬ i < b + 0 by omega)]
      simp
    · rw [decide_eq_false h]
      simp
  | k + 1 => by
    have ih := exB_mark (q := q) (xf := xf) (b := b) (i := i) k
    unfold markF
    split
    · rename_i hq
      rw [exB_mk, ih]
      by_cases e : i = b + k
      · subst e
        have h1 : decide (b + k < b + k) = false := decide_eq_false (by omega)
        have h2 : decide (b + k < b + (k + 1)) = true := decide_eq_true (by omega)
        have h3 : decide (b ≤ b + k) = true := decide_eq_true (by omega)
        rw [h1, h2, h3, hq]
        simp
      · have h1 : decide (i < b + (k + 1)) = decide (i < b + k) := by apply decide_eq_decide.mpr; omega
        have h2 : decide (i = b + k) = false := decide_eq_false e
        rw [h1, h2, Bool.or_false]
    · rename_i hq
      rw [ih]
      by_cases e : i = b + k
      · subst e
        have hq' : q (b + k) = false := by simpa using hq
        rw [hq']
        simp
      · have h1 : decide (i < b + (k + 1)) = decide (i < b + k) := by apply decide_eq_decide.mpr; omega
        rw [h1]
/-- hitting sets -/
theorem and_comm32 (x y : Int32) : x &&& y = y &&& x := b_ext fun i _ => by rw [b_and, b_and, Bool.and_comm]
theorem allU_t {q : Nat → Bool} : ∀ f i, allU q i f = true ↔ ∀ k, i ≤ k → k < i + f → q k = true
  | 0, i => by
    constructor
    · intro _ k h1 h2; omega
    · intro _; rfl
  | f + 1, i => by
    unfold allU
    split
    · rename_i h
      rw [allU_t f (i + 1)]
      constructor
      · intro h1 k h2 h3
        rcases Nat.lt_or_ge i k with h4 | h4
        · exact h1 k (by omega) (by omega)
        · rw [show k = i by omega]; exact h
      · intro h1 k h2 h3; exact h1 k (by omega) (by omega)
    · rename_i h
      constructor
      · intro h9; cases h9
      · intro h9; exact absurd (h9 i (Nat.le_refl _) (by omega)) h
theorem hitM_t {uf : Nat → Int32} {sel : Int32} : ∀ n, hitM uf sel n = true ↔ ∀ k, k < n → (!(sel &&& uf k == 0)) = true
  | 0 => by
    constructor
    · intro _ k h; omega
    · intro _; rfl
  | n + 1 => by
    have ih := hitM_t (uf := uf) (sel := sel) n
    unfold hitM
    split
    · rename_i h
      have h1 := ih.mp h
      constructor
      · intro h2 k hk
        rcases Nat.lt_or_ge k n with h3 | h3
        · exact h1 k h3
        · rw [show k = n by omega]; exact h2
      · intro h2; exact h2 n (by omega)
    · rename_i h
      constructor
      · intro h9; cases h9
      · intro h9; exact absurd (ih.mpr fun k hk => h9 k (by omega)) h
theorem hits_eq {uf vf : Nat → Int32} {sel : Int32} {n : Nat} (h : ∀ k, k < n → uf k = vf k) : hitM vf sel n = allU (fun y => !(uf y &&& sel == 0)) 0 n := by
  have key : hitM vf sel n = true ↔ allU (fun y => !(uf y &&& sel == 0)) 0 n = true := by
    rw [hitM_t n, allU_t n 0]
    constructor
    · intro h1 k _ hk
      have h2 := h1 k (by omega)
      rw [and_comm32, ← h k (by omega)] at h2
      exact h2
    · intro h1 k hk
      have h2 := h1 k (by omega) (by omega)
      rw [and_comm32, ← h k hk]
      exact h2
  cases h1 : hitM vf sel n <;> cases h2 : allU (fun y => !(uf y &&& sel == 0)) 0 n <;> simp_all
theorem hsM_eq {c1 c2 : Nat → Int32} {q1 q2 h1 h2 : Nat → Bool} (hc : ∀ j, j < 1024 → c1 j = c2 j) (hq : ∀ j, j < 1024 → q1 j = q2 j) (hh : ∀ j, j < 1024 → h1 j = h2 j) : ∀ j, j ≤ 1024 → hsM c1 q1 h1 j = lhsF c2 q2 h2 j
  | 0, _ => rfl
  | j + 1, hj => by
    have ih := hsM_eq hc hq hh j (by omega)
    unfold hsM lhsF
    rw [ih, hc j (by omega), hq j (by omega), hh j (by omega)]
    by_cases hqq : q2 j = true
    · rw [if_pos hqq]
      by_cases hx : ((lhsF c2 q2 h2 j).1 = -9 ∨ c2 j < (lhsF c2 q2 h2 j).2) ∧ h2 j = true
      · rw [if_pos hx, if_pos ⟨hqq, hx⟩]
      · rw [if_neg hx, if_neg (fun h9 => hx h9.2)]
    · rw [if_neg hqq, if_neg (fun h9 => hqq h9.1)]
theorem lhsF_past (c : Nat → Int32) (q h : Nat → Bool) {k : Nat} : ∀ d, (∀ j, k ≤ j → j < k + d → q j = false) → lhsF c q h (k + d) = lhsF c q h k
  | 0, _ => rfl
  | d + 1, hq => by
    have ih := lhsF_past c q h d (fun j h1 h2 => hq j h1 (by omega))
    show lhsF c q h (k + d + 1) = _
    rw [lhsF, if_neg (by rw [hq (k + d) (by omega) (by omega)]; decide), ih]
/-- blame -/
theorem bc_pos : ∀ j, j < 1024 → ∀ k, k < 10 → hasB (nI j) k = true → 0 < bcI (nI j) ∧ bcM (nI j) 10 ≠ 0 := by decide +kernel
theorem blM_eq {uf vf : Nat → Int32} {k : Nat} (hk : k < 10) : ∀ n, (∀ i, i < n → uf i = vf i ∧ ∃ j, j < 1024 ∧ uf i = nI j) → blM vf k n = blamF uf k n
  | 0, _ => rfl
  | n + 1, h => by
    have ih := blM_eq hk n (fun i hi => h i (by omega))
    obtain ⟨e, j, hj, ej⟩ := h n (by omega)
    unfold blM blamF
    rw [ih, ← e, hasI_nI, ej, bc_eq j hj]
    by_cases hb : hasB (nI j) k = true
    · have := bc_pos j hj k hk hb
      rw [bc_eq j hj] at this
      rw [if_pos hb, if_pos ⟨this.1, hb⟩]
    · rw [if_neg hb, if_neg (fun h9 => hb h9.2), Int32.add_zero]
