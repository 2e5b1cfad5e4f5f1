/-! OUR PURE WORDS: bits, masks, sums -/
def hasB (s : Int32) (k : Nat) : Bool := ((s >>> (nI k &&& 31)) &&& 1) == 1
def bitL (x : Int64) (a : Nat) : Bool := !(((x.toUInt64 >>> ((nI a : Int32).toInt64.toUInt64 &&& Int64.toUInt64 63)).toInt64 &&& 1) == 0)
def softM (wt : Nat → Int32) : Nat → Int32
  | 0 => 0
  | i + 1 => if wt i = 0 then softM wt i else softM wt i ||| bitI i
def totW (wt : Nat → Int32) (sel : Int32) : Nat → Int32
  | 0 => 0
  | i + 1 => if hasB sel i = true then totW wt sel i + wt i else totW wt sel i
def modsOf (md : Nat → Int64) (wt : Nat → Int32) (sel : Int32) : Nat → Int64
  | 0 => -1
  | i + 1 => if wt i = 0 ∨ hasB sel i = true then modsOf md wt sel i &&& md i else modsOf md wt sel i
def satB (md : Nat → Int64) (wt : Nat → Int32) (n : Nat) (sel : Int32) : Bool := !(modsOf md wt sel n == 0)
def firstB (x : Int64) (a : Nat) : Nat → Int32
  | 0 => -9
  | f + 1 => if bitL x a = true then nI a else firstB x (a + 1) f
def violM (md : Nat → Int64) (a : Nat) : Nat → Int32
  | 0 => 0
  | i + 1 => if bitL (md i) a = true then violM md a i else violM md a i ||| bitI i
def growF (sat : Int32 → Bool) (soft sel : Int32) : Nat → Int32
  | 0 => sel
  | i + 1 => if sat (growF sat soft sel i ||| (soft &&& bitI i)) = true then growF sat soft sel i ||| (soft &&& bitI i) else growF sat soft sel i
def shrinkF (sat : Int32 → Bool) (sel : Int32) : Nat → Int32
  | 0 => sel
  | i + 1 => if sat (shrinkF sat sel i &&& notI (bitI i)) = true then shrinkF sat sel i else shrinkF sat sel i &&& notI (bitI i)
def critF (sat : Int32 → Bool) (sel : Int32) : Nat → Int32
  | 0 => 0
  | i + 1 => if sat (sel &&& notI (sel &&& bitI i)) = true then critF sat sel i ||| (sel &&& bitI i) else critF sat sel i
def heavF (vio : Nat → Int32) (tot : Int32 → Int32) (soft : Int32) : Nat → Int32 × Int32
  | 0 => (-9, 0)
  | a + 1 => if vio a &&& notI soft = 0 then
      (if (heavF vio tot soft a).1 = -9 ∨ (heavF vio tot soft a).2 < tot (soft &&& notI (vio a)) ∨ (tot (soft &&& notI (vio a)) = (heavF vio tot soft a).2 ∧ soft &&& notI (vio a) < (heavF vio tot soft a).1) then (soft &&& notI (vio a), tot (soft &&& notI (vio a))) else heavF vio tot soft a)
    else heavF vio tot soft a
def inB (k : Int32) (n : Nat) : Bool := !(decide (k < 0)) && decide (k < nI n)
def selB (sel soft : Int32) : Bool := !(decide (sel < 0)) && (sel &&& notI soft == 0)
def dlF {α : Type} (f : Nat → α) (k i : Nat) : Nat → α := fun j => if k ≤ j ∧ j < i then f (j + 1) else f j
theorem dlF_0 {α : Type} (f : Nat → α) (k : Nat) : dlF f k k = f := by
  funext j
  unfold dlF
  rw [if_neg (by omega)]
theorem dlF_s {α : Type} (f : Nat → α) (k i : Nat) (h : k ≤ i) : va_up (dlF f k i) i (dlF f k i (i + 1)) = dlF f k (i + 1) := by
  funext j
  unfold va_up dlF
  by_cases h1 : j = i
  · subst h1
    rw [if_pos rfl, if_neg (by omega), if_pos (by omega)]
  · rw [if_neg h1]
    by_cases h2 : k ≤ j ∧ j < i
    · rw [if_pos h2, if_pos (by omega)]
    · rw [if_neg h2, if_neg (by omega)]
theorem inB_t {k : Int32} {n : Nat} (hn : n < 2 ^ 31) (h : inB k n = true) : ∃ j, j < n ∧ k = nI j := by
  unfold inB at h
  simp only [Bool.and_eq_true, Bool.not_eq_true', decide_eq_false_iff_not, decide_eq_true_eq] at h
  obtain ⟨j, hj, rfl⟩ := nI_of h.1
  exact ⟨j, (nI_ltI (a := j) (b := n) hj hn).mp h.2, rfl⟩
theorem inB_nI {j n : Nat} (hj : j < n) (hn : n < 2 ^ 31) : inB (nI j) n = true := by
  unfold inB
  have h1 : ¬ nI j < 0 := nI_pos (by omega)
  have h2 : nI j < nI n := nI_lt hj hn
  simp [h1, h2]
theorem and1L (x : Int64) : x &&& 1 = 0 ∨ x &&& 1 = 1 := by
  have h : x.toBitVec &&& 1#64 = 0#64 ∨ x.toBitVec &&& 1#64 = 1#64 := by
    rcases Bool.eq_false_or_eq_true (x.toBitVec.getLsbD 0) with h | h
    · right
      apply BitVec.eq_of_getLsbD_eq
      intro i hi
      rw [BitVec.getLsbD_and]
      rcases Nat.eq_zero_or_pos i with rfl | h0
      · rw [h]; rfl
      · simp [BitVec.getLsbD_one]
        omega
    · left
      apply BitVec.eq_of_getLsbD_eq
      intro i hi
      rw [BitVec.getLsbD_and]
      rcases Nat.eq_zero_or_pos i with rfl | h0
      · rw [h]; rfl
      · simp [BitVec.getLsbD_one]
        omega
  rcases h with h | h
  · left; exact Int64.toBitVec_inj.mp h
  · right; exact Int64.toBitVec_inj.mp h
theorem bitL_1 {x : Int64} {a : Nat} : ((x.toUInt64 >>> ((nI a : Int32).toInt64.toUInt64 &&& Int64.toUInt64 63)).toInt64 &&& 1) = 1 ↔ bitL x a = true := by
  unfold bitL
  rcases and1L (x.toUInt64 >>> ((nI a : Int32).toInt64.toUInt64 &&& Int64.toUInt64 63)).toInt64 with h | h <;> rw [h] <;> decide
theorem bitL_0 {x : Int64} {a : Nat} : ((x.toUInt64 >>> ((nI a : Int32).toInt64.toUInt64 &&& Int64.toUInt64 63)).toInt64 &&& 1) = 0 ↔ bitL x a = false := by
  unfold bitL
  rcases and1L (x.toUInt64 >>> ((nI a : Int32).toInt64.toUInt64 &&& Int64.toUInt64 63)).toInt64 with h | h <;> rw [h] <;> decide
