/-! masks as numbers: what grow and shrink give -/
def anN (a b : Nat) : Nat := a ^^^ (a &&& b)
theorem notI_nI (a b : Nat) : nI a &&& notI (nI b) = nI (anN a b) := by
  unfold notI anN
  apply b_ext
  intro i hi
  rw [b_and, b_xor, b_m1 i hi, ← nx_xor, ← nx_and, b_xor, b_and]
  cases bt (nI a) i <;> cases bt (nI b) i <;> rfl
theorem anN_sub (a b : Nat) : anN a b &&& a = anN a b := by
  unfold anN
  apply Nat.eq_of_testBit_eq
  intro i
  rw [Nat.testBit_and, Nat.testBit_xor, Nat.testBit_and]
  cases a.testBit i <;> cases b.testBit i <;> rfl
theorem anN_le (a b : Nat) : anN a b ≤ a := by
  have h := anN_sub a b
  rw [← h]
  exact Nat.and_le_right
theorem growF_nI (sat : Int32 → Bool) {sm x : Nat} (hs : sm < 1024) (hx : x < 1024) : ∀ n, n ≤ 10 → ∃ g, g < 1024 ∧ growF sat (nI sm) (nI x) n = nI g
  | 0, _ => ⟨x, hx, rfl⟩
  | i + 1, h => by
    obtain ⟨g, hg, e⟩ := growF_nI sat hs hx i (by omega)
    unfold growF
    split
    · rw [e, bitI_nI i (by omega), nx_and, nx_or]
      refine ⟨_, ?_, rfl⟩
      exact Nat.or_lt_two_pow (n := 10) hg (Nat.lt_of_le_of_lt Nat.and_le_left hs)
    · exact ⟨g, hg, e⟩
theorem shrinkF_nI (sat : Int32 → Bool) (x : Nat) : ∀ n, n ≤ 10 → ∃ g, g ≤ x ∧ g &&& x = g ∧ shrinkF sat (nI x) n = nI g
  | 0, _ => ⟨x, Nat.le_refl x, Nat.and_self x, rfl⟩
  | i + 1, h => by
    obtain ⟨g, hg, hs, e⟩ := shrinkF_nI sat x i (by omega)
    unfold shrinkF
    split
    · exact ⟨g, hg, hs, e⟩
    · rw [e, bitI_nI i (by omega), notI_nI]
      refine ⟨_, Nat.le_trans (anN_le _ _) hg, ?_, rfl⟩
      rw [← anN_sub, Nat.and_assoc, hs]
theorem toN_nI {g : Nat} (h : g < 2 ^ 31) : (nI g).toNatClampNeg = g := nI_clamp h
def gC (md : Nat → Int64) (wt : Nat → Int32) (n x : Nat) : Nat := (growF (satB md wt n) (nI (softN wt n)) (nI x) n).toNatClampNeg
def sC (md : Nat → Int64) (wt : Nat → Int32) (n x : Nat) : Nat := (shrinkF (satB md wt n) (nI x) n).toNatClampNeg
theorem gC_eq {md : Nat → Int64} {wt : Nat → Int32} {n x : Nat} (hn : n ≤ 10) (hx : x < 1024) : growF (satB md wt n) (softM wt n) (nI x) n = nI (gC md wt n x) ∧ gC md wt n x < 1024 := by
  obtain ⟨g, hg, e⟩ := growF_nI (satB md wt n) (softN_1024 wt hn) hx n hn
  have : gC md wt n x = g := by unfold gC; rw [e, nI_clamp (by omega)]
  rw [this, softM_nI wt n (by omega)]
  exact ⟨e, hg⟩
theorem sC_eq {md : Nat → Int64} {wt : Nat → Int32} {n x : Nat} (hn : n ≤ 10) (hx : x < 1024) : shrinkF (satB md wt n) (nI x) n = nI (sC md wt n x) ∧ sC md wt n x ≤ x := by
  obtain ⟨g, hg, -, e⟩ := shrinkF_nI (satB md wt n) x n hn
  have : sC md wt n x = g := by unfold sC; rw [e, nI_clamp (by omega)]
  rw [this]
  exact ⟨e, hg⟩
/-- one step of the class's enumeration on its parts -/
def exU (md : Nat → Int64) (wt : Nat → Int32) (n : Nat) (uf : Nat → Int32) (un x : Nat) : Nat → Int32 := if satB md wt n (nI x) = true then uf else va_up uf un (nI (sC md wt n x))
def exUn (md : Nat → Int64) (wt : Nat → Int32) (n un x : Nat) : Nat := if satB md wt n (nI x) = true then un else un + 1
def exZ (md : Nat → Int64) (wt : Nat → Int32) (n : Nat) (zf : Nat → Int32) (zn x : Nat) : Nat → Int32 := if satB md wt n (nI x) = true then va_up zf zn (nI (gC md wt n x)) else zf
def exZn (md : Nat → Int64) (wt : Nat → Int32) (n zn x : Nat) : Nat := if satB md wt n (nI x) = true then zn + 1 else zn
def exX (md : Nat → Int64) (wt : Nat → Int32) (n : Nat) (xf : Nat → Int64) (x : Nat) : Nat → Int64 :=
  if satB md wt n (nI x) = true then markF (fun z => subB (nI z) (nI (gC md wt n x))) xf 0 (gC md wt n x + 1)
  else markF (fun z => subB (nI z) (nI (softN wt n)) && (nI z &&& nI (sC md wt n x) == nI (sC md wt n x))) xf (sC md wt n x) (softN wt n + 1 - sC md wt n x)
def sdC (st : Int32) (wt : Nat → Int32) (n : Nat) (xf : Nat → Int64) : Int32 := (seedF st (fun z => subB (nI z) (nI (softN wt n)) && !exB xf z) (softN wt n + 1)).1
