/-- Long.bitCount as the machine has it -/
def bcL (x : Int64) : Int32 :=
  let a := x - ((x.toUInt64 >>> ((1 : Int32).toInt64.toUInt64 &&& Int64.toUInt64 63)).toInt64 &&& 6148914691236517205)
  let b := (a &&& 3689348814741910323) + ((a.toUInt64 >>> ((2 : Int32).toInt64.toUInt64 &&& Int64.toUInt64 63)).toInt64 &&& 3689348814741910323)
  let d := (b + (b.toUInt64 >>> ((4 : Int32).toInt64.toUInt64 &&& Int64.toUInt64 63)).toInt64) &&& 1085102592571150095
  let f := d + (d.toUInt64 >>> ((8 : Int32).toInt64.toUInt64 &&& Int64.toUInt64 63)).toInt64
  let g := f + (f.toUInt64 >>> ((16 : Int32).toInt64.toUInt64 &&& Int64.toUInt64 63)).toInt64
  let h := g + (g.toUInt64 >>> ((32 : Int32).toInt64.toUInt64 &&& Int64.toUInt64 63)).toInt64
  h.toInt32 &&& 127
def dpI (dp : Nat) : Nat := if dp < 5 then dp + 1 else dp
def bkI (nw : Nat) : Nat := if 0 < nw then nw - 1 else 4
/-- k steps of the class's enumeration: both lists, their lengths, what is explored -/
abbrev TC : Type := (Nat → Int32) × Nat × (Nat → Int32) × Nat × (Nat → Int64)
def seC (st : Int32) (wt : Nat → Int32) (n : Nat) (t : TC) : Nat := (sdC st wt n t.2.2.2.2).toNatClampNeg
def stC (st : Int32) (md : Nat → Int64) (wt : Nat → Int32) (n : Nat) (t : TC) : TC :=
  (exU md wt n t.1 t.2.1 (seC st wt n t), exUn md wt n t.2.1 (seC st wt n t), exZ md wt n t.2.2.1 t.2.2.2.1 (seC st wt n t), exZn md wt n t.2.2.2.1 (seC st wt n t), exX md wt n t.2.2.2.2 (seC st wt n t))
def itC (st : Int32) (md : Nat → Int64) (wt : Nat → Int32) (n : Nat) (t : TC) : Nat → TC
  | 0 => t
  | k + 1 => stC st md wt n (itC st md wt n t k)
/-- a found seed is a number up to the soft mask -/
theorem ite_or {α : Type} (c : Prop) [Decidable c] (a b : α) : (if c then a else b) = a ∨ (if c then a else b) = b := by by_cases h : c <;> simp [h]
theorem seedF_in (st : Int32) (q : Nat → Bool) : ∀ j, (seedF st q j).1 = -9 ∨ ∃ z, z < j ∧ q z = true ∧ (seedF st q j).1 = nI z
  | 0 => Or.inl rfl
  | j + 1 => by
    have ih := seedF_in st q j
    have ih2 : (seedF st q j).1 = -9 ∨ ∃ z, z < j + 1 ∧ q z = true ∧ (seedF st q j).1 = nI z := by
      rcases ih with h | ⟨z, hz, hq, h⟩
      · exact Or.inl h
      · exact Or.inr ⟨z, by omega, hq, h⟩
    by_cases h : q j = true
    · rw [seedF, if_pos h]
      rcases ite_or ((seedF st q j).1 = -9 ∨ (if st = 0 then (seedF st q j).2 < bcI (nI j) else bcI (nI j) < (seedF st q j).2)) (nI j, bcI (nI j)) ((seedF st q j).1, (seedF st q j).2) with e | e
      · rw [e]
        exact Or.inr ⟨j, Nat.lt_succ_self j, h, rfl⟩
      · rw [e]
        exact ih2
    · rw [seedF, if_neg h]
      exact ih2
theorem sdC_in {st : Int32} {wt : Nat → Int32} {n : Nat} {xf : Nat → Int64} (hn : n ≤ 10) (h : sdC st wt n xf ≠ -9) : sdC st wt n xf = nI (sdC st wt n xf).toNatClampNeg ∧ (sdC st wt n xf).toNatClampNeg ≤ softN wt n := by
  have hs := softN_1024 wt hn
  rcases seedF_in st (fun z => subB (nI z) (nI (softN wt n)) && !exB xf z) (softN wt n + 1) with h1 | ⟨z, hz, -, h1⟩
  · exact absurd h1 h
  · have e : sdC st wt n xf = nI z := h1
    rw [e, nI_clamp (by omega)]
    exact ⟨rfl, by omega⟩
