def nlF (f : Nat → Option Nat) (i : Nat) : Nat → Option Nat := fun j => if j < i then none else f j
theorem nlF_0 (f : Nat → Option Nat) : nlF f 0 = f := by funext j; unfold nlF; rw [if_neg (by omega)]
theorem nlF_s (f : Nat → Option Nat) (i : Nat) : va_up (nlF f i) i none = nlF f (i + 1) := by
  funext j
  unfold va_up nlF
  by_cases h : j = i
  · subst h; rw [if_pos rfl, if_pos (by omega)]
  · rw [if_neg h]
    by_cases h2 : j < i
    · rw [if_pos h2, if_pos (by omega)]
    · rw [if_neg h2, if_neg (by omega)]
