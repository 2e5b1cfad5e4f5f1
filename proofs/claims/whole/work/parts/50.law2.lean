/-! THE LAW: what the cases share -/
theorem nneg_up {tf : Nat → Int32} {k : Nat} {x : Int32} (h : ∀ k, ¬ tf k < 0) (hx : inR x 0 255 = true) : ∀ j, ¬ va_up tf k x j < 0 := by
  intro j
  by_cases e : j = k
  · rw [va_upE e]
    unfold inR at hx
    rw [Bool.and_eq_true, Bool.not_eq_true', decide_eq_false_iff_not] at hx
    exact hx.1
  · rw [va_upN e]; exact h j
section BLK
variable {G : GT} {u v xw R bs : va_W} {sv lv : SV} {ix : Nat} {p q : SB × SD}
theorem hu_n (hu : u.Perm (xw ++ (blks G sv 5 ++ R))) (hi : ix < 5) (hs : sv ix = none) : u.Perm (xw ++ (blks G (va_up sv ix none) 5 ++ R)) := by
  have h := toB hu (blks_at G sv ix hi)
  rw [hs] at h
  exact h
theorem hu_o (hu : u.Perm (xw ++ (blks G sv 5 ++ R))) (hi : ix < 5) (hs : sv ix = some p) : u.Perm (xw ++ (blkP G p ++ (blks G (va_up sv ix none) 5 ++ R))) := by
  have h := toB hu (blks_at G sv ix hi)
  rw [hs] at h
  exact h
theorem fr_n (hi : ix < 5) (h : v.Perm (xw ++ (blkP G q ++ (blks G (va_up sv ix none) 5 ++ R)))) : v.Perm (xw ++ (blks G (va_up sv ix (some q)) 5 ++ R)) := frB h (blks_up G sv ix (some q) 5 hi)
theorem fr_s (hi : ix < 5) (hs : sv ix = some p) (h : v.Perm (xw ++ (blkP G p ++ (blks G (va_up sv ix none) 5 ++ R)))) : v.Perm (xw ++ (blks G sv 5 ++ R)) := by
  refine frB h ?_
  have h1 := blks_at G sv ix hi
  rw [hs] at h1
  exact h1
theorem lu_n (hu : u.Perm (xw ++ (bs ++ (blks G lv 2 ++ R)))) (hi : ix < 2) (hs : lv ix = none) : u.Perm (xw ++ (bs ++ (blks G (va_up lv ix none) 2 ++ R))) := by
  have h := toL hu (blks_at G lv ix hi)
  rw [hs] at h
  exact h
theorem lu_o (hu : u.Perm (xw ++ (bs ++ (blks G lv 2 ++ R)))) (hi : ix < 2) (hs : lv ix = some p) : u.Perm (xw ++ (blkP G p ++ (bs ++ (blks G (va_up lv ix none) 2 ++ R)))) := by
  have h := toL hu (blks_at G lv ix hi)
  rw [hs] at h
  exact h
theorem fl_n (hi : ix < 2) (h : v.Perm (xw ++ (blkP G q ++ (bs ++ (blks G (va_up lv ix none) 2 ++ R))))) : v.Perm (xw ++ (bs ++ (blks G (va_up lv ix (some q)) 2 ++ R))) := frL h (blks_up G lv ix (some q) 2 hi)
theorem fl_s (hi : ix < 2) (hs : lv ix = some p) (h : v.Perm (xw ++ (blkP G p ++ (bs ++ (blks G (va_up lv ix none) 2 ++ R))))) : v.Perm (xw ++ (bs ++ (blks G lv 2 ++ R))) := by
  refine frL h ?_
  have h1 := blks_at G lv ix hi
  rw [hs] at h1
  exact h1
/-- load: the slots are empty again -/
def nlS (lv : SV) : SV := fun j => if j < 2 then none else lv j
theorem nlS_e : nlF (hvO lv) 2 = hvO (nlS lv) := by
  funext j
  unfold nlF hvO nlS
  split
  · rfl
  · rfl
theorem nlS_b : blks G (nlS lv) 2 = [] := rfl
theorem nlS_L {fg : Nat → Bool} {lf : Nat → Int32} : LR (nlS lv) (va_up (va_up fg 0 false) 1 false) lf := by
  intro j hj
  have e : va_up (va_up fg 0 false) 1 false j = false := by
    rcases (show j = 0 ∨ j = 1 by omega) with rfl | rfl
    · rfl
    · rfl
  refine ⟨fun h => absurd (e.symm.trans h) Bool.false_ne_true, fun _ => ?_⟩
  unfold nlS
  rw [if_pos hj]
theorem nlS_f (h : v.Perm (xw ++ (bs ++ R))) : v.Perm (xw ++ (bs ++ (blks G (nlS lv) 2 ++ R))) := h
end BLK
section CON2
variable {md : Nat → Int64} {wt : Nat → Int32} {n : Nat} {sf : Nat → Int32} {j : Nat}
theorem hard_iff (h : cOk md wt n sf) (hj : j < n) (b : Bool) : (wt j == 0) = b ↔ cA sf j 4 = bI b := by
  rcases (h.2.2 j hj).2.1 with ⟨h1, h2⟩ | ⟨h1, h2⟩
  · rw [h1]
    have e : (wt j == 0) = false := by rw [beq_eq_false_iff_ne]; exact h2
    rw [e]
    cases b
    · exact ⟨fun _ => rfl, fun _ => rfl⟩
    · exact ⟨fun h => (by cases h), fun h => (by revert h; decide)⟩
  · rw [h1]
    have e : (wt j == 0) = true := by rw [beq_iff_eq]; exact h2
    rw [e]
    cases b
    · exact ⟨fun h => (by cases h), fun h => (by revert h; decide)⟩
    · exact ⟨fun _ => rfl, fun _ => rfl⟩
theorem hard_1 (h : cOk md wt n sf) (hj : j < n) : wt j = 0 ↔ cA sf j 4 = 1 := by
  have h1 := hard_iff h hj true
  rw [beq_iff_eq] at h1
  exact h1
theorem load_cOk {d : Nat → Int32} {x : Int32} (h : cOk md wt n d) : cOk md wt n (emF (va_up (vlF sf d 64) 1 x)) := by
  refine h.congr ?_ (fun k h1 h2 => ?_)
  · rw [emF_at (by omega) (by omega), va_upN (by omega)]
    unfold vlF
    rw [if_pos (by omega)]
  · rw [emF_at (by omega) (by omega), va_upN (by omega)]
    unfold vlF
    rw [if_pos (by omega)]
end CON2
