/-! the model's reader of texts, in pure words -/
def skipW (q : Nat → Bool) (i : Nat) : Nat → Nat
  | 0 => i
  | f + 1 => if q i = true then skipW q (i + 1) f else i
theorem skipW_ge (q : Nat → Bool) : ∀ f i, i ≤ skipW q i f
  | 0, i => Nat.le_refl i
  | f + 1, i => by
    unfold skipW
    split
    · exact Nat.le_trans (Nat.le_succ i) (skipW_ge q f (i + 1))
    · exact Nat.le_refl i
theorem skipW_le (q : Nat → Bool) : ∀ f i, skipW q i f ≤ i + f
  | 0, i => Nat.le_refl i
  | f + 1, i => by
    unfold skipW
    split
    · have := skipW_le q f (i + 1); omega
    · omega
theorem skipW_no {q : Nat → Bool} {i : Nat} (h : q i = false) : ∀ f, skipW q i f = i
  | 0 => rfl
  | f + 1 => by unfold skipW; rw [h]; rfl
theorem skipW_yes {q : Nat → Bool} {i ln : Nat} (h : q i = true) (hi : i < ln) : skipW q i (ln - i) = skipW q (i + 1) (ln - (i + 1)) := by
  rw [show ln - i = (ln - (i + 1)) + 1 by omega, skipW, if_pos h]
def spP (f : Nat → Int32) (ln k : Nat) : Bool := chA f ln k == 32
def leP (f : Nat → Int32) (ln k : Nat) : Bool := inR (chA f ln k) 97 122
def wsz (b c d : Int32) : Nat := if b = 0 then 1 else if c = 0 then 2 else if d = 0 then 3 else 4
def isW (f : Nat → Int32) (ts nx : Nat) (a b c d : Int32) : Bool := decide (nx - ts = wsz b c d) && (f ts == a) && (decide (wsz b c d < 2) || f (ts + 1) == b) && (decide (wsz b c d < 3) || f (ts + 2) == c) && (decide (wsz b c d < 4) || f (ts + 3) == d)
def kwM (f : Nat → Int32) (ts nx : Nat) : Int32 :=
  if isW f ts nx 111 114 0 0 = true then 1 else if isW f ts nx 120 111 114 0 = true then 2 else if isW f ts nx 109 111 115 116 = true then 3 else if isW f ts nx 119 0 0 0 = true then 4 else if isW f ts nx 104 97 114 100 = true then 5 else -9
def tkM (c : Int32) : Int32 := if inR c 48 57 = true then 2 else if c = 45 then 3 else if c = 59 then 4 else 5
/-- where the next token is and what: behind it, its start, its kind, its value -/
def advM (f : Nat → Int32) (ln nx : Nat) (vl : Int32) : Nat × Nat × Int32 × Int32 :=
  if chA f ln (skipW (spP f ln) nx (ln - nx)) < 0 then (skipW (spP f ln) nx (ln - nx), skipW (spP f ln) nx (ln - nx), 0, vl)
  else if inR (chA f ln (skipW (spP f ln) nx (ln - nx))) 97 122 = true then
    (skipW (leP f ln) (skipW (spP f ln) nx (ln - nx)) (ln - skipW (spP f ln) nx (ln - nx)), skipW (spP f ln) nx (ln - nx), 1, kwM f (skipW (spP f ln) nx (ln - nx)) (skipW (leP f ln) (skipW (spP f ln) nx (ln - nx)) (ln - skipW (spP f ln) nx (ln - nx))))
  else (skipW (spP f ln) nx (ln - nx) + 1, skipW (spP f ln) nx (ln - nx), tkM (chA f ln (skipW (spP f ln) nx (ln - nx))), chA f ln (skipW (spP f ln) nx (ln - nx)) - 48)
theorem chA_in {f : Nat → Int32} {ln k : Nat} {P : Int32 → Prop} (h : P (chA f ln k)) (hn : ¬ P (-1)) : k < ln := by
  unfold chA at h
  rcases Nat.lt_or_ge k ln with h1 | h1
  · exact h1
  · rw [if_neg (by omega)] at h
    exact absurd h hn
theorem advM_end {f : Nat → Int32} {ln nx i : Nat} {vl : Int32} (h : skipW (spP f ln) i (ln - i) = skipW (spP f ln) nx (ln - nx)) (hs : ¬ chA f ln i = 32) (hc : chA f ln i < 0) : advM f ln nx vl = (i, i, 0, vl) := by
  have h0 : spP f ln i = false := by simpa [spP] using hs
  rw [skipW_no h0] at h
  unfold advM
  rw [← h, if_pos hc]
theorem advM_word {f : Nat → Int32} {ln nx i j : Nat} {vl : Int32} (h : skipW (spP f ln) i (ln - i) = skipW (spP f ln) nx (ln - nx)) (hs : ¬ chA f ln i = 32) (hc : ¬ chA f ln i < 0) (hl : inR (chA f ln i) 97 122 = true) (hj : skipW (leP f ln) j (ln - j) = skipW (leP f ln) i (ln - i)) (hn : inR (chA f ln j) 97 122 = false) : advM f ln nx vl = (j, i, 1, kwM f i j) := by
  have h0 : spP f ln i = false := by simpa [spP] using hs
  rw [skipW_no h0] at h
  have h1 : leP f ln j = false := hn
  rw [skipW_no h1] at hj
  unfold advM
  rw [← h, if_neg hc, if_pos hl, ← hj]
theorem advM_oth {f : Nat → Int32} {ln nx i : Nat} {vl : Int32} (h : skipW (spP f ln) i (ln - i) = skipW (spP f ln) nx (ln - nx)) (hs : ¬ chA f ln i = 32) (hc : ¬ chA f ln i < 0) (hl : inR (chA f ln i) 97 122 = false) : advM f ln nx vl = (i + 1, i, tkM (chA f ln i), chA f ln i - 48) := by
  have h0 : spP f ln i = false := by simpa [spP] using hs
  rw [skipW_no h0] at h
  unfold advM
  rw [← h, if_neg hc, if_neg (by rw [hl]; decide)]
/-- behind a token: within the text; the start not ahead of where one was; a token that is there takes room -/
theorem advM_ok {f : Nat → Int32} {ln nx : Nat} {vl : Int32} (h : nx ≤ ln) : (advM f ln nx vl).1 ≤ ln ∧ nx ≤ (advM f ln nx vl).2.1 ∧ (advM f ln nx vl).2.1 ≤ (advM f ln nx vl).1 ∧ ((advM f ln nx vl).2.2.1 ≠ 0 → (advM f ln nx vl).2.1 < (advM f ln nx vl).1) := by
  have h1 := skipW_ge (spP f ln) (ln - nx) nx
  have h2 := skipW_le (spP f ln) (ln - nx) nx
  unfold advM
  generalize skipW (spP f ln) nx (ln - nx) = S at h1 h2
  have h3 := skipW_ge (leP f ln) (ln - S) S
  have h4 := skipW_le (leP f ln) (ln - S) S
  by_cases hc : chA f ln S < 0
  · rw [if_pos hc]
    exact ⟨by dsimp only; omega, h1, Nat.le_refl _, fun h => absurd rfl h⟩
  · have hS : S < ln := chA_in (P := fun z => ¬ z < 0) hc (by decide)
    rw [if_neg hc]
    by_cases hl : inR (chA f ln S) 97 122 = true
    · rw [if_pos hl]
      have h5 : skipW (leP f ln) S (ln - S) = skipW (leP f ln) (S + 1) (ln - (S + 1)) := skipW_yes hl hS
      have h6 := skipW_ge (leP f ln) (ln - (S + 1)) (S + 1)
      refine ⟨by dsimp only; omega, h1, h3, fun _ => ?_⟩
      dsimp only
      rw [h5]
      omega
    · rw [if_neg hl]
      exact ⟨by dsimp only; omega, h1, by dsimp only; omega, fun _ => by dsimp only; omega⟩
abbrev PT : Type := Nat × Nat × Int32 × Int32 × Int32
/-- take: the next token if this one may stand here, else the error -/
def tkeM (f : Nat → Int32) (ln : Nat) (b : Bool) (t : PT) : PT :=
  if t.2.2.2.2 = -9 then
    (if b = true then ((advM f ln t.1 t.2.2.2.1).1, (advM f ln t.1 t.2.2.2.1).2.1, (advM f ln t.1 t.2.2.2.1).2.2.1, (advM f ln t.1 t.2.2.2.1).2.2.2, t.2.2.2.2)
     else (t.1, t.2.1, t.2.2.1, t.2.2.2.1, nI t.2.1))
  else t
def okP (ln : Nat) (t : PT) : Prop := t.1 ≤ ln ∧ t.2.1 ≤ t.1 ∧ (t.2.2.1 ≠ 0 → t.2.1 < t.1)
theorem okP_take {f : Nat → Int32} {ln : Nat} {b : Bool} {t : PT} (h : okP ln t) : okP ln (tkeM f ln b t) := by
  unfold tkeM
  have ha := advM_ok (f := f) (vl := t.2.2.2.1) h.1
  by_cases h1 : t.2.2.2.2 = -9
  · rw [if_pos h1]
    by_cases h2 : b = true
    · rw [if_pos h2]
      exact ⟨ha.1, ha.2.2.1, ha.2.2.2⟩
    · rw [if_neg h2]
      exact h
  · rw [if_neg h1]
    exact h
/-- how much is left to read -/
def leP9 (ln : Nat) (t : PT) : Nat := if t.2.2.2.2 = -9 then ln + 1 - t.2.1 else 0
theorem leP9_take {f : Nat → Int32} {ln : Nat} {b : Bool} {t : PT} (h : okP ln t) : leP9 ln (tkeM f ln b t) ≤ leP9 ln t := by
  unfold tkeM leP9
  have ha := advM_ok (f := f) (vl := t.2.2.2.1) h.1
  by_cases h1 : t.2.2.2.2 = -9
  · rw [if_pos h1]
    by_cases h2 : b = true
    · rw [if_pos h2, if_pos h1]
      rw [if_pos h1]
      have := h.2.1
      dsimp only
      omega
    · rw [if_neg h2, if_pos h1]
      dsimp only
      split <;> omega
  · rw [if_neg h1, if_neg h1]
    exact Nat.le_refl _
theorem nI_n9 {k : Nat} (h : k < 2 ^ 31) : ¬ (nI k = -9) := by
  intro h9
  exact nI_pos h (by rw [h9]; decide)
theorem leP9_lt {f : Nat → Int32} {ln : Nat} {b : Bool} {t : PT} (hln : ln ≤ 120) (h : okP ln t) (he : t.2.2.2.2 = -9) (ht : t.2.2.1 ≠ 0) : leP9 ln (tkeM f ln b t) < leP9 ln t := by
  unfold tkeM leP9
  have ha := advM_ok (f := f) (vl := t.2.2.2.1) h.1
  have h3 := h.2.2 ht
  have h4 := h.1
  rw [if_pos he]
  by_cases h2 : b = true
  · rw [if_pos h2, if_pos he]
    rw [if_pos he]
    dsimp only
    omega
  · rw [if_neg h2, if_pos he]
    dsimp only
    rw [if_neg (nI_n9 (by omega))]
    omega
abbrev RS : Type := PT × (Nat → Int32)
def kwB (t : PT) (w : Int32) : Bool := t.2.2.1 == 1 && t.2.2.2.1 == w
def dgB (t : PT) (lo hi : Int32) : Bool := t.2.2.1 == 2 && inR t.2.2.2.1 lo hi
def ltA (f : Nat → Int32) (ln : Nat) (t : PT) : PT := if t.2.2.1 = 3 then tkeM f ln true t else t
def litB (d : Nat → Int32) (w : Nat) (t : PT) : Bool := t.2.2.1 == 2 && inR t.2.2.2.1 1 6 && !(hasI (d (w + 2)) t.2.2.2.1)
def ltB (f : Nat → Int32) (ln : Nat) (w : Nat) (r : RS) : PT := tkeM f ln (litB r.2 w (ltA f ln r.1)) (ltA f ln r.1)
def litD (f : Nat → Int32) (ln : Nat) (w : Nat) (r : RS) : Nat → Int32 :=
  if (ltB f ln w r).2.2.2.2 = -9 then va_up (va_up r.2 (w + 2) (r.2 (w + 2) ||| (1 <<< ((ltA f ln r.1).2.2.2.1 &&& 31)))) (w + 3) (r.2 (w + 3) ||| (if r.1.2.2.1 = 3 then 1 <<< ((ltA f ln r.1).2.2.2.1 &&& 31) else 0)) else r.2
def litM (f : Nat → Int32) (ln : Nat) (w : Nat) (r : RS) : RS := (ltB f ln w r, litD f ln w r)
theorem okP_ltA {f : Nat → Int32} {ln : Nat} {t : PT} (h : okP ln t) : okP ln (ltA f ln t) := by
  unfold ltA
  split
  · exact okP_take h
  · exact h
theorem okP_lit {f : Nat → Int32} {ln w : Nat} {r : RS} (h : okP ln r.1) : okP ln (litM f ln w r).1 := okP_take (okP_ltA h)
theorem leP9_ltA {f : Nat → Int32} {ln : Nat} {t : PT} (h : okP ln t) : leP9 ln (ltA f ln t) ≤ leP9 ln t := by
  unfold ltA
  split
  · exact leP9_take h
  · exact Nat.le_refl _
theorem leP9_lit {f : Nat → Int32} {ln w : Nat} {r : RS} (h : okP ln r.1) : leP9 ln (litM f ln w r).1 ≤ leP9 ln r.1 := Nat.le_trans (leP9_take (okP_ltA h)) (leP9_ltA h)
theorem leP9_litlt {f : Nat → Int32} {ln w : Nat} {r : RS} (hln : ln ≤ 120) (h : okP ln r.1) (he : r.1.2.2.2.2 = -9) (ht : r.1.2.2.1 = 3 ∨ r.1.2.2.1 = 2) : leP9 ln (litM f ln w r).1 < leP9 ln r.1 := by
  by_cases h3 : r.1.2.2.1 = 3
  · have e : ltA f ln r.1 = tkeM f ln true r.1 := by unfold ltA; rw [if_pos h3]
    refine Nat.lt_of_le_of_lt (leP9_take (okP_ltA h)) ?_
    rw [e]
    exact leP9_lt hln h he (by rw [h3]; decide)
  · have e : ltA f ln r.1 = r.1 := by unfold ltA; rw [if_neg h3]
    show leP9 ln (tkeM f ln _ (ltA f ln r.1)) < _
    rw [e]
    exact leP9_lt hln h he (by rcases ht with h9 | h9; exact absurd h9 h3; rw [h9]; decide)
/-- literals one behind another -/
def litL (f : Nat → Int32) (ln w : Nat) (r : RS) : Nat → RS
  | 0 => r
  | k + 1 => if r.1.2.2.2.2 = -9 ∧ (r.1.2.2.1 = 3 ∨ r.1.2.2.1 = 2) then litL f ln w (litM f ln w r) k else r
theorem litL_ok {f : Nat → Int32} {ln w : Nat} : ∀ k (r : RS), okP ln r.1 → okP ln (litL f ln w r k).1 ∧ leP9 ln (litL f ln w r k).1 ≤ leP9 ln r.1
  | 0, r, h => ⟨h, Nat.le_refl _⟩
  | k + 1, r, h => by
    unfold litL
    split
    · have := litL_ok (f := f) (w := w) k (litM f ln w r) (okP_lit h)
      exact ⟨this.1, Nat.le_trans this.2 (leP9_lit h)⟩
    · exact ⟨h, Nat.le_refl _⟩
def bod1 (f : Nat → Int32) (ln : Nat) (t : PT) : PT := tkeM f ln (kwB t 3 || kwB t 2 || kwB t 1) t
def bod2 (f : Nat → Int32) (ln : Nat) (t : PT) : PT := if kwB t 3 = true then tkeM f ln (dgB (bod1 f ln t) 0 6) (bod1 f ln t) else bod1 f ln t
def bodV (f : Nat → Int32) (ln : Nat) (t : PT) : Int32 := if kwB t 3 = true then (bod1 f ln t).2.2.2.1 else 0
def bodK (t : PT) : Int32 := if kwB t 3 = true then 2 else if kwB t 2 = true then 1 else 0
def bodD (f : Nat → Int32) (ln w : Nat) (r : RS) : Nat → Int32 := va_up (va_up (va_up (va_up r.2 (w + 0) (bodK r.1)) (w + 1) (bodV f ln r.1)) (w + 2) 0) (w + 3) 0
def bodM (f : Nat → Int32) (ln w : Nat) (r : RS) : RS := litL f ln w (litM f ln w (bod2 f ln r.1, bodD f ln w r)) (ln + 1)
theorem okP_bod1 {f : Nat → Int32} {ln : Nat} {t : PT} (h : okP ln t) : okP ln (bod1 f ln t) := okP_take h
theorem okP_bod2 {f : Nat → Int32} {ln : Nat} {t : PT} (h : okP ln t) : okP ln (bod2 f ln t) := by
  unfold bod2
  split
  · exact okP_take (okP_bod1 h)
  · exact okP_bod1 h
theorem leP9_bod2 {f : Nat → Int32} {ln : Nat} {t : PT} (h : okP ln t) : leP9 ln (bod2 f ln t) ≤ leP9 ln (bod1 f ln t) := by
  unfold bod2
  split
  · exact leP9_take (okP_bod1 h)
  · exact Nat.le_refl _
theorem bodM_ok {f : Nat → Int32} {ln w : Nat} {r : RS} (h : okP ln r.1) : okP ln (bodM f ln w r).1 ∧ leP9 ln (bodM f ln w r).1 ≤ leP9 ln (bod1 f ln r.1) := by
  have h1 : okP ln (litM f ln w (bod2 f ln r.1, bodD f ln w r)).1 := okP_lit (okP_bod2 h)
  have h2 : leP9 ln (litM f ln w (bod2 f ln r.1, bodD f ln w r)).1 ≤ leP9 ln (bod2 f ln r.1) := leP9_lit (r := (bod2 f ln r.1, bodD f ln w r)) (okP_bod2 h)
  have h3 := litL_ok (f := f) (w := w) (ln + 1) _ h1
  exact ⟨h3.1, Nat.le_trans h3.2 (Nat.le_trans h2 (leP9_bod2 h))⟩
/-- a constraint; nn: how many there are -/
def con1 (f : Nat → Int32) (ln : Nat) (t : PT) : PT := if kwB t 5 = true then tkeM f ln true t else t
def con2 (f : Nat → Int32) (ln nn : Nat) (r : RS) : RS := bodM f ln (4 + 6 * nn) (con1 f ln r.1, r.2)
def conW (f : Nat → Int32) (ln nn : Nat) (r : RS) : Bool := !(kwB r.1 5) && ((con2 f ln nn r).1.2.2.2.2 == -9) && kwB (con2 f ln nn r).1 4
def con3 (f : Nat → Int32) (ln nn : Nat) (r : RS) : PT := if conW f ln nn r = true then tkeM f ln (dgB (tkeM f ln true (con2 f ln nn r).1) 1 9) (tkeM f ln true (con2 f ln nn r).1) else (con2 f ln nn r).1
def conV (f : Nat → Int32) (ln nn : Nat) (r : RS) : Int32 := if conW f ln nn r = true then (tkeM f ln true (con2 f ln nn r).1).2.2.2.1 else 1
def con4 (f : Nat → Int32) (ln nn : Nat) (r : RS) : PT := tkeM f ln ((con3 f ln nn r).2.2.1 == 4) (con3 f ln nn r)
def conD (f : Nat → Int32) (ln nn : Nat) (r : RS) : Nat → Int32 := va_up (va_up (va_up (con2 f ln nn r).2 (4 + 6 * nn + 4) (if kwB r.1 5 = true then 1 else 0)) (4 + 6 * nn + 5) (if kwB r.1 5 = true then 0 else conV f ln nn r)) 0 (nI (nn + 1))
def conM (f : Nat → Int32) (ln nn : Nat) (r : RS) : RS := if nn = 10 then (tkeM f ln false r.1, r.2) else (con4 f ln nn r, conD f ln nn r)
def conN (nn : Nat) : Nat := if nn = 10 then nn else nn + 1
theorem conM_ok {f : Nat → Int32} {ln nn : Nat} {r : RS} (h : okP ln r.1) : okP ln (conM f ln nn r).1 := by
  unfold conM
  split
  · exact okP_take h
  · have h1 : okP ln (con1 f ln r.1) := by
      unfold con1
      split
      · exact okP_take h
      · exact h
    have h2 : okP ln (con2 f ln nn r).1 := (bodM_ok h1).1
    have h3 : okP ln (con3 f ln nn r) := by
      unfold con3
      split
      · exact okP_take (okP_take h2)
      · exact h2
    exact okP_take h3
theorem conM_lt {f : Nat → Int32} {ln nn : Nat} {r : RS} (hln : ln ≤ 120) (h : okP ln r.1) (he : r.1.2.2.2.2 = -9) (ht : r.1.2.2.1 ≠ 0) : leP9 ln (conM f ln nn r).1 < leP9 ln r.1 := by
  unfold conM
  split
  · exact leP9_lt hln h he ht
  · have h1 : okP ln (con1 f ln r.1) := by
      unfold con1
      split
      · exact okP_take h
      · exact h
    have h2 := bodM_ok (f := f) (w := 4 + 6 * nn) (r := (con1 f ln r.1, r.2)) h1
    have h5 : leP9 ln (bod1 f ln (con1 f ln r.1)) < leP9 ln r.1 := by
      unfold con1
      split
      · refine Nat.lt_of_le_of_lt (leP9_take (okP_take h)) ?_
        exact leP9_lt hln h he ht
      · exact leP9_lt hln h he ht
    have h3 : okP ln (con3 f ln nn r) ∧ leP9 ln (con3 f ln nn r) ≤ leP9 ln (con2 f ln nn r).1 := by
      unfold con3
      split
      · exact ⟨okP_take (okP_take h2.1), Nat.le_trans (leP9_take (okP_take h2.1)) (leP9_take h2.1)⟩
      · exact ⟨h2.1, Nat.le_refl _⟩
    exact Nat.lt_of_le_of_lt (leP9_take h3.1) (Nat.lt_of_le_of_lt h3.2 (Nat.lt_of_le_of_lt h2.2 h5))
/-- constraints one behind another -/
def sysL (f : Nat → Int32) (ln nn : Nat) (r : RS) : Nat → RS × Nat
  | 0 => (r, nn)
  | k + 1 => if r.1.2.2.2.2 = -9 ∧ ¬ r.1.2.2.1 = 0 then sysL f ln (conN nn) (conM f ln nn r) k else (r, nn)
def sys0 (f : Nat → Int32) (ln : Nat) (vl : Int32) (d : Nat → Int32) : RS := (((advM f ln 0 vl).1, (advM f ln 0 vl).2.1, (advM f ln 0 vl).2.2.1, (advM f ln 0 vl).2.2.2, -9), vlF d (fun _ => 0) 64)
def sysM (f : Nat → Int32) (ln : Nat) (vl : Int32) (d : Nat → Int32) : RS × Nat := sysL f ln 0 (sys0 f ln vl d) (ln + 1)
/-- the draft's first place counts the constraints -/
theorem litD_0 {f : Nat → Int32} {ln w : Nat} {r : RS} : litD f ln w r 0 = r.2 0 := by
  unfold litD
  split
  · simp only [va_up]; rw [if_neg (by omega), if_neg (by omega)]
  · rfl
theorem litL_0 {f : Nat → Int32} {ln w : Nat} : ∀ k (r : RS), (litL f ln w r k).2 0 = r.2 0
  | 0, r => rfl
  | k + 1, r => by
    unfold litL
    split
    · rw [litL_0 k]; exact litD_0
    · rfl
theorem bodM_0 {f : Nat → Int32} {ln w : Nat} (hw : 0 < w) {r : RS} : (bodM f ln w r).2 0 = r.2 0 := by
  unfold bodM
  rw [litL_0]
  show litD f ln w _ 0 = _
  rw [litD_0]
  show bodD f ln w r 0 = _
  simp only [bodD, va_up]
  rw [if_neg (by omega), if_neg (by omega), if_neg (by omega), if_neg (by omega)]
theorem conM_0 {f : Nat → Int32} {ln nn : Nat} {r : RS} (h : r.2 0 = nI nn) : (conM f ln nn r).2 0 = nI (conN nn) := by
  unfold conM conN
  split
  · exact h
  · simp [conD, va_up]
theorem litL_stop {f : Nat → Int32} {ln w : Nat} {r : RS} (h : ¬ (r.1.2.2.2.2 = -9 ∧ (r.1.2.2.1 = 3 ∨ r.1.2.2.1 = 2))) : ∀ k, litL f ln w r k = r
  | 0 => rfl
  | k + 1 => by unfold litL; rw [if_neg h]
theorem litL_go {f : Nat → Int32} {ln w : Nat} {r : RS} (h : r.1.2.2.2.2 = -9 ∧ (r.1.2.2.1 = 3 ∨ r.1.2.2.1 = 2)) {k : Nat} (hk : 0 < k) : litL f ln w r k = litL f ln w (litM f ln w r) (k - 1) := by
  rw [show k = (k - 1) + 1 by omega, litL, if_pos h, Nat.add_sub_cancel]
theorem sysL_stop {f : Nat → Int32} {ln nn : Nat} {r : RS} (h : ¬ (r.1.2.2.2.2 = -9 ∧ ¬ r.1.2.2.1 = 0)) : ∀ k, sysL f ln nn r k = (r, nn)
  | 0 => rfl
  | k + 1 => by unfold sysL; rw [if_neg h]
theorem sysL_go {f : Nat → Int32} {ln nn : Nat} {r : RS} (h : r.1.2.2.2.2 = -9 ∧ ¬ r.1.2.2.1 = 0) {k : Nat} (hk : 0 < k) : sysL f ln nn r k = sysL f ln (conN nn) (conM f ln nn r) (k - 1) := by
  rw [show k = (k - 1) + 1 by omega, sysL, if_pos h, Nat.add_sub_cancel]
theorem leP9_bd {ln : Nat} {t : PT} : leP9 ln t ≤ ln + 1 := by
  unfold leP9
  split <;> omega
theorem leP9_pos {ln : Nat} {t : PT} (h : okP ln t) (he : t.2.2.2.2 = -9) : 0 < leP9 ln t := by
  unfold leP9
  rw [if_pos he]
  have := h.1
  have := h.2.1
  omega
theorem okP_con1 {f : Nat → Int32} {ln : Nat} {t : PT} (h : okP ln t) : okP ln (con1 f ln t) := by
  unfold con1
  split
  · exact okP_take h
  · exact h
theorem con2_0 {f : Nat → Int32} {ln nn : Nat} {r : RS} : (con2 f ln nn r).2 0 = r.2 0 := bodM_0 (r := (con1 f ln r.1, r.2)) (by omega)
theorem con2_ok {f : Nat → Int32} {ln nn : Nat} {r : RS} (h : okP ln r.1) : okP ln (con2 f ln nn r).1 := (bodM_ok (r := (con1 f ln r.1, r.2)) (okP_con1 h)).1
theorem con3_ok {f : Nat → Int32} {ln nn : Nat} {r : RS} (h : okP ln r.1) : okP ln (con3 f ln nn r) := by
  unfold con3
  split
  · exact okP_take (okP_take (con2_ok h))
  · exact con2_ok h
theorem conN_le {nn : Nat} (h : nn ≤ 10) : conN nn ≤ 10 := by
  unfold conN
  split <;> omega
theorem sysL_0 {f : Nat → Int32} {ln : Nat} : ∀ k nn (r : RS), r.2 0 = nI nn → nn ≤ 10 → (sysL f ln nn r k).1.2 0 = nI (sysL f ln nn r k).2 ∧ (sysL f ln nn r k).2 ≤ 10
  | 0, nn, r, h, hn => ⟨h, hn⟩
  | k + 1, nn, r, h, hn => by
    unfold sysL
    split
    · exact sysL_0 k (conN nn) (conM f ln nn r) (conM_0 h) (conN_le hn)
    · exact ⟨h, hn⟩
theorem sysM_0 {f : Nat → Int32} {ln : Nat} {vl : Int32} {d : Nat → Int32} : (sysM f ln vl d).1.2 0 = nI (sysM f ln vl d).2 ∧ (sysM f ln vl d).2 ≤ 10 := sysL_0 (ln + 1) 0 (sys0 f ln vl d) rfl (by omega)
