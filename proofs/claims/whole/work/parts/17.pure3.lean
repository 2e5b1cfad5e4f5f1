/-! OUR PURE WORDS for the model -/
theorem bI_inj {a b : Bool} : bI a = bI b ↔ a = b := by cases a <;> cases b <;> simp [bI]
def inR (v lo hi : Int32) : Bool := !(decide (v < lo)) && !(decide (hi < v))
def hasI (s k : Int32) : Bool := ((s >>> (k &&& 31)) &&& 1) == 1
theorem hasI_nI (s : Int32) (k : Nat) : hasI s (nI k) = hasB s k := rfl
def bcM (x : Int32) : Nat → Int32
  | 0 => 0
  | k + 1 => bcM x k + ((x >>> (nI k &&& 31)) &&& 1)
def chA (f : Nat → Int32) (ln k : Nat) : Int32 := if k < ln then f k else -1
theorem inR_inB {k : Int32} {n : Nat} (hn : n < 2 ^ 31) : inR k 0 (nI n - 1) = inB k n := by
  unfold inR inB
  by_cases h : k < 0
  · simp [h]
  · obtain ⟨j, hj, rfl⟩ := nI_of h
    have e : (nI n - 1 < nI j) ↔ ¬ (nI j < nI n) := by
      rw [nI_ltI hj hn]
      rcases Nat.eq_zero_or_pos n with rfl | h0
      · have : (nI 0 - 1 : Int32).toInt = -1 := by decide
        rw [Int32.lt_iff_toInt_lt, this, nI_toInt hj]
        omega
      · have h1 : nI n - 1 = nI (n - 1) := nI_subW (a := n) (b := 1) h0
        rw [h1, nI_ltI (by omega) hj]
        omega
    by_cases h2 : nI j < nI n
    · have := mt e.mp (by simp [h2])
      simp [h, h2, this]
    · have := e.mpr h2
      simp [h, h2, this]
def softH (hd : Nat → Int32) : Nat → Int32
  | 0 => 0
  | i + 1 => if hd i = 0 then softH hd i ||| bitI i else softH hd i ||| 0
def emF (sf : Nat → Int32) : Nat → Int32 := va_up (va_up sf 2 0) 3 0
def sftF (hf : Nat → Int32) (k : Nat) : Nat → Int32 := fun j => if j < k then hf (568 + j) else hf j
def putF (hf sf : Nat → Int32) (b k : Nat) : Nat → Int32 := fun j => if b ≤ j ∧ j < b + k then sf (j - b) else hf j
/-- sf's first k places out of hf from b on -/
def gtF (sf hf : Nat → Int32) (b k : Nat) : Nat → Int32 := fun j => if j < k then hf (b + j) else sf j
def rmF (sf : Nat → Int32) (b i : Nat) : Nat → Int32 := fun j => if b ≤ j ∧ j < i then sf (j + 6) else sf j
theorem sftF_0 (hf : Nat → Int32) : sftF hf 0 = hf := by funext j; unfold sftF; rw [if_neg (by omega)]
theorem sftF_s (hf : Nat → Int32) (k : Nat) : va_up (sftF hf k) k (sftF hf k (568 + k)) = sftF hf (k + 1) := by
  funext j
  unfold va_up sftF
  by_cases h : j = k
  · subst h; rw [if_pos rfl, if_neg (by omega), if_pos (by omega)]
  · rw [if_neg h]
    by_cases h2 : j < k
    · rw [if_pos h2, if_pos (by omega)]
    · rw [if_neg h2, if_neg (by omega)]
theorem putF_0 (hf sf : Nat → Int32) (b : Nat) : putF hf sf b 0 = hf := by funext j; unfold putF; rw [if_neg (by omega)]
theorem putF_s (hf sf : Nat → Int32) (b k : Nat) : va_up (putF hf sf b k) (b + k) (sf k) = putF hf sf b (k + 1) := by
  funext j
  unfold va_up putF
  by_cases h : j = b + k
  · subst h; rw [if_pos rfl, if_pos (by omega), Nat.add_sub_cancel_left]
  · rw [if_neg h]
    by_cases h2 : b ≤ j ∧ j < b + k
    · rw [if_pos h2, if_pos (by omega)]
    · rw [if_neg h2, if_neg (by omega)]
theorem gtF_0 (sf hf : Nat → Int32) (b : Nat) : gtF sf hf b 0 = sf := by funext j; unfold gtF; rw [if_neg (by omega)]
theorem gtF_s (sf hf : Nat → Int32) (b k : Nat) : va_up (gtF sf hf b k) k (hf (b + k)) = gtF sf hf b (k + 1) := by
  funext j
  unfold va_up gtF
  by_cases h : j = k
  · subst h; rw [if_pos rfl, if_pos (by omega)]
  · rw [if_neg h]
    by_cases h2 : j < k
    · rw [if_pos h2, if_pos (by omega)]
    · rw [if_neg h2, if_neg (by omega)]
theorem rmF_0 (sf : Nat → Int32) (b : Nat) : rmF sf b b = sf := by funext j; unfold rmF; rw [if_neg (by omega)]
theorem rmF_s (sf : Nat → Int32) (b i : Nat) (h : b ≤ i) : va_up (rmF sf b i) i (rmF sf b i (i + 6)) = rmF sf b (i + 1) := by
  funext j
  unfold va_up rmF
  by_cases h1 : j = i
  · subst h1; rw [if_pos rfl, if_neg (by omega), if_pos (by omega)]
  · rw [if_neg h1]
    by_cases h2 : b ≤ j ∧ j < i
    · rw [if_pos h2, if_pos (by omega)]
    · rw [if_neg h2, if_neg (by omega)]
def pushF (hf sf : Nat → Int32) (ud : Nat) : Nat → Int32 := if ud = 5 then putF (sftF hf 2272) sf (568 * (ud - 1)) 568 else putF hf sf (568 * ud) 568
def pushU (ud : Nat) : Nat := if ud = 5 then ud - 1 + 1 else ud + 1
/-- how many literals of a constraint are true, of the variables below v -/
def cntM (vs ng : Int32) (a : Nat) : Nat → Int32
  | 0 => 0
  | v + 1 => if hasI vs (nI (v + 1)) = true ∧ (hasI (nI a) (nI v) != hasI ng (nI (v + 1))) = true then cntM vs ng a v + 1 else cntM vs ng a v + 0
def holdM (kd bd vs ng : Int32) (a : Nat) : Bool :=
  if kd = 0 then decide (0 < cntM vs ng a 6) else if kd = 1 then (cntM vs ng a 6 - cntM vs ng a 6 / 2 * 2 == 1) else !(decide (bd < cntM vs ng a 6))
abbrev cA (sf : Nat → Int32) (c w : Nat) : Int32 := sf (4 + 6 * c + w)
def holdC (sf : Nat → Int32) (c a : Nat) : Bool := holdM (cA sf c 0) (cA sf c 1) (cA sf c 2) (cA sf c 3) a
def vioM (sf : Nat → Int32) (a : Nat) : Nat → Int32
  | 0 => 0
  | c + 1 => if holdC sf c a = true then vioM sf a c ||| 0 else vioM sf a c ||| bitI c
def softS (sf : Nat → Int32) (n : Nat) : Int32 := softH (fun c => cA sf c 4) n
def hardS (sf : Nat → Int32) (n : Nat) : Int32 := (bitI n - 1) &&& notI (softS sf n)
def vlF (vf : Nat → Int32) (g : Nat → Int32) (i : Nat) : Nat → Int32 := fun j => if j < i then g j else vf j
theorem vlF_0 (vf g : Nat → Int32) : vlF vf g 0 = vf := by funext j; unfold vlF; rw [if_neg (by omega)]
theorem vlF_s (vf g : Nat → Int32) (k : Nat) : va_up (vlF vf g k) k (g k) = vlF vf g (k + 1) := by
  funext j
  unfold va_up vlF
  by_cases h : j = k
  · subst h; rw [if_pos rfl, if_pos (by omega)]
  · rw [if_neg h]
    by_cases h2 : j < k
    · rw [if_pos h2, if_pos (by omega)]
    · rw [if_neg h2, if_neg (by omega)]
def mdlU (p : Nat → Bool) (a : Nat) : Nat → Int32
  | 0 => -9
  | f + 1 => if p a = true then nI a else mdlU p (a + 1) f
def mdlM (vf : Nat → Int32) (rq sel : Int32) : Int32 := mdlU (fun a => vf a &&& (sel ||| rq) == 0) 0 64
def satM (vf : Nat → Int32) (rq sel : Int32) : Bool := !(mdlM vf rq sel == -9)
def growM (sat : Int32 → Bool) (hd : Nat → Int32) (sel : Int32) : Nat → Int32
  | 0 => sel
  | c + 1 => if hd c = 0 ∧ hasI (growM sat hd sel c) (nI c) = false ∧ sat (growM sat hd sel c ||| bitI c) = true then growM sat hd sel c ||| bitI c else growM sat hd sel c ||| 0
def shrM (sat : Int32 → Bool) (sel : Int32) : Nat → Int32
  | 0 => sel
  | c + 1 => if hasI (shrM sat sel c) (nI c) = true ∧ sat (shrM sat sel c &&& notI (bitI c)) = false then shrM sat sel c &&& notI (bitI c) else shrM sat sel c &&& (-1)
def crtM (sat : Int32 → Bool) (sel : Int32) : Nat → Int32
  | 0 => 0
  | c + 1 => if hasI sel (nI c) = true ∧ sat (sel &&& notI (bitI c)) = true then crtM sat sel c ||| bitI c else crtM sat sel c ||| 0
def mkB (p eg : Nat → Bool) (j : Nat) : Nat → Bool := fun z => if z < j then (eg z || p z) else eg z
theorem mkB_0 (p eg : Nat → Bool) : mkB p eg 0 = eg := by funext j; unfold mkB; rw [if_neg (by omega)]
theorem mkB_at (p eg : Nat → Bool) (j : Nat) : mkB p eg j j = eg j := by unfold mkB; rw [if_neg (by omega)]
theorem mkB_s (p eg : Nat → Bool) (j : Nat) {b : Bool} (h : b = (eg j || p j)) : va_up (mkB p eg j) j b = mkB p eg (j + 1) := by
  funext z
  unfold va_up mkB
  by_cases h1 : z = j
  · subst h1; rw [if_pos rfl, if_pos (by omega), h]
  · rw [if_neg h1]
    by_cases h2 : z < j
    · rw [if_pos h2, if_pos (by omega)]
    · rw [if_neg h2, if_neg (by omega)]
def iniB (p eg : Nat → Bool) (j : Nat) : Nat → Bool := fun z => if z < j then p z else eg z
theorem iniB_0 (p eg : Nat → Bool) : iniB p eg 0 = eg := by funext j; unfold iniB; rw [if_neg (by omega)]
theorem iniB_s (p eg : Nat → Bool) (j : Nat) {b : Bool} (h : b = p j) : va_up (iniB p eg j) j b = iniB p eg (j + 1) := by
  funext z
  unfold va_up iniB
  by_cases h1 : z = j
  · subst h1; rw [if_pos rfl, if_pos (by omega), h]
  · rw [if_neg h1]
    by_cases h2 : z < j
    · rw [if_pos h2, if_pos (by omega)]
    · rw [if_neg h2, if_neg (by omega)]
theorem upB (g : Nat → Bool) (j : Nat) (b : Bool) : va_up (fun z => bI (g z)) j (bI b) = fun z => bI (va_up g j b z) := by
  funext z
  unfold va_up
  by_cases h : z = j
  · rw [if_pos h, if_pos h]
  · rw [if_neg h, if_neg h]
def mAll (ps : Nat → Nat → Bool) (g : Nat → Bool) : Nat → (Nat → Bool)
  | 0 => g
  | k + 1 => mkB (ps k) (mAll ps g k) 1024
def supP (uf : Nat → Int32) : Nat → Nat → Bool := fun k z => subB (uf k) (nI z)
def subP (zf : Nat → Int32) : Nat → Nat → Bool := fun k z => subB (nI z) (zf k)
def mkAll (sf : Nat → Int32) (eg : Nat → Bool) (n un zn : Nat) : Nat → Bool :=
  mAll (subP fun k => sf (316 + k)) (mAll (supP fun k => sf (64 + k)) (iniB (fun z => !(subB (nI z) (softS sf n))) eg 1024) un) zn
def szM (st x : Int32) : Int32 := if st = 0 then bcM x 10 else -(bcM x 10)
def sdM (st : Int32) (eg : Nat → Bool) : Nat → Int32
  | 0 => -9
  | j + 1 => if eg j = true then sdM st eg j else (if sdM st eg j = -9 ∨ (if sdM st eg j = -9 then -9 else szM st (sdM st eg j)) < szM st (nI j) then nI j else sdM st eg j)
def cntU (eg : Nat → Bool) : Nat → Nat
  | 0 => 0
  | j + 1 => if eg j = true then cntU eg j + 0 else cntU eg j + 1
def mcM (vf : Nat → Int32) (x : Int32) : Nat → Nat
  | 0 => 0
  | a + 1 => if vf a &&& x = 0 then mcM vf x a + 1 else mcM vf x a + 0
def wtM (wf : Nat → Int32) (sel : Int32) : Nat → Int32
  | 0 => 0
  | c + 1 => if hasI sel (nI c) = true then wtM wf sel c + wf c else wtM wf sel c + 0
def hitM (uf : Nat → Int32) (sel : Int32) : Nat → Bool
  | 0 => true
  | k + 1 => if hitM uf sel k = true then !(sel &&& uf k == 0) else false
theorem hitM_f (uf : Nat → Int32) (sel : Int32) {k : Nat} (h : hitM uf sel k = false) : ∀ {n : Nat}, k ≤ n → hitM uf sel n = false := by
  intro n hk
  induction n with
  | zero => rw [← h, show k = 0 by omega]
  | succ n ih =>
    rcases Nat.lt_or_ge n k with h1 | h1
    · rw [← h, show k = n + 1 by omega]
    · unfold hitM
      rw [ih h1]
      rfl
def hsM (cost : Nat → Int32) (p hits : Nat → Bool) : Nat → Int32 × Int32
  | 0 => (-9, 0)
  | j + 1 => if p j = true ∧ ((hsM cost p hits j).1 = -9 ∨ cost j < (hsM cost p hits j).2) ∧ hits j = true then (nI j, cost j) else ((hsM cost p hits j).1, (hsM cost p hits j).2)
def hvM (cost : Nat → Int32) (p sat : Nat → Bool) : Nat → Int32 × Int32
  | 0 => (-9, 0)
  | j + 1 => if p j = true ∧ ((hvM cost p sat j).1 = -9 ∨ (hvM cost p sat j).2 < cost j) ∧ sat j = true then (nI j, cost j) else ((hvM cost p sat j).1, (hvM cost p sat j).2)
def blM (uf : Nat → Int32) (k : Nat) : Nat → Int32
  | 0 => 0
  | i + 1 => if hasI (uf i) (nI k) = true then blM uf k i + 1000 / bcM (uf i) 10 else blM uf k i + 0
def gtM (f : Nat → Int32) (n : Nat) (k : Int32) : Int32 := if k < 0 then -1 else getF f n k
def gM (vf : Nat → Int32) (rq : Int32) (sf : Nat → Int32) (n : Nat) (x : Int32) : Int32 := growM (satM vf rq) (fun c => cA sf c 4) x n
def sM (vf : Nat → Int32) (rq : Int32) (n : Nat) (x : Int32) : Int32 := shrM (satM vf rq) x n
def prS (vf : Nat → Int32) (rq : Int32) (sf : Nat → Int32) (n un zn : Nat) (x : Int32) : Nat → Int32 :=
  if satM vf rq x = true then va_up (va_up sf (316 + zn) (gM vf rq sf n x)) 3 (nI (zn + 1)) else va_up (va_up sf (64 + un) (sM vf rq n x)) 2 (nI (un + 1))
def prE (vf : Nat → Int32) (rq : Int32) (sf : Nat → Int32) (n : Nat) (x : Int32) (eg : Nat → Bool) : Nat → Bool :=
  if satM vf rq x = true then mkB (fun z => subB (nI z) (gM vf rq sf n x)) eg 1024 else mkB (fun z => subB (sM vf rq n x) (nI z)) eg 1024
def prU (vf : Nat → Int32) (rq : Int32) (un : Nat) (x : Int32) : Nat := if satM vf rq x = true then un else un + 1
def prZ (vf : Nat → Int32) (rq : Int32) (zn : Nat) (x : Int32) : Nat := if satM vf rq x = true then zn + 1 else zn
abbrev TM : Type := (Nat → Int32) × (Nat → Bool) × Nat × Nat
def sdT (t : TM) : Int32 := sdM (t.1 1) t.2.1 1024
def stT (vf : Nat → Int32) (rq : Int32) (n : Nat) (t : TM) : TM := (prS vf rq t.1 n t.2.2.1 t.2.2.2 (sdT t), prE vf rq t.1 n (sdT t) t.2.1, prU vf rq t.2.2.1 (sdT t), prZ vf rq t.2.2.2 (sdT t))
def itM (vf : Nat → Int32) (rq : Int32) (n : Nat) (t : TM) : Nat → TM
  | 0 => t
  | k + 1 => stT vf rq n (itM vf rq n t k)
/-- a state of the model that may be stepped on -/
def okT (n : Nat) (t : TM) : Prop := t.1 0 = nI n ∧ t.1 2 = nI t.2.2.1 ∧ t.1 3 = nI t.2.2.2 ∧ t.2.2.1 ≤ 252 ∧ t.2.2.2 ≤ 252
def roT (vf : Nat → Int32) (rq : Int32) (t : TM) : Prop := (satM vf rq (sdT t) = true → t.2.2.2 < 252) ∧ (satM vf rq (sdT t) = false → t.2.2.1 < 252)
theorem okT_s {vf : Nat → Int32} {rq : Int32} {n : Nat} {t : TM} (h : okT n t) (hr : roT vf rq t) : okT n (stT vf rq n t) := by
  obtain ⟨h0, h2, h3, hu, hz⟩ := h
  unfold okT stT prS prU prZ
  dsimp only
  by_cases hs : satM vf rq (sdT t) = true
  · have := hr.1 hs
    simp only [hs, if_true]
    refine ⟨?_, ?_, ?_, hu, by omega⟩
    · simp only [va_up]; rw [if_neg (by omega), if_neg (by omega)]; exact h0
    · simp only [va_up]; rw [if_neg (by omega), if_neg (by omega)]; exact h2
    · simp [va_up]
  · have hs' : satM vf rq (sdT t) = false := by simpa using hs
    have := hr.2 hs'
    simp only [hs', if_false, Bool.false_eq_true]
    refine ⟨?_, ?_, ?_, by omega, hz⟩
    · simp only [va_up]; rw [if_neg (by omega), if_neg (by omega)]; exact h0
    · simp [va_up]
    · simp only [va_up]; rw [if_neg (by omega), if_neg (by omega)]; exact h3
