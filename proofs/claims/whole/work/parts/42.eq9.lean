/-! the other answers; what changes a state keeps the relation -/
section OTH
variable {md : Nat → Int64} {wt : Nat → Int32} {n : Nat} {uf : Nat → Int32} {un : Nat} {zf : Nat → Int32} {zn : Nat} {xf : Nat → Int64} {st : Int32} {sf : Nat → Int32}
theorem Rst.congr {sf2 : Nat → Int32} (h : Rst md wt n uf un zf zn xf st sf) (e : ∀ k, k < 568 → sf2 k = sf k) : Rst md wt n uf un zf zn xf st sf2 := by
  obtain ⟨hc, hu, hz, hx, h1, h2, h3, h4, h5, h6⟩ := h
  have hun := hu.1
  have hzn := hz.1
  exact ⟨hc.congr (e 0 (by omega)) (fun k _ hk => e k (by omega)), hu, hz, hx, (e 1 (by omega)).trans h1, h2, (e 2 (by omega)).trans h3, (e 3 (by omega)).trans h4, fun i hi => (e _ (by omega)).trans (h5 i hi), fun i hi => (e _ (by omega)).trans (h6 i hi)⟩
theorem exB_z (xf : Nat → Int64) {j : Nat} (hj : j < 1024) : exB (zF xf 16) j = false := by
  unfold exB zF
  rw [if_pos (by omega)]
  exact bitL_0all.mp rfl _ (by omega)
theorem mOk.zero (Q : Nat → Prop) (f : Nat → Int32) : mOk Q f 0 := ⟨by omega, fun _ => 0, fun i hi => by omega, fun i j hi => by omega⟩
theorem Rst.reset (uf zf : Nat → Int32) (xf : Nat → Int64) (hc : cOk md wt n sf) (h1 : sf 1 = st) (hst : st = 0 ∨ st = 1) (h2 : sf 2 = 0) (h3 : sf 3 = 0) : Rst md wt n uf 0 zf 0 (zF xf 16) st sf :=
  ⟨hc, mOk.zero _ _, mOk.zero _ _, fun j hj _ => exB_z xf hj, h1, hst, h2, h3, fun i hi => by omega, fun i hi => by omega⟩
theorem emF_at {k : Nat} (h : k ≠ 2) (h3 : k ≠ 3) : emF sf k = sf k := by unfold emF; rw [va_upN h3, va_upN h]
theorem emF_2 : emF sf 2 = 0 := by unfold emF; rw [va_upN (by decide), va_upE rfl]
theorem emF_3 : emF sf 3 = 0 := by unfold emF; rw [va_upE rfl]
/-- remove -/
theorem Rst.remove (h : Rst md wt n uf un zf zn xf st sf) {j : Nat} (hj : j < n) : Rst (dlF md j (n - 1)) (dlF wt j (n - 1)) (n - 1) uf 0 zf 0 (zF xf 16) st (emF (va_up (rmF sf (4 + 6 * j) 58) 0 (nI (n - 1)))) := by
  obtain ⟨hc, hu, hz, hx, h1, h2, -⟩ := h
  obtain ⟨hn, -, hi⟩ := hc
  refine Rst.reset uf zf xf ⟨by omega, ?_, fun i hin => ?_⟩ ?_ h2 emF_2 emF_3
  · rw [emF_at (by decide) (by decide), va_upE rfl]
  · have key : ∀ w, w < 6 → cA (emF (va_up (rmF sf (4 + 6 * j) 58) 0 (nI (n - 1)))) i w = cA sf (if j ≤ i then i + 1 else i) w := fun w hw => by
      unfold cA
      rw [emF_at (by omega) (by omega), va_upN (by omega)]
      unfold rmF
      by_cases hji : j ≤ i
      · rw [if_pos ⟨by omega, by omega⟩, if_pos hji]
        congr 1
        omega
      · rw [if_neg (by omega), if_neg hji]
    have em : dlF md j (n - 1) i = md (if j ≤ i then i + 1 else i) := by
      unfold dlF
      by_cases hji : j ≤ i
      · rw [if_pos ⟨hji, hin⟩, if_pos hji]
      · rw [if_neg (fun h9 => hji h9.1), if_neg hji]
    have ew : dlF wt j (n - 1) i = wt (if j ≤ i then i + 1 else i) := by
      unfold dlF
      by_cases hji : j ≤ i
      · rw [if_pos ⟨hji, hin⟩, if_pos hji]
      · rw [if_neg (fun h9 => hji h9.1), if_neg hji]
    have hlt : (if j ≤ i then i + 1 else i) < n := by split <;> omega
    have := hi _ hlt
    rw [em, ew]
    unfold holdC
    rw [key 0 (by omega), key 1 (by omega), key 2 (by omega), key 3 (by omega), key 4 (by omega), key 5 (by omega)]
    exact this
  · rw [emF_at (by decide) (by decide), va_upN (by decide)]
    unfold rmF
    rw [if_neg (by omega)]
    exact h1
/-- setHard -/
theorem Rst.setHard (h : Rst md wt n uf un zf zn xf st sf) {j : Nat} (hj : j < n) (b : Bool) : Rst md (va_up wt j (if b = true then 0 else 1)) n uf 0 zf 0 (zF xf 16) st (emF (va_up (va_up sf (4 + 6 * j + 4) (bI b)) (4 + 6 * j + 5) (1 - bI b))) := by
  obtain ⟨hc, hu, hz, hx, h1, h2, -⟩ := h
  obtain ⟨hn, hc0, hi⟩ := hc
  refine Rst.reset uf zf xf ⟨hn, ?_, fun i hin => ?_⟩ ?_ h2 emF_2 emF_3
  · rw [emF_at (by decide) (by decide), va_upN (by omega), va_upN (by omega)]; exact hc0
  · have key : ∀ w, w < 6 → (i ≠ j ∨ w < 4) → cA (emF (va_up (va_up sf (4 + 6 * j + 4) (bI b)) (4 + 6 * j + 5) (1 - bI b))) i w = cA sf i w := fun w hw hne => by
      unfold cA
      rw [emF_at (by omega) (by omega), va_upN (by omega), va_upN (by omega)]
    have p := hi i hin
    have hh : ∀ a, holdC (emF (va_up (va_up sf (4 + 6 * j + 4) (bI b)) (4 + 6 * j + 5) (1 - bI b))) i a = holdC sf i a := fun a => by
      unfold holdC
      rw [key 0 (by omega) (Or.inr (by omega)), key 1 (by omega) (Or.inr (by omega)), key 2 (by omega) (Or.inr (by omega)), key 3 (by omega) (Or.inr (by omega))]
    by_cases e : i = j
    · subst e
      have e4 : cA (emF (va_up (va_up sf (4 + 6 * i + 4) (bI b)) (4 + 6 * i + 5) (1 - bI b))) i 4 = bI b := by
        unfold cA
        rw [emF_at (by omega) (by omega), va_upN (by omega), va_upE rfl]
      have e5 : cA (emF (va_up (va_up sf (4 + 6 * i + 4) (bI b)) (4 + 6 * i + 5) (1 - bI b))) i 5 = 1 - bI b := by
        unfold cA
        rw [emF_at (by omega) (by omega), va_upE rfl]
      rw [va_upE rfl, e4, e5]
      refine ⟨by cases b <;> rfl, ?_, ?_, fun a ha => (hh a).trans (p.2.2.2 a ha)⟩
      · cases b
        · exact Or.inl ⟨rfl, by decide⟩
        · exact Or.inr ⟨rfl, rfl⟩
      · cases b
        · exact ⟨1, by omega, rfl⟩
        · exact ⟨0, by omega, rfl⟩
    · rw [va_upN e, key 4 (by omega) (Or.inl e), key 5 (by omega) (Or.inl e)]
      exact ⟨p.1, p.2.1, p.2.2.1, fun a ha => (hh a).trans (p.2.2.2 a ha)⟩
  · rw [emF_at (by decide) (by decide), va_upN (by omega), va_upN (by omega)]; exact h1
theorem bc_soft (h : cOk md wt n sf) : bcM (softS sf n) 10 = bcI (softM wt n) := by
  rw [h.soft, softM_nI wt n (by have := h.1; omega), bc_eq _ (softN_1024 wt h.1)]
/-- setWeight: what is satisfiable stays -/
theorem modsOf_w {wt2 : Nat → Int32} {sel : Int32} : ∀ n, (∀ i, i < n → (wt2 i = 0 ↔ wt i = 0)) → modsOf md wt2 sel n = modsOf md wt sel n
  | 0, _ => rfl
  | n + 1, h => by
    unfold modsOf
    rw [modsOf_w n (fun i hi => h i (by omega))]
    have := h n (by omega)
    by_cases hc : wt n = 0 ∨ hasB sel n = true
    · rw [if_pos hc, if_pos (by rw [this]; exact hc)]
    · rw [if_neg hc, if_neg (by rw [this]; exact hc)]
theorem softN_w {wt2 : Nat → Int32} : ∀ n, (∀ i, i < n → (wt2 i = 0 ↔ wt i = 0)) → softN wt2 n = softN wt n
  | 0, _ => rfl
  | n + 1, h => by
    unfold softN
    rw [softN_w n (fun i hi => h i (by omega))]
    have := h n (by omega)
    by_cases hc : wt n = 0
    · rw [if_pos hc, if_pos (this.mpr hc)]
    · rw [if_neg hc, if_neg (fun h9 => hc (this.mp h9))]
theorem inR_19 {x : Int32} (h : inR x 1 9 = true) : ∃ w, 1 ≤ w ∧ w ≤ 9 ∧ x = nI w := by
  unfold inR at h
  rw [Bool.and_eq_true] at h
  have h1 : ¬ x < 1 := by simpa using h.1
  have h2 : ¬ 9 < x := by simpa using h.2
  have h0 : ¬ x < 0 := fun h9 => h1 (by
    rw [Int32.lt_iff_toInt_lt] at h9 ⊢
    have e0 : (0 : Int32).toInt = 0 := rfl
    have e1 : (1 : Int32).toInt = 1 := rfl
    omega)
  obtain ⟨w, hw, rfl⟩ := nI_of h0
  refine ⟨w, ?_, ?_, rfl⟩
  · have : ¬ nI w < nI 1 := h1
    rw [nI_ltI hw (by decide)] at this
    omega
  · have : ¬ nI 9 < nI w := h2
    rw [nI_ltI (by decide) hw] at this
    omega
theorem Rst.setWeight (h : Rst md wt n uf un zf zn xf st sf) {j : Nat} {x : Int32} (hj : j < n) (hx9 : inR x 1 9 = true) (hw : ¬ wt j = 0) : Rst md (va_up wt j x) n uf un zf zn xf st (va_up sf (4 + 6 * j + 5) x) := by
  obtain ⟨hc, hu, hz, hx, h1, h2, h3, h4, h5, h6⟩ := h
  obtain ⟨w, hw1, hw9, ex⟩ := inR_19 hx9
  have hx0 : ¬ x = 0 := fun h9 => by
    rw [ex, ← nI_0, nI_eq (by omega) (by omega)] at h9
    omega
  have hz0 : ∀ i, i < n → (va_up wt j x i = 0 ↔ wt i = 0) := fun i hi => by
    by_cases e : i = j
    · subst e
      rw [va_upE rfl]
      exact ⟨fun h9 => absurd h9 hx0, fun h9 => absurd h9 hw⟩
    · rw [va_upN e]
  have eS : SA md (va_up wt j x) n = SA md wt n := funext fun z => by
    show satB _ _ _ _ = satB _ _ _ _
    unfold satB
    rw [modsOf_w n hz0]
  have hun := hu.1
  have hzn := hz.1
  have hn := hc.1
  refine ⟨⟨hc.1, ?_, fun i hin => ?_⟩, ?_, ?_, ?_, ?_, h2, ?_, ?_, fun i hi => ?_, fun i hi => ?_⟩
  · rw [va_upN (by omega)]; exact hc.2.1
  · have p := hc.2.2 i hin
    have key : ∀ v, v < 6 → (i ≠ j ∨ v < 5) → cA (va_up sf (4 + 6 * j + 5) x) i v = cA sf i v := fun v hv hne => by
      unfold cA
      rw [va_upN (by omega)]
    have hh : ∀ a, holdC (va_up sf (4 + 6 * j + 5) x) i a = holdC sf i a := fun a => by
      unfold holdC
      rw [key 0 (by omega) (Or.inr (by omega)), key 1 (by omega) (Or.inr (by omega)), key 2 (by omega) (Or.inr (by omega)), key 3 (by omega) (Or.inr (by omega))]
    rw [key 4 (by omega) (Or.inr (by omega))]
    by_cases e : i = j
    · subst e
      rw [va_upE rfl]
      refine ⟨?_, ?_, ⟨w, hw9, ex⟩, fun a ha => (hh a).trans (p.2.2.2 a ha)⟩
      · unfold cA; rw [va_upE rfl]
      · rcases p.2.1 with q | q
        · exact Or.inl ⟨q.1, hx0⟩
        · exact absurd q.2 hw
    · rw [va_upN e, key 5 (by omega) (Or.inl e)]
      exact ⟨p.1, p.2.1, p.2.2.1, fun a ha => (hh a).trans (p.2.2.2 a ha)⟩
  · rw [eS, softN_w n hz0]; exact hu
  · rw [eS, softN_w n hz0]; exact hz
  · rw [softN_w n hz0]; exact hx
  · rw [va_upN (by omega)]; exact h1
  · rw [va_upN (by omega)]; exact h3
  · rw [va_upN (by omega)]; exact h4
  · rw [va_upN (by omega)]; exact h5 i hi
  · rw [va_upN (by omega)]; exact h6 i hi
theorem Rst.setStrategy (h : Rst md wt n uf un zf zn xf st sf) {x : Int32} (hx : x = 0 ∨ x = 1) : Rst md wt n uf un zf zn xf x (va_up sf 1 x) := by
  obtain ⟨hc, hu, hz, hxx, h1, h2, h3, h4, h5, h6⟩ := h
  exact ⟨hc.congr (by rw [va_upN (by decide)]) (fun k hk1 hk2 => by rw [va_upN (by omega)]), hu, hz, hxx, va_upE rfl, hx, by rw [va_upN (by decide)]; exact h3, by rw [va_upN (by decide)]; exact h4, fun i hi => by rw [va_upN (by omega)]; exact h5 i hi, fun i hi => by rw [va_upN (by omega)]; exact h6 i hi⟩
/-- hitting sets -/
theorem Rst.hit (h : Rst md wt n uf un zf zn xf st sf) {c1 c2 : Nat → Int32} (hcc : ∀ j, j < 1024 → c1 j = c2 j) : (hsM c1 (fun z => subB (nI z) (softS sf n)) (fun z => hitM (fun k => sf (64 + k)) (nI z) un) 1024).1 = (lhsF c2 (fun z => subB (nI z) (nI (softN wt n))) (fun z => allU (fun y => !(uf y &&& nI z == 0)) 0 un) (softN wt n + 1)).1 := by
  obtain ⟨hc, hu, hz, hxx, h1, h2, h3, h4, h5, h6⟩ := h
  have hs := softN_1024 wt hc.1
  rw [hsM_eq (q2 := fun z => subB (nI z) (nI (softN wt n))) (h2 := fun z => allU (fun y => !(uf y &&& nI z == 0)) 0 un) hcc (fun j _ => by rw [hc.softI]) (fun j _ => hits_eq (fun k hk => (h5 k hk).symm)) 1024 (Nat.le_refl _)]
  have e : 1024 = softN wt n + 1 + (1024 - (softN wt n + 1)) := by omega
  rw [e, lhsF_past _ _ _ (1024 - (softN wt n + 1))]
  intro j g2 g3
  cases hq : subB (nI j) (nI (softN wt n)) with
  | false => rfl
  | true =>
    have := sub_le (by omega) hs hq
    omega
theorem Rst.small (h : Rst md wt n uf un zf zn xf st sf) : (hsM (fun z => bcM (nI z) 10) (fun z => subB (nI z) (softS sf n)) (fun z => hitM (fun k => sf (64 + k)) (nI z) un) 1024).1 = (lhsF (fun z => bcI (nI z)) (fun z => subB (nI z) (nI (softN wt n))) (fun z => allU (fun y => !(uf y &&& nI z == 0)) 0 un) (softN wt n + 1)).1 := h.hit fun j hj => (bc_eq j hj).symm
theorem Rst.cheap (h : Rst md wt n uf un zf zn xf st sf) : (hsM (fun z => wtM (fun c => cA sf c 5) (nI z) n) (fun z => subB (nI z) (softS sf n)) (fun z => hitM (fun k => sf (64 + k)) (nI z) un) 1024).1 = (lhsF (fun z => totW wt (nI z) n) (fun z => subB (nI z) (nI (softN wt n))) (fun z => allU (fun y => !(uf y &&& nI z == 0)) 0 un) (softN wt n + 1)).1 := h.hit fun j _ => wtM_eq n fun i hi => ((h.1.2.2 i hi).1).symm
theorem Rst.ulist (h : Rst md wt n uf un zf zn xf st sf) : ∀ i, i < un → uf i = sf (64 + i) ∧ ∃ j, j < 1024 ∧ uf i = nI j := fun i hi => by
  obtain ⟨hc, ⟨-, U, hU, -⟩, hz, hxx, h1, h2, h3, h4, h5, h6⟩ := h
  exact ⟨(h5 i hi).symm, U i, (hU i hi).2.1, (hU i hi).1⟩
theorem Rst.blame (h : Rst md wt n uf un zf zn xf st sf) {k : Nat} (hk : k < n) : blM (fun z => sf (64 + z)) k un = blamF uf k un := blM_eq (by have := h.1.1; omega) un h.ulist
theorem Rst.blame0 (h : Rst md wt n uf un zf zn xf st sf) {k : Nat} (hk : k < n) : ∀ i, i < un → hasI (sf (64 + i)) (nI k) = true → bcM (sf (64 + i)) 10 ≠ 0 := fun i hi hq => by
  have := h.1.1
  obtain ⟨e, j, hj, ej⟩ := h.ulist i hi
  rw [← e, ej] at hq ⊢
  exact (bc_pos j hj k (by omega) hq).2
theorem gtM_eq {f g : Nat → Int32} {m : Nat} {k : Int32} (hm : m ≤ 252) (h : ∀ i, i < m → f i = g i) : gtM f m k = gtM g m k := by
  unfold gtM getF
  by_cases h1 : k < 0
  · rw [if_pos h1, if_pos h1]
  · rw [if_neg h1, if_neg h1]
    by_cases h2 : inB k m = true
    · rw [if_pos h2, if_pos h2]
      obtain ⟨j, hj, rfl⟩ := inB_t (by omega) h2
      rw [nI_clamp (by omega)]
      exact h j hj
    · rw [if_neg h2, if_neg h2]
theorem Rst.mus (h : Rst md wt n uf un zf zn xf st sf) (k : Int32) : gtM (fun z => sf (64 + z)) un k = gtM uf un k := gtM_eq h.2.1.1 h.2.2.2.2.2.2.2.2.1
theorem Rst.mss (h : Rst md wt n uf un zf zn xf st sf) (k : Int32) : gtM (fun z => sf (316 + z)) zn k = gtM zf zn k := gtM_eq h.2.2.1.1 h.2.2.2.2.2.2.2.2.2
theorem Rst.crit (h : Rst md wt n uf un zf zn xf st sf) (vf : Nat → Int32) (sel : Int32) : crtM (satM (vlF vf (fun zz => vioM sf zz n) 64) (hardS sf n)) sel n = critF (satB md wt n) sel n := by
  rw [h.1.satF]
  exact crtM_eq n (by have := h.1.1; omega)
end OTH
