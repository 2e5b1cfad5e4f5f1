/-! ONE STEP keeps the relation; finish -/
theorem va_upE {α : Type} {f : Nat → α} {k : Nat} {v : α} {j : Nat} (h : j = k) : va_up f k v j = v := by unfold va_up; rw [if_pos h]
theorem va_upN {α : Type} {f : Nat → α} {k : Nat} {v : α} {j : Nat} (h : j ≠ k) : va_up f k v j = f j := by unfold va_up; rw [if_neg h]
section STP
variable {md : Nat → Int64} {wt : Nat → Int32} {n : Nat} {sf : Nat → Int32}
theorem cOk.congr {sf2 : Nat → Int32} (h : cOk md wt n sf) (h0 : sf2 0 = sf 0) (h4 : ∀ k, 4 ≤ k → k < 64 → sf2 k = sf k) : cOk md wt n sf2 := by
  obtain ⟨hn, hc, hi⟩ := h
  refine ⟨hn, h0.trans hc, fun i hin => ?_⟩
  have e : ∀ w, w < 6 → cA sf2 i w = cA sf i w := fun w hw => h4 _ (by omega) (by omega)
  obtain ⟨p1, p2, p3, p4⟩ := hi i hin
  refine ⟨by rw [e 5 (by omega)]; exact p1, by rw [e 4 (by omega)]; exact p2, p3, fun a ha => ?_⟩
  unfold holdC
  rw [e 0 (by omega), e 1 (by omega), e 2 (by omega), e 3 (by omega)]
  exact p4 a ha
theorem mark_g {xf : Nat → Int64} {g j : Nat} (hg : g < 1024) (hj : j < 1024) : exB (markF (fun z => subB (nI z) (nI g)) xf 0 (g + 1)) j = (exB xf j || subB (nI j) (nI g)) := by
  rw [exB_mark]
  cases hs : subB (nI j) (nI g) with
  | false => simp
  | true =>
    have := sub_le hj hg hs
    rw [decide_eq_true (Nat.zero_le j), decide_eq_true (show j < 0 + (g + 1) by omega)]
    simp
theorem and_eq {s j : Nat} (hs : s < 1024) (hj : j < 1024) : (nI j &&& nI s == nI s) = subB (nI s) (nI j) := by
  have key : (nI j &&& nI s = nI s) ↔ subB (nI s) (nI j) = true := by
    rw [sub_iff hs hj, nx_and, nI_eq (Nat.lt_of_le_of_lt Nat.and_le_right (by omega)) (by omega), Nat.and_comm]
  cases h : subB (nI s) (nI j) with
  | true => rw [key.mpr h]; exact beq_self_eq_true _
  | false => exact beq_eq_false_iff_ne.mpr fun h9 => by rw [key.mp h9] at h; cases h
theorem mark_s {xf : Nat → Int64} {sm s j : Nat} (hsm : sm < 1024) (hs : s < 1024) (hj : j < 1024) (hv : subB (nI j) (nI sm) = true) : exB (markF (fun z => subB (nI z) (nI sm) && (nI z &&& nI s == nI s)) xf s (sm + 1 - s)) j = (exB xf j || subB (nI s) (nI j)) := by
  rw [exB_mark]
  show (exB xf j || (decide (s ≤ j) && decide (j < s + (sm + 1 - s)) && (subB (nI j) (nI sm) && (nI j &&& nI s == nI s)))) = _
  rw [and_eq hs hj, hv]
  cases h : subB (nI s) (nI j) with
  | false => simp
  | true =>
    have h1 := sub_le hs hj h
    have h2 := sub_le hj hsm hv
    rw [decide_eq_true h1, decide_eq_true (show j < s + (sm + 1 - s) by omega)]
    simp
theorem cov_u {uf : Nat → Int32} {un : Nat} {zf : Nat → Int32} {zn j : Nat} {x : Int32} : covB (va_up uf un x) (un + 1) zf zn j = (covB uf un zf zn j || subB x (nI j)) := by
  unfold covB
  show (anyL (fun k => subB (va_up uf un x k) (nI j)) un || subB (va_up uf un x un) (nI j) || _) = _
  rw [anyL_congr (q := fun k => subB (uf k) (nI j)) un (fun k hk => by rw [va_upN (show k ≠ un by omega)]), va_upE rfl]
  cases anyL (fun k => subB (uf k) (nI j)) un <;> cases subB x (nI j) <;> cases anyL (fun k => subB (nI j) (zf k)) zn <;> rfl
theorem cov_z {uf : Nat → Int32} {un : Nat} {zf : Nat → Int32} {zn j : Nat} {x : Int32} : covB uf un (va_up zf zn x) (zn + 1) j = (covB uf un zf zn j || subB (nI j) x) := by
  unfold covB
  show (_ || (anyL (fun k => subB (nI j) (va_up zf zn x k)) zn || subB (nI j) (va_up zf zn x zn))) = _
  rw [anyL_congr (q := fun k => subB (nI j) (zf k)) zn (fun k hk => by rw [va_upN (show k ≠ zn by omega)]), va_upE rfl]
  cases anyL (fun k => subB (uf k) (nI j)) un <;> cases subB (nI j) x <;> cases anyL (fun k => subB (nI j) (zf k)) zn <;> rfl
variable {uf : Nat → Int32} {un : Nat} {zf : Nat → Int32} {zn : Nat} {xf : Nat → Int64} {st : Int32}
theorem cov_f {j : Nat} (h : covB uf un zf zn j = false) : (∀ i, i < un → subB (uf i) (nI j) = false) ∧ ∀ i, i < zn → subB (nI j) (zf i) = false := by
  unfold covB at h
  rw [Bool.or_eq_false_iff] at h
  refine ⟨fun i hi => ?_, fun i hi => ?_⟩
  · cases hq : subB (uf i) (nI j) with
    | false => rfl
    | true => rw [(anyL_t un).mpr ⟨i, hi, hq⟩] at h; exact absurd h.1 (by decide)
  · cases hq : subB (nI j) (zf i) with
    | false => rfl
    | true => rw [(anyL_t zn).mpr ⟨i, hi, hq⟩] at h; exact absurd h.2 (by decide)
/-- the step itself; vp rq: what prepare left -/
theorem Rst.stp {vp : Nat → Int32} {rq : Int32} {x : Nat} (h : Rst md wt n uf un zf zn xf st sf) (hV : satM vp rq = satB md wt n) (hx : x < 1024) (hxs : x &&& softN wt n = x) (hcv : covB uf un zf zn x = false) :
    (satB md wt n (nI x) = true → zn < 252) ∧ (satB md wt n (nI x) = false → un < 252) ∧
    Rst md wt n (exU md wt n uf un x) (exUn md wt n un x) (exZ md wt n zf zn x) (exZn md wt n zn x) (exX md wt n xf x) st (prS vp rq sf n un zn (nI x)) ∧
    prU vp rq un (nI x) = exUn md wt n un x ∧ prZ vp rq zn (nI x) = exZn md wt n zn x ∧
    ∀ eg : Nat → Bool, (∀ j, j < 1024 → eg j = !(subB (nI j) (nI (softN wt n)) && !exB xf j)) → ∀ j, j < 1024 → prE vp rq sf n (nI x) eg j = !(subB (nI j) (nI (softN wt n)) && !exB (exX md wt n xf x) j) := by
  obtain ⟨hc, hu, hz, hex, h1, h2, h3, h4, h5, h6⟩ := h
  have hn := hc.1
  have hsm := softN_1024 wt hn
  have hm := hc.mono
  obtain ⟨cf1, cf2⟩ := cov_f hcv
  have hsl : softN wt n < 2 ^ n := softN_lt wt n
  have egM : gM vp rq sf n (nI x) = growF (satB md wt n) (softM wt n) (nI x) n := by
    show growM _ _ _ _ = _
    rw [hV]
    exact growM_eq (by omega) hc.hd n (Nat.le_refl n)
  have esM : sM vp rq n (nI x) = shrinkF (satB md wt n) (nI x) n := by
    show shrM _ _ _ = _
    rw [hV]
    exact shrM_eq n (by omega)
  unfold exU exUn exZ exZn exX prS prU prZ prE
  rw [hV]
  by_cases hs : satB md wt n (nI x) = true
  · simp only [if_pos hs]
    obtain ⟨e1, hg⟩ := gC_eq (md := md) (wt := wt) hn hx
    have e2 := gC_gN hn (show SA md wt n x = true from hs) hxs
    obtain ⟨m1, m2⟩ := gN_mss (n := n) hm (show SA md wt n x = true from hs) hxs hsl
    rw [← e2] at m1 m2
    rw [egM, e1]
    generalize gC md wt n x = g at hg m1 m2
    have hne : ∀ i, i < zn → zf i ≠ nI g := fun i hi h9 => by
      have := cf2 i hi
      rw [h9, (sub_iff hx hg).mpr m2] at this
      cases this
    have hroom : zn < 252 := hz.room hg m1 hne (fun a b ha hb hab => mss_apart ha hb hab)
    refine ⟨fun _ => hroom, fun h9 => absurd (hs.symm.trans h9) (by decide), ⟨hc.congr (by rw [va_upN (by decide), va_upN (by omega)]) (fun k hk1 hk2 => by rw [va_upN (by omega), va_upN (by omega)]), hu, hz.push hroom hg m1 hne, fun j hj hjs => ?_, ?_, h2, ?_, va_upE rfl, fun i hi => ?_, fun i hi => ?_⟩, trivial, trivial, fun eg heg j hj => ?_⟩
    · rw [mark_g hg hj, cov_z, hex j hj hjs]
    · rw [va_upN (by decide), va_upN (by omega)]; exact h1
    · rw [va_upN (by decide), va_upN (by omega)]; exact h3
    · have := hu.1
      rw [va_upN (by omega), va_upN (by omega)]; exact h5 i hi
    · rw [va_upN (by omega)]
      by_cases e : i = zn
      · rw [va_upE (by omega), va_upE e]
      · rw [va_upN (by omega), va_upN e]; exact h6 i (by omega)
    · unfold mkB
      rw [if_pos hj, heg j hj, mark_g hg hj]
      dsimp only
      cases hq : subB (nI j) (nI (softN wt n)) with
      | true => cases exB xf j <;> cases subB (nI j) (nI g) <;> rfl
      | false => rfl
  · simp only [if_neg hs]
    have hs : satB md wt n (nI x) = false := by simpa using hs
    obtain ⟨e1, hg⟩ := sC_eq (md := md) (wt := wt) hn hx
    have e2 := sC_sN hn (show SA md wt n x = false from hs) hx
    obtain ⟨m1, m2⟩ := sN_mus (n := n) hm (show SA md wt n x = false from hs) hxs hsl
    rw [← e2] at m1 m2
    rw [esM, e1]
    generalize sC md wt n x = g at hg m1 m2
    have hg : g < 1024 := by omega
    have hne : ∀ i, i < un → uf i ≠ nI g := fun i hi h9 => by
      have := cf1 i hi
      rw [h9, (sub_iff hg hx).mpr m2] at this
      cases this
    have hroom : un < 252 := hu.room hg m1 hne (fun a b ha hb hab => mus_apart ha hb hab)
    refine ⟨fun h9 => absurd (hs.symm.trans h9) (by decide), fun _ => hroom, ⟨hc.congr (by rw [va_upN (by decide), va_upN (by omega)]) (fun k hk1 hk2 => by rw [va_upN (by omega), va_upN (by omega)]), hu.push hroom hg m1 hne, hz, fun j hj hjs => ?_, ?_, h2, va_upE rfl, ?_, fun i hi => ?_, fun i hi => ?_⟩, trivial, trivial, fun eg heg j hj => ?_⟩
    · rw [mark_s hsm hg hj hjs, cov_u, hex j hj hjs]
    · rw [va_upN (by decide), va_upN (by omega)]; exact h1
    · rw [va_upN (by decide), va_upN (by omega)]; exact h4
    · rw [va_upN (by omega)]
      by_cases e : i = un
      · rw [va_upE (by omega), va_upE e]
      · rw [va_upN (by omega), va_upN e]; exact h5 i (by omega)
    · have := hu.1
      rw [va_upN (by omega), va_upN (by omega)]; exact h6 i hi
    · unfold mkB
      rw [if_pos hj, heg j hj]
      dsimp only
      cases hq : subB (nI j) (nI (softN wt n)) with
      | true =>
        rw [mark_s hsm hg hj hq]
        cases exB xf j <;> cases subB (nI g) (nI j) <;> rfl
      | false => rfl
/-- k steps -/
def RT (st : Int32) (md : Nat → Int64) (wt : Nat → Int32) (n : Nat) (t : TC) (u : TM) : Prop :=
  Rst md wt n t.1 t.2.1 t.2.2.1 t.2.2.2.1 t.2.2.2.2 st u.1 ∧ u.2.2.1 = t.2.1 ∧ u.2.2.2 = t.2.2.2.1 ∧ ∀ j, j < 1024 → u.2.1 j = !(subB (nI j) (nI (softN wt n)) && !exB t.2.2.2.2 j)
theorem Rst.seedL (h : Rst md wt n uf un zf zn xf st sf) {eg : Nat → Bool} (hl : ∀ j, j < 1024 → eg j = !(subB (nI j) (nI (softN wt n)) && !exB xf j)) : sdM (sf 1) eg 1024 = sdC st wt n xf := by
  have h9 := h.seed (fun _ => false)
  rw [(sdM_eq (fun j hj => h.look (fun _ => false) hj) 1024 (Nat.le_refl _)).1] at h9
  rw [(sdM_eq hl 1024 (Nat.le_refl _)).1]
  exact h9
theorem RT.seed {t : TC} {u : TM} (h : RT st md wt n t u) : sdT u = sdC st wt n t.2.2.2.2 := h.1.seedL h.2.2.2
theorem RT.stp {vp : Nat → Int32} {rq : Int32} {t : TC} {u : TM} (h : RT st md wt n t u) (hV : satM vp rq = satB md wt n) (hs : sdC st wt n t.2.2.2.2 ≠ -9) :
    RT st md wt n (stC st md wt n t) (stT vp rq n u) ∧ (satB md wt n (nI (seC st wt n t)) = true → t.2.2.2.1 < 252) ∧ (satB md wt n (nI (seC st wt n t)) = false → t.2.1 < 252) ∧ roT vp rq u ∧ (stC st md wt n t).2.1 + (stC st md wt n t).2.2.2.1 = t.2.1 + t.2.2.2.1 + 1 := by
  have hsd := h.seed
  obtain ⟨hr, hu, hz, hl⟩ := h
  obtain ⟨x, e1, e2, hx, hxs, hcv⟩ := hr.sdd hs
  have e3 : seC st wt n t = x := e2
  obtain ⟨p1, p2, p3, p4, p5, p6⟩ := hr.stp hV hx hxs hcv
  have e4 : sdT u = nI x := hsd.trans e1
  refine ⟨⟨?_, ?_, ?_, ?_⟩, by rw [e3]; exact p1, by rw [e3]; exact p2, ?_, ?_⟩
  · unfold stC stT
    rw [e3, e4, hu, hz]
    exact p3
  · unfold stC stT
    rw [e3, e4, hu]
    exact p4
  · unfold stC stT
    rw [e3, e4, hz]
    exact p5
  · unfold stC stT
    rw [e3, e4]
    exact p6 _ hl
  · unfold roT
    rw [e4, hV, hu, hz]
    exact ⟨p1, p2⟩
  · unfold stC
    rw [e3]
    show exUn md wt n t.2.1 x + exZn md wt n t.2.2.2.1 x = _
    unfold exUn exZn
    cases satB md wt n (nI x) <;> simp <;> omega
theorem RT.its {vp : Nat → Int32} {rq : Int32} {t : TC} {u : TM} (h : RT st md wt n t u) (hV : satM vp rq = satB md wt n) : ∀ k, (∀ i, i < k → sdC st wt n (itC st md wt n t i).2.2.2.2 ≠ -9) → RT st md wt n (itC st md wt n t k) (itM vp rq n u k) ∧ (itC st md wt n t k).2.1 + (itC st md wt n t k).2.2.2.1 = t.2.1 + t.2.2.2.1 + k
  | 0, _ => ⟨h, rfl⟩
  | k + 1, hk => by
    obtain ⟨ih, ihs⟩ := RT.its h hV k (fun i hi => hk i (by omega))
    obtain ⟨p1, -, -, -, p5⟩ := ih.stp hV (hk k (by omega))
    refine ⟨p1, ?_⟩
    show (stC st md wt n (itC st md wt n t k)).2.1 + (stC st md wt n (itC st md wt n t k)).2.2.2.1 = _
    rw [p5, ihs]
    omega
theorem least {P : Nat → Prop} : ∀ k, P k → ∃ K, K ≤ k ∧ P K ∧ ∀ i, i < K → ¬ P i
  | 0, h => ⟨0, Nat.le_refl _, h, fun i hi => by omega⟩
  | k + 1, h => by
    by_cases h9 : ∃ i, i < k + 1 ∧ P i
    · obtain ⟨i, hi, hp⟩ := h9
      obtain ⟨K, h1, h2, h3⟩ := least i hp
      exact ⟨K, by omega, h2, h3⟩
    · exact ⟨k + 1, Nat.le_refl _, h, fun i hi hp => h9 ⟨i, hi, hp⟩⟩
termination_by k => k
/-- the end comes within 504 steps -/
theorem RT.fin {vp : Nat → Int32} {rq : Int32} {t : TC} {u : TM} (h : RT st md wt n t u) (hV : satM vp rq = satB md wt n) : ∃ K, K ≤ 504 ∧
    (∀ k, k < K → sdC st wt n (itC st md wt n t k).2.2.2.2 ≠ -9 ∧ (satB md wt n (nI (seC st wt n (itC st md wt n t k))) = true → (itC st md wt n t k).2.2.2.1 < 252) ∧ (satB md wt n (nI (seC st wt n (itC st md wt n t k))) = false → (itC st md wt n t k).2.1 < 252)) ∧ sdC st wt n (itC st md wt n t K).2.2.2.2 = -9 ∧
    (∀ k, k < K → sdT (itM vp rq n u k) ≠ -9 ∧ roT vp rq (itM vp rq n u k)) ∧ sdT (itM vp rq n u K) = -9 ∧ RT st md wt n (itC st md wt n t K) (itM vp rq n u K) := by
  have hex : ∃ k, k ≤ 504 ∧ sdC st wt n (itC st md wt n t k).2.2.2.2 = -9 := by
    apply Classical.byContradiction
    intro h9
    have h8 : ∀ i, i < 505 → sdC st wt n (itC st md wt n t i).2.2.2.2 ≠ -9 := fun i hi hp => h9 ⟨i, by omega, hp⟩
    obtain ⟨p1, p2⟩ := h.its hV 505 h8
    have hu := p1.1.2.1.1
    have hz := p1.1.2.2.1.1
    omega
  obtain ⟨k0, hk0, hp0⟩ := hex
  obtain ⟨K, h1, h2, h3⟩ := least (P := fun k => sdC st wt n (itC st md wt n t k).2.2.2.2 = -9) k0 hp0
  have hall : ∀ k, k < K → RT st md wt n (itC st md wt n t k) (itM vp rq n u k) ∧ sdC st wt n (itC st md wt n t k).2.2.2.2 ≠ -9 := fun k hk => ⟨(h.its hV k (fun i hi => h3 i (by omega))).1, h3 k hk⟩
  have hK := (h.its hV K (fun i hi => h3 i hi)).1
  refine ⟨K, by omega, fun k hk => ?_, h2, fun k hk => ?_, hK.seed.trans h2, hK⟩
  · obtain ⟨q1, q2⟩ := hall k hk
    obtain ⟨-, p2, p3, -⟩ := q1.stp hV q2
    exact ⟨q2, p2, p3⟩
  · obtain ⟨q1, q2⟩ := hall k hk
    obtain ⟨-, -, -, p4, -⟩ := q1.stp hV q2
    exact ⟨by rw [q1.seed]; exact q2, p4⟩
theorem Rst.RT0 (h : Rst md wt n uf un zf zn xf st sf) (eg : Nat → Bool) : RT st md wt n (uf, un, zf, zn, xf) (sf, mkAll sf eg n un zn, un, zn) := ⟨h, rfl, rfl, fun _ hj => h.look eg hj⟩
end STP
