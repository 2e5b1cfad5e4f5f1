/-! the heaviest: over assignments and over selections -/
def toN (x : Int32) : Nat := x.toBitVec.toNat
theorem nI_toNN (x : Int32) : nI (toN x) = x := Int32.toBitVec_inj.mp (by show BitVec.ofNat 32 _ = _; simp [toN])
theorem nI_plus (a b : Nat) : nI a + nI b = nI (a + b) := by
  apply Int32.toBitVec_inj.mp
  rw [Int32.toBitVec_add]
  show BitVec.ofNat 32 a + BitVec.ofNat 32 b = BitVec.ofNat 32 (a + b)
  rw [BitVec.ofNat_add]
def tN (W : Nat → Nat) (S : Nat) : Nat → Nat
  | 0 => 0
  | i + 1 => if S.testBit i = true then tN W S i + W i else tN W S i
theorem tN_le (W : Nat → Nat) (S : Nat) : ∀ n, (∀ i, i < n → W i ≤ 9) → tN W S n ≤ 9 * n
  | 0, _ => Nat.zero_le _
  | n + 1, h => by
    have ih := tN_le W S n (fun i hi => h i (by omega))
    have := h n (by omega)
    unfold tN
    split <;> omega
theorem totW_tN {wt : Nat → Int32} {W : Nat → Nat} {S : Nat} : ∀ n, n ≤ 32 → (∀ i, i < n → wt i = nI (W i)) → totW wt (nI S) n = nI (tN W S n)
  | 0, _, _ => rfl
  | n + 1, hn, h => by
    have ih := totW_tN (S := S) n (by omega) (fun i hi => h i (by omega))
    unfold totW tN
    rw [ih, hasB_nI (by omega), h n (by omega)]
    split
    · exact nI_plus _ _
    · rfl
theorem tN_mono {W : Nat → Nat} {S R : Nat} (h : S &&& R = S) : ∀ n, tN W S n ≤ tN W R n
  | 0 => Nat.le_refl _
  | n + 1 => by
    have ih := tN_mono (W := W) h n
    unfold tN
    cases hs : S.testBit n with
    | true => rw [sub_bit.mp h n hs]; simp; omega
    | false => cases R.testBit n <;> simp <;> omega
theorem tN_lt {W : Nat → Nat} {S R : Nat} (h : S &&& R = S) {k : Nat} (hk : R.testBit k = true) (hk2 : S.testBit k = false) (hw : 0 < W k) : ∀ n, k < n → tN W S n < tN W R n
  | 0, hn => by omega
  | n + 1, hn => by
    have hm := tN_mono (W := W) h n
    unfold tN
    by_cases e : k = n
    · subst e
      rw [hk, hk2]
      simp
      omega
    · have ih := tN_lt (W := W) h hk hk2 hw n (by omega)
      cases hs : S.testBit n with
      | true => rw [sub_bit.mp h n hs]; simp; omega
      | false => cases R.testBit n <;> simp <;> omega
/-- what heavF and hvM come to -/
theorem heavF_ok {vio : Nat → Int32} {tot : Int32 → Int32} {soft : Int32} {S : Nat → Nat} {T : Nat → Nat} {N : Nat} (hS : ∀ a, a < N → S a < 1024 ∧ soft &&& notI (vio a) = nI (S a)) (hT : ∀ j, tot (nI j) = nI (T j) ∧ T j ≤ 90) : ∀ k, k ≤ N →
    ((heavF vio tot soft k).1 = -9 ∧ ∀ a, a < k → ¬ vio a &&& notI soft = 0) ∨ ∃ b, b < k ∧ vio b &&& notI soft = 0 ∧ heavF vio tot soft k = (nI (S b), nI (T (S b))) ∧ ∀ a, a < k → vio a &&& notI soft = 0 → T (S a) < T (S b) ∨ (T (S a) = T (S b) ∧ S b ≤ S a)
  | 0, _ => Or.inl ⟨rfl, fun a h => by omega⟩
  | k + 1, hk => by
    have ih := heavF_ok hS hT k (by omega)
    obtain ⟨hsk, ek⟩ := hS k (by omega)
    unfold heavF
    by_cases hq : vio k &&& notI soft = 0
    · rw [if_pos hq, ek, (hT (S k)).1]
      have b0 := (hT (S k)).2
      right
      rcases ih with ⟨h9, hno⟩ | ⟨b, hb, hbq, e, hmax⟩
      · rw [if_pos (Or.inl h9)]
        refine ⟨k, by omega, hq, rfl, fun a ha haq => ?_⟩
        rcases Nat.lt_or_ge a k with h1 | h1
        · exact absurd haq (hno a h1)
        · rw [show a = k by omega]; exact Or.inr ⟨rfl, Nat.le_refl _⟩
      · have hsb := (hS b (by omega)).1
        have b1 := (hT (S b)).2
        have hn : ¬ (heavF vio tot soft k).1 = -9 := by rw [e]; exact nI_n9 (by omega)
        by_cases hc : T (S b) < T (S k) ∨ (T (S k) = T (S b) ∧ S k < S b)
        · rw [if_pos (by
            rw [e]
            rcases hc with h | h
            · exact Or.inr (Or.inl ((nI_ltI (by omega) (by omega)).mpr h))
            · exact Or.inr (Or.inr ⟨by rw [h.1], (nI_ltI (by omega) (by omega)).mpr h.2⟩))]
          refine ⟨k, by omega, hq, rfl, fun a ha haq => ?_⟩
          rcases Nat.lt_or_ge a k with h1 | h1
          · have := hmax a h1 haq
            omega
          · rw [show a = k by omega]; exact Or.inr ⟨rfl, Nat.le_refl _⟩
        · rw [if_neg (by
            rw [e]
            rintro (h | h | h)
            · exact nI_n9 (by omega) h
            · exact hc (Or.inl ((nI_ltI (by omega) (by omega)).mp h))
            · exact hc (Or.inr ⟨(nI_eq (by omega) (by omega)).mp h.1, (nI_ltI (by omega) (by omega)).mp h.2⟩))]
          refine ⟨b, by omega, hbq, e, fun a ha haq => ?_⟩
          rcases Nat.lt_or_ge a k with h1 | h1
          · exact hmax a h1 haq
          · rw [show a = k by omega]; omega
    · rw [if_neg hq]
      rcases ih with ⟨h9, hno⟩ | ⟨b, hb, hbq, e, hmax⟩
      · refine Or.inl ⟨h9, fun a ha => ?_⟩
        rcases Nat.lt_or_ge a k with h1 | h1
        · exact hno a h1
        · rw [show a = k by omega]; exact hq
      · refine Or.inr ⟨b, by omega, hbq, e, fun a ha haq => ?_⟩
        rcases Nat.lt_or_ge a k with h1 | h1
        · exact hmax a h1 haq
        · rw [show a = k by omega] at haq; exact absurd haq hq
theorem hvM_ok {cost : Nat → Int32} {q sat : Nat → Bool} {T : Nat → Nat} (hT : ∀ j, j < 1024 → cost j = nI (T j) ∧ T j ≤ 90) : ∀ k, k ≤ 1024 →
    ((hvM cost q sat k).1 = -9 ∧ ∀ j, j < k → ¬ (q j = true ∧ sat j = true)) ∨ ∃ g, g < k ∧ q g = true ∧ sat g = true ∧ hvM cost q sat k = (nI g, nI (T g)) ∧ ∀ j, j < k → q j = true → sat j = true → T j < T g ∨ (T j = T g ∧ g ≤ j)
  | 0, _ => Or.inl ⟨rfl, fun a h => by omega⟩
  | k + 1, hk => by
    have ih := hvM_ok (q := q) (sat := sat) hT k (by omega)
    obtain ⟨ek, b0⟩ := hT k (by omega)
    unfold hvM
    rw [ek]
    rcases ih with ⟨h9, hno⟩ | ⟨g, hg, hq, hs, e, hmax⟩
    · by_cases hc : q k = true ∧ sat k = true
      · rw [if_pos ⟨hc.1, Or.inl h9, hc.2⟩]
        refine Or.inr ⟨k, by omega, hc.1, hc.2, rfl, fun j hj h1 h2 => ?_⟩
        rcases Nat.lt_or_ge j k with h3 | h3
        · exact absurd ⟨h1, h2⟩ (hno j h3)
        · rw [show j = k by omega]; exact Or.inr ⟨rfl, Nat.le_refl _⟩
      · rw [if_neg (fun h => hc ⟨h.1, h.2.2⟩)]
        refine Or.inl ⟨h9, fun j hj h1 => ?_⟩
        rcases Nat.lt_or_ge j k with h3 | h3
        · exact hno j h3 h1
        · rw [show j = k by omega] at h1; exact hc h1
    · have b1 := (hT g (by omega)).2
      rw [e]
      by_cases hc : q k = true ∧ T g < T k ∧ sat k = true
      · rw [if_pos ⟨hc.1, Or.inr ((nI_ltI (by omega) (by omega)).mpr hc.2.1), hc.2.2⟩]
        refine Or.inr ⟨k, by omega, hc.1, hc.2.2, rfl, fun j hj h1 h2 => ?_⟩
        rcases Nat.lt_or_ge j k with h3 | h3
        · have := hmax j h3 h1 h2
          omega
        · rw [show j = k by omega]; exact Or.inr ⟨rfl, Nat.le_refl _⟩
      · rw [if_neg (by
          rintro ⟨h1, h2, h3⟩
          rcases h2 with h2 | h2
          · exact nI_n9 (by omega) h2
          · exact hc ⟨h1, (nI_ltI (by omega) (by omega)).mp h2, h3⟩)]
        refine Or.inr ⟨g, by omega, hq, hs, rfl, fun j hj h1 h2 => ?_⟩
        rcases Nat.lt_or_ge j k with h3 | h3
        · exact hmax j h3 h1 h2
        · rw [show j = k by omega] at h1 h2 ⊢
          rcases Nat.lt_or_ge (T g) (T k) with h4 | h4
          · exact absurd ⟨h1, h4, h2⟩ hc
          · omega
section HVY
variable {md : Nat → Int64} {wt : Nat → Int32} {n : Nat} {sf : Nat → Int32}
theorem softN_bit (hn : n ≤ 10) {i : Nat} (hi : i < 32) : (softN wt n).testBit i = (decide (i < n) && !(wt i == 0)) := by
  rw [← bt_nI hi, ← softM_nI wt n (by omega), softM_bt wt n (by omega) i hi]
/-- what an assignment satisfies of the soft ones -/
def sSet (md : Nat → Int64) (wt : Nat → Int32) (n a : Nat) : Nat := anN (softN wt n) (toN (violM md a n))
theorem sSet_lt (hn : n ≤ 10) (a : Nat) : sSet md wt n a < 1024 := Nat.lt_of_le_of_lt (anN_le _ _) (softN_1024 wt hn)
theorem sSet_eq (hn : n ≤ 10) (a : Nat) : softM wt n &&& notI (violM md a n) = nI (sSet md wt n a) := by
  unfold sSet
  rw [← notI_nI, nI_toNN, softM_nI wt n (by omega)]
theorem sSet_bit (hn : n ≤ 10) (a : Nat) {i : Nat} (hi : i < 32) : (sSet md wt n a).testBit i = (decide (i < n) && !(wt i == 0) && bitL (md i) a) := by
  unfold sSet
  rw [anN_bit, softN_bit hn hi, ← bt_nI hi, nI_toNN, violM_bt n (by omega) i hi]
  cases decide (i < n) <;> cases (wt i == 0) <;> cases bitL (md i) a <;> rfl
theorem okA (hn : n ≤ 10) {a : Nat} : violM md a n &&& notI (softM wt n) = 0 ↔ ∀ i, i < n → wt i = 0 → bitL (md i) a = true := by
  rw [b_eq0]
  constructor
  · intro h i hi hw
    have h1 := h i (by omega)
    rw [b_and, bt_not (by omega), violM_bt n (by omega) i (by omega), softM_bt wt n (by omega) i (by omega)] at h1
    simpa [hi, hw] using h1
  · intro h i hi
    rw [b_and, bt_not hi, violM_bt n (by omega) i hi, softM_bt wt n (by omega) i hi]
    by_cases hin : i < n
    · by_cases hw : wt i = 0
      · simp [hin, h i hin hw]
      · simp [hin, hw]
    · simp [hin]
theorem sat_iff (hn : n ≤ 10) {j : Nat} (hj : j &&& softN wt n = j) : satB md wt n (nI j) = true ↔ ∃ a, a < 64 ∧ violM md a n &&& notI (softM wt n) = 0 ∧ j &&& sSet md wt n a = j := by
  have h1 : satB md wt n (nI j) = true ↔ ∃ a, a < 64 ∧ bitL (modsOf md wt (nI j) n) a = true := by
    unfold satB
    constructor
    · intro h
      apply Classical.byContradiction
      intro h9
      have : modsOf md wt (nI j) n = 0 := bitL_0all.mpr fun a ha => by
        cases hb : bitL (modsOf md wt (nI j) n) a with
        | false => rfl
        | true => exact absurd ⟨a, ha, hb⟩ h9
      rw [this] at h
      cases h
    · rintro ⟨a, ha, hb⟩
      have : ¬ modsOf md wt (nI j) n = 0 := fun h9 => by
        rw [bitL_0all.mp h9 a ha] at hb
        cases hb
      rw [beq_eq_false_iff_ne.mpr this]
      rfl
  rw [h1]
  constructor
  · rintro ⟨a, ha, hb⟩
    rw [modsOf_bit ha n] at hb
    refine ⟨a, ha, (okA hn).mpr fun i hi hw => hb i hi (Or.inl hw), sub_bit.mpr fun i hi => ?_⟩
    have hs := sub_bit.mp hj i hi
    have hi32 : i < n := bit_lt (softN_lt wt n) hs
    rw [softN_bit hn (by omega)] at hs
    rw [sSet_bit hn a (by omega), hs, hb i hi32 (Or.inr (by rw [hasB_nI (by omega)]; exact hi))]
    rfl
  · rintro ⟨a, ha, hok, hsub⟩
    refine ⟨a, ha, (modsOf_bit ha n).mpr fun i hi hq => ?_⟩
    rcases hq with hq | hq
    · exact (okA hn).mp hok i hi hq
    · rw [hasB_nI (by omega)] at hq
      have := sub_bit.mp hsub i hq
      rw [sSet_bit hn a (by omega), Bool.and_eq_true] at this
      exact this.2
theorem heavy_eq (h : cOk md wt n sf) (vf : Nat → Int32) : (hvM (fun z => wtM (fun c => cA sf c 5) (nI z) n) (fun z => subB (nI z) (softS sf n)) (fun z => satM (vlF vf (fun zz => vioM sf zz n) 64) (hardS sf n) (nI z)) 1024).1 = (heavF (fun z => violM md z n) (fun z => totW wt z n) (softM wt n) 64).1 := by
  have hn := h.1
  have hW : ∃ W : Nat → Nat, ∀ i, i < n → wt i = nI (W i) ∧ W i ≤ 9 := ⟨fun i => (wt i).toNatClampNeg, fun i hi => by
    obtain ⟨w, hw, e⟩ := (h.2.2 i hi).2.2.1
    show wt i = nI (wt i).toNatClampNeg ∧ (wt i).toNatClampNeg ≤ 9
    rw [e, nI_clamp (by omega)]
    exact ⟨rfl, hw⟩⟩
  obtain ⟨W, hW⟩ := hW
  have hT : ∀ j, totW wt (nI j) n = nI (tN W j n) ∧ tN W j n ≤ 90 := fun j => ⟨totW_tN n (by omega) fun i hi => (hW i hi).1, by have := tN_le W j n (fun i hi => (hW i hi).2); omega⟩
  have hsm := softN_1024 wt hn
  have c1 := heavF_ok (vio := fun z => violM md z n) (tot := fun z => totW wt z n) (soft := softM wt n) (S := sSet md wt n) (T := fun j => tN W j n) (N := 64) (fun a _ => ⟨sSet_lt hn a, sSet_eq hn a⟩) hT 64 (Nat.le_refl _)
  have c2 := hvM_ok (cost := fun z => wtM (fun c => cA sf c 5) (nI z) n) (q := fun z => subB (nI z) (softS sf n)) (sat := fun z => satM (vlF vf (fun zz => vioM sf zz n) 64) (hardS sf n) (nI z)) (T := fun j => tN W j n) (fun j _ => ⟨(wtM_eq (wt := wt) n (fun i hi => ((h.2.2 i hi).1).symm)).trans (hT j).1, (hT j).2⟩) 1024 (Nat.le_refl _)
  have hq : ∀ j, j < 1024 → (subB (nI j) (softS sf n) = true ↔ j &&& softN wt n = j) := fun j hj => by rw [h.softI, sub_iff hj hsm]
  have hs : ∀ j, j &&& softN wt n = j → (satM (vlF vf (fun zz => vioM sf zz n) 64) (hardS sf n) (nI j) = true ↔ ∃ a, a < 64 ∧ violM md a n &&& notI (softM wt n) = 0 ∧ j &&& sSet md wt n a = j) := fun j hj => by rw [h.sat]; exact sat_iff hn hj
  have hS1 : ∀ a, sSet md wt n a &&& softN wt n = sSet md wt n a := fun a => anN_sub _ _
  have hS2 : ∀ a, a < 64 → violM md a n &&& notI (softM wt n) = 0 → satM (vlF vf (fun zz => vioM sf zz n) 64) (hardS sf n) (nI (sSet md wt n a)) = true := fun a ha hok => (hs _ (hS1 a)).mpr ⟨a, ha, hok, Nat.and_self _⟩
  rcases c1 with ⟨e1, no1⟩ | ⟨b, hb, hbq, e1, max1⟩
  · rcases c2 with ⟨e2, -⟩ | ⟨g, hg, hgq, hgs, e2, max2⟩
    · rw [e1, e2]
    · obtain ⟨a, ha, hok, -⟩ := (hs g ((hq g hg).mp hgq)).mp hgs
      exact absurd hok (no1 a ha)
  · rcases c2 with ⟨e2, no2⟩ | ⟨g, hg, hgq, hgs, e2, max2⟩
    · exact absurd ⟨(hq _ (sSet_lt hn b)).mpr (hS1 b), hS2 b hb hbq⟩ (no2 _ (sSet_lt hn b))
    · obtain ⟨a, ha, hok, hsub⟩ := (hs g ((hq g hg).mp hgq)).mp hgs
      have m1 := max2 _ (sSet_lt hn a) ((hq _ (sSet_lt hn a)).mpr (hS1 a)) (hS2 a ha hok)
      have m2 := max2 _ (sSet_lt hn b) ((hq _ (sSet_lt hn b)).mpr (hS1 b)) (hS2 b hb hbq)
      have m3 := max1 a ha hok
      have hga : g = sSet md wt n a := by
        apply Classical.byContradiction
        intro hne
        obtain ⟨k, hk1, hk2⟩ := ne_bit hsub hne
        have hk3 := sub_bit.mp (hS1 a) k hk1
        have hkn : k < n := bit_lt (softN_lt wt n) hk3
        rw [softN_bit hn (by omega)] at hk3
        have hw0 : ¬ wt k = 0 := by
          intro h9
          rw [h9] at hk3
          simp at hk3
        have hwk : 0 < W k := by
          apply Nat.pos_of_ne_zero
          intro h9
          apply hw0
          rw [(hW k hkn).1, h9]
          rfl
        have := tN_lt (W := W) hsub hk1 hk2 hwk n hkn
        omega
      rw [e1, e2]
      show nI g = nI (sSet md wt n b)
      congr 1
      rw [hga] at m2 ⊢
      omega
end HVY
