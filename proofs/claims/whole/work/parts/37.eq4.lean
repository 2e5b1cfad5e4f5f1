/-! MUSes and MSSes as numbers -/
theorem bt_nI {a i : Nat} (hi : i < 32) : bt (nI a) i = a.testBit i := by
  unfold bt
  show (BitVec.ofNat 32 a).getLsbD i = _
  rw [BitVec.getLsbD_ofNat, decide_eq_true hi, Bool.true_and]
theorem hasB_nI {a i : Nat} (hi : i < 32) : hasB (nI a) i = a.testBit i := by rw [hasB_bt _ hi, bt_nI hi]
theorem sub_bit {a b : Nat} : a &&& b = a ↔ ∀ i, a.testBit i = true → b.testBit i = true := by
  constructor
  · intro h i hi
    rw [← h, Nat.testBit_and, Bool.and_eq_true] at hi
    exact hi.2
  · intro h
    apply Nat.eq_of_testBit_eq
    intro i
    rw [Nat.testBit_and]
    cases ha : a.testBit i with
    | true => rw [h i ha]; rfl
    | false => rfl
theorem bit_lt {a n i : Nat} (h : a < 2 ^ n) (hi : a.testBit i = true) : i < n := by
  rcases Nat.lt_or_ge i n with h1 | h1
  · exact h1
  · have h2 : a < 2 ^ i := Nat.lt_of_lt_of_le h (Nat.pow_le_pow_right (by decide) h1)
    rw [Nat.testBit_lt_two_pow h2] at hi
    cases hi
theorem sat_mono {md : Nat → Int64} {wt : Nat → Int32} {n a b : Nat} (hn : n ≤ 10) (h : a &&& b = a) (hs : satB md wt n (nI b) = true) : satB md wt n (nI a) = true := by
  have h0 : ¬ modsOf md wt (nI b) n = 0 := by
    intro h9
    unfold satB at hs
    rw [h9] at hs
    cases hs
  have h1 : ∃ t, t < 64 ∧ bitL (modsOf md wt (nI b) n) t = true := by
    apply Classical.byContradiction
    intro h9
    apply h0
    apply bitL_0all.mpr
    intro t ht
    cases hb : bitL (modsOf md wt (nI b) n) t with
    | true => exact absurd ⟨t, ht, hb⟩ h9
    | false => rfl
  obtain ⟨t, ht, hb⟩ := h1
  have h2 : bitL (modsOf md wt (nI a) n) t = true := by
    rw [modsOf_bit ht n] at hb ⊢
    intro i hi hq
    refine hb i hi ?_
    rcases hq with hq | hq
    · exact Or.inl hq
    · right
      rw [hasB_nI (by omega)] at hq ⊢
      exact sub_bit.mp h i hq
  unfold satB
  have h3 : ¬ modsOf md wt (nI a) n = 0 := fun h9 => by
    have := bitL_0all.mp h9 t ht
    rw [h2] at this
    cases this
  rw [beq_eq_false_iff_ne.mpr h3]
  rfl
def gN (S : Nat → Bool) (sm x : Nat) : Nat → Nat
  | 0 => x
  | i + 1 => if S (gN S sm x i ||| (sm &&& 2 ^ i)) = true then gN S sm x i ||| (sm &&& 2 ^ i) else gN S sm x i
def sN (S : Nat → Bool) (x : Nat) : Nat → Nat
  | 0 => x
  | i + 1 => if S (anN (sN S x i) (2 ^ i)) = true then sN S x i else anN (sN S x i) (2 ^ i)
theorem growF_gN (sat : Int32 → Bool) {sm x : Nat} : ∀ n, n ≤ 31 → growF sat (nI sm) (nI x) n = nI (gN (fun z => sat (nI z)) sm x n)
  | 0, _ => rfl
  | i + 1, h => by
    have ih := growF_gN sat (sm := sm) (x := x) i (by omega)
    unfold growF gN
    rw [ih, bitI_nI i (by omega), nx_and, nx_or]
    by_cases hs : sat (nI (gN (fun z => sat (nI z)) sm x i ||| (sm &&& 2 ^ i))) = true
    · rw [if_pos hs, if_pos hs]
    · rw [if_neg hs, if_neg hs]
theorem shrinkF_sN (sat : Int32 → Bool) {x : Nat} : ∀ n, n ≤ 31 → shrinkF sat (nI x) n = nI (sN (fun z => sat (nI z)) x n)
  | 0, _ => rfl
  | i + 1, h => by
    have ih := shrinkF_sN sat (x := x) i (by omega)
    unfold shrinkF sN
    rw [ih, bitI_nI i (by omega), notI_nI]
    by_cases hs : sat (nI (anN (sN (fun z => sat (nI z)) x i) (2 ^ i))) = true
    · rw [if_pos hs, if_pos hs]
    · rw [if_neg hs, if_neg hs]
theorem anN_bit {a b i : Nat} : (anN a b).testBit i = (a.testBit i && !(b.testBit i)) := by
  unfold anN
  rw [Nat.testBit_xor, Nat.testBit_and]
  cases a.testBit i <;> cases b.testBit i <;> rfl
theorem pow_bit {i k : Nat} : (2 ^ i).testBit k = decide (i = k) := Nat.testBit_two_pow
/-- growing: what comes out -/
theorem gN_ok {S : Nat → Bool} {sm x : Nat} (hm : ∀ a b, a &&& b = a → S b = true → S a = true) (hs : S x = true) (hx : x &&& sm = x) : ∀ n, S (gN S sm x n) = true ∧ x &&& gN S sm x n = x ∧ gN S sm x n &&& sm = gN S sm x n ∧ ∀ c, c < n → sm.testBit c = true → (gN S sm x n).testBit c = false → S (gN S sm x n ||| 2 ^ c) = false
  | 0 => ⟨hs, Nat.and_self x, hx, fun c hc => by omega⟩
  | i + 1 => by
    obtain ⟨h1, h2, h3, h4⟩ := gN_ok hm hs hx i
    unfold gN
    by_cases he : S (gN S sm x i ||| (sm &&& 2 ^ i)) = true
    · rw [if_pos he]
      have hsub : gN S sm x i &&& (gN S sm x i ||| (sm &&& 2 ^ i)) = gN S sm x i := sub_bit.mpr fun k hk => by rw [Nat.testBit_or, hk]; rfl
      refine ⟨he, and_tr h2 hsub, sub_bit.mpr fun k hk => ?_, fun c hc hcs hcn => ?_⟩
      · rw [Nat.testBit_or, Bool.or_eq_true, Nat.testBit_and, Bool.and_eq_true] at hk
        rcases hk with hk | hk
        · exact sub_bit.mp h3 k hk
        · exact hk.1
      · rw [Nat.testBit_or, Bool.or_eq_false_iff] at hcn
        have hci : c < i := by
          rcases Nat.lt_or_ge c i with h | h
          · exact h
          · have e : c = i := by omega
            subst e
            have := hcn.2
            rw [Nat.testBit_and, hcs, pow_bit] at this
            simp at this
        have h5 := h4 c hci hcs hcn.1
        cases hq : S (gN S sm x i ||| (sm &&& 2 ^ i) ||| 2 ^ c) with
        | false => rfl
        | true =>
          have : S (gN S sm x i ||| 2 ^ c) = true := hm _ _ (sub_bit.mpr fun k hk => by
            rw [Nat.testBit_or, Bool.or_eq_true] at hk
            rw [Nat.testBit_or, Nat.testBit_or]
            rcases hk with hk | hk <;> simp [hk]) hq
          rw [h5] at this
          cases this
    · rw [if_neg he]
      refine ⟨h1, h2, h3, fun c hc hcs hcn => ?_⟩
      rcases Nat.lt_or_ge c i with h | h
      · exact h4 c h hcs hcn
      · have e : c = i := by omega
        subst e
        have e2 : sm &&& 2 ^ c = 2 ^ c := by
          apply Nat.eq_of_testBit_eq
          intro k
          rw [Nat.testBit_and, pow_bit]
          by_cases hk : c = k
          · subst hk; simp [hcs]
          · simp [hk]
        rw [e2] at he
        simpa using he
theorem sN_ok {S : Nat → Bool} {x : Nat} (hm : ∀ a b, a &&& b = a → S b = true → S a = true) (hs : S x = false) : ∀ n, S (sN S x n) = false ∧ sN S x n &&& x = sN S x n ∧ ∀ c, c < n → (sN S x n).testBit c = true → S (anN (sN S x n) (2 ^ c)) = true
  | 0 => ⟨hs, Nat.and_self x, fun c hc => by omega⟩
  | i + 1 => by
    obtain ⟨h1, h2, h3⟩ := sN_ok hm hs i
    unfold sN
    by_cases he : S (anN (sN S x i) (2 ^ i)) = true
    · rw [if_pos he]
      refine ⟨h1, h2, fun c hc hb => ?_⟩
      rcases Nat.lt_or_ge c i with h | h
      · exact h3 c h hb
      · rw [show c = i by omega]; exact he
    · rw [if_neg he]
      refine ⟨by simpa using he, and_tr (anN_sub _ _) h2, fun c hc hb => ?_⟩
      rw [anN_bit, Bool.and_eq_true] at hb
      have hci : c < i := by
        rcases Nat.lt_or_ge c i with h | h
        · exact h
        · have e : c = i := by omega
          subst e
          have := hb.2
          rw [pow_bit] at this
          simp at this
      refine hm _ _ (sub_bit.mpr fun k hk => ?_) (h3 c hci hb.1)
      rw [anN_bit, anN_bit] at hk
      rw [anN_bit]
      simp only [Bool.and_eq_true] at hk ⊢
      exact ⟨hk.1.1, hk.2⟩
def isMus (S : Nat → Bool) (sm x : Nat) : Prop := S x = false ∧ x &&& sm = x ∧ ∀ y, y &&& x = y → y ≠ x → S y = true
def isMss (S : Nat → Bool) (sm x : Nat) : Prop := S x = true ∧ x &&& sm = x ∧ ∀ y, y &&& sm = y → x &&& y = x → y ≠ x → S y = false
theorem ne_bit {a b : Nat} (h : a &&& b = a) (hn : a ≠ b) : ∃ k, b.testBit k = true ∧ a.testBit k = false := by
  apply Classical.byContradiction
  intro h9
  apply hn
  apply Nat.eq_of_testBit_eq
  intro k
  cases hb : b.testBit k with
  | true =>
    cases ha : a.testBit k with
    | true => rfl
    | false => exact absurd ⟨k, hb, ha⟩ h9
  | false =>
    cases ha : a.testBit k with
    | true => rw [sub_bit.mp h k ha] at hb; cases hb
    | false => rfl
theorem gN_mss {S : Nat → Bool} {sm x n : Nat} (hm : ∀ a b, a &&& b = a → S b = true → S a = true) (hs : S x = true) (hx : x &&& sm = x) (hn : sm < 2 ^ n) : isMss S sm (gN S sm x n) ∧ x &&& gN S sm x n = x := by
  obtain ⟨h1, h2, h3, h4⟩ := gN_ok hm hs hx n
  refine ⟨⟨h1, h3, fun y hy hg hne => ?_⟩, h2⟩
  obtain ⟨c, hc1, hc2⟩ := ne_bit hg (Ne.symm hne)
  have hcs : sm.testBit c = true := sub_bit.mp hy c hc1
  have h5 := h4 c (bit_lt hn hcs) hcs hc2
  cases hq : S y with
  | false => rfl
  | true =>
    have : S (gN S sm x n ||| 2 ^ c) = true := hm _ _ (sub_bit.mpr fun k hk => by
      rw [Nat.testBit_or, Bool.or_eq_true, pow_bit] at hk
      rcases hk with hk | hk
      · exact sub_bit.mp hg k hk
      · have e : c = k := by simpa using hk
        rw [← e]; exact hc1) hq
    rw [h5] at this
    cases this
theorem sN_mus {S : Nat → Bool} {sm x n : Nat} (hm : ∀ a b, a &&& b = a → S b = true → S a = true) (hs : S x = false) (hx : x &&& sm = x) (hn : sm < 2 ^ n) : isMus S sm (sN S x n) ∧ sN S x n &&& x = sN S x n := by
  obtain ⟨h1, h2, h3⟩ := sN_ok hm hs n
  refine ⟨⟨h1, and_tr h2 hx, fun y hy hne => ?_⟩, h2⟩
  obtain ⟨c, hc1, hc2⟩ := ne_bit hy hne
  have hcs : sm.testBit c = true := sub_bit.mp (and_tr h2 hx) c hc1
  refine hm _ _ (sub_bit.mpr fun k hk => ?_) (h3 c (bit_lt hn hcs) hc1)
  rw [anN_bit, pow_bit, sub_bit.mp hy k hk]
  have : c ≠ k := fun e => by rw [e, hk] at hc2; cases hc2
  simp [this]
/-- two different ones are apart -/
theorem mss_apart {S : Nat → Bool} {sm a b : Nat} (ha : isMss S sm a) (hb : isMss S sm b) (hne : a ≠ b) : ¬ (a &&& b = a) := by
  intro h
  have := ha.2.2 b hb.2.1 h (Ne.symm hne)
  rw [hb.1] at this
  cases this
theorem mus_apart {S : Nat → Bool} {sm a b : Nat} (ha : isMus S sm a) (hb : isMus S sm b) (hne : a ≠ b) : ¬ (a &&& b = a) := by
  intro h
  have := hb.2.2 a h hne
  rw [ha.1] at this
  cases this
