/-! BOTH SIDES, ONE VALUE: bits -/
theorem bt_bit {k i : Nat} (hk : k < 32) (hi : i < 32) : bt (bitI k) i = decide (i = k) := by
  unfold bitI
  rw [b_shl k hk 1 hi]
  have h1 : ∀ j, j < 32 → bt 1 j = decide (j = 0) := by decide +kernel
  rcases Nat.lt_or_ge i k with h | h
  · simp [Nat.not_le.mpr h]
    omega
  · rw [h1 (i - k) (by omega)]
    simp [h]
    omega
theorem bt_not {x : Int32} {i : Nat} (hi : i < 32) : bt (notI x) i = !(bt x i) := by
  unfold notI
  rw [b_xor, b_m1 i hi]
  simp
theorem hasB_bt (x : Int32) {k : Nat} (hk : k < 32) : hasB x k = bt x k := by
  have h1 : ∀ j, j < 32 → bt 1 j = decide (j = 0) := by decide +kernel
  have e : ∀ i, i < 32 → bt ((x >>> (nI k &&& 31)) &&& 1) i = (decide (i = 0) && bt x k) := by
    intro i hi
    rw [b_and, h1 i hi, b_sshr k hk x hi]
    by_cases h0 : i = 0
    · subst h0
      simp [hk]
    · simp [h0]
  unfold hasB
  cases hb : bt x k with
  | true =>
    have : ((x >>> (nI k &&& 31)) &&& 1) = 1 := b_ext fun i hi => by rw [e i hi, hb, h1 i hi]; simp
    rw [this]
    rfl
  | false =>
    have : ((x >>> (nI k &&& 31)) &&& 1) = 0 := b_ext fun i hi => by rw [e i hi, hb, b_0]; simp
    rw [this]
    rfl
theorem or0 (x : Int32) : x ||| 0 = x := b_ext fun i _ => by rw [b_or, b_0]; simp
theorem and1 (x : Int32) : x &&& (-1) = x := b_ext fun i hi => by rw [b_and, b_m1 i hi]; simp
theorem or_has {x : Int32} {k : Nat} (hk : k < 32) (h : hasB x k = true) : x ||| bitI k = x := by
  rw [hasB_bt x hk] at h
  refine b_ext fun i hi => ?_
  rw [b_or, bt_bit hk hi]
  by_cases e : i = k
  · subst e; rw [h]; rfl
  · simp [e]
theorem and_nhas {x : Int32} {k : Nat} (hk : k < 32) (h : hasB x k = false) : x &&& notI (bitI k) = x := by
  rw [hasB_bt x hk] at h
  refine b_ext fun i hi => ?_
  rw [b_and, bt_not hi, bt_bit hk hi]
  by_cases e : i = k
  · subst e; rw [h]; rfl
  · simp [e]
theorem and_bit {x : Int32} {k : Nat} (hk : k < 32) : x &&& bitI k = if hasB x k = true then bitI k else 0 := by
  rw [hasB_bt x hk]
  split
  · rename_i h
    refine b_ext fun i hi => ?_
    rw [b_and, bt_bit hk hi]
    by_cases e : i = k
    · subst e; rw [h]; rfl
    · simp [e]
  · rename_i h
    refine b_ext fun i hi => ?_
    rw [b_and, bt_bit hk hi, b_0]
    by_cases e : i = k
    · subst e; simp at h; rw [h]; rfl
    · simp [e]
theorem softM_bt (wt : Nat → Int32) : ∀ n, n ≤ 31 → ∀ i, i < 32 → bt (softM wt n) i = (decide (i < n) && !(wt i == 0))
  | 0, _, i, hi => by simp [softM, b_0]
  | n + 1, hn, i, hi => by
    have ih := softM_bt wt n (by omega) i hi
    unfold softM
    split
    · rename_i h
      rw [ih]
      by_cases e : i = n
      · subst e; simp [h]
      · have : (i < n + 1) = (i < n) := by apply propext; omega
        simp [this]
    · rename_i h
      rw [b_or, ih, bt_bit (by omega) hi]
      by_cases e : i = n
      · subst e; simp [h]
      · have : (i < n + 1) = (i < n) := by apply propext; omega
        simp [this, e]
theorem soft_and {wt : Nat → Int32} {n k : Nat} (hn : n ≤ 31) (hk : k < n) : softM wt n &&& bitI k = if wt k = 0 then 0 else bitI k := by
  rw [and_bit (by omega), hasB_bt _ (by omega), softM_bt wt n hn k (by omega)]
  by_cases h : wt k = 0 <;> simp [h, hk]
theorem softH_eq {hd wt : Nat → Int32} : ∀ n, (∀ i, i < n → (hd i = 0 ↔ ¬ wt i = 0)) → softH hd n = softM wt n
  | 0, _ => rfl
  | n + 1, h => by
    have ih := softH_eq n (fun i hi => h i (by omega))
    unfold softH softM
    by_cases hw : wt n = 0
    · have h2 : ¬ hd n = 0 := fun h9 => (h n (by omega)).mp h9 hw
      rw [if_neg h2, if_pos hw, or0, ih]
    · rw [if_pos ((h n (by omega)).mpr hw), if_neg hw, ih]
theorem vioM_eq {sf : Nat → Int32} {md : Nat → Int64} {a : Nat} : ∀ n, (∀ i, i < n → holdC sf i a = bitL (md i) a) → vioM sf a n = violM md a n
  | 0, _ => rfl
  | n + 1, h => by
    have ih := vioM_eq n (fun i hi => h i (by omega))
    unfold vioM violM
    rw [h n (by omega), ih, or0]
theorem wtM_eq {wf wt : Nat → Int32} {sel : Int32} : ∀ n, (∀ i, i < n → wf i = wt i) → wtM wf sel n = totW wt sel n
  | 0, _ => rfl
  | n + 1, h => by
    have ih := wtM_eq (sel := sel) n (fun i hi => h i (by omega))
    unfold wtM totW
    rw [h n (by omega), ih, hasI_nI, Int32.add_zero]
theorem growM_eq {sat : Int32 → Bool} {hd wt : Nat → Int32} {sel : Int32} {N : Nat} (hN : N ≤ 31) (h : ∀ i, i < N → (hd i = 0 ↔ ¬ wt i = 0)) : ∀ n, n ≤ N → growM sat hd sel n = growF sat (softM wt N) sel n
  | 0, _ => rfl
  | n + 1, hn => by
    have ih := growM_eq (sat := sat) (sel := sel) hN h n (by omega)
    unfold growM growF
    rw [ih, soft_and hN (by omega), hasI_nI, or0]
    generalize growF sat (softM wt N) sel n = x
    by_cases hw : wt n = 0
    · have h2 : ¬ hd n = 0 := fun h9 => (h n (by omega)).mp h9 hw
      rw [if_neg (fun h9 => h2 h9.1), if_pos hw, or0]
      simp
    · have h2 := (h n (by omega)).mpr hw
      rw [if_neg hw]
      cases hb : hasB x n with
      | true =>
        rw [or_has (by omega) hb]
        simp
      | false =>
        by_cases hs : sat (x ||| bitI n) = true
        · rw [if_pos ⟨h2, rfl, hs⟩, if_pos hs]
        · rw [if_neg (fun h9 => hs h9.2.2), if_neg hs]
theorem shrM_eq {sat : Int32 → Bool} {sel : Int32} : ∀ n, n ≤ 31 → shrM sat sel n = shrinkF sat sel n
  | 0, _ => rfl
  | n + 1, hn => by
    have ih := shrM_eq (sat := sat) (sel := sel) n (by omega)
    unfold shrM shrinkF
    rw [ih, hasI_nI, and1]
    generalize shrinkF sat sel n = x
    cases hb : hasB x n with
    | false =>
      rw [and_nhas (by omega) hb]
      simp
    | true =>
      cases hs : sat (x &&& notI (bitI n)) with
      | true => simp
      | false => simp
theorem crtM_eq {sat : Int32 → Bool} {sel : Int32} : ∀ n, n ≤ 31 → crtM sat sel n = critF sat sel n
  | 0, _ => rfl
  | n + 1, hn => by
    have ih := crtM_eq (sat := sat) (sel := sel) n (by omega)
    unfold crtM critF
    rw [ih, hasI_nI, or0, and_bit (by omega)]
    cases hb : hasB sel n with
    | false =>
      simp [or0]
    | true =>
      simp
/-- Int64: a bit, by its place -/
theorem bitL_get {x : Int64} {a : Nat} (ha : a < 64) : bitL x a = x.toBitVec.getLsbD a := by
  have hs : (((nI a : Int32).toInt64.toUInt64 &&& Int64.toUInt64 63)).toNat = a := by rw [wb_cu a ha]; exact Nat.mod_eq_of_lt (by omega)
  have h := ts_bit (w := x) (s := (nI a : Int32).toInt64.toUInt64 &&& Int64.toUInt64 63) ha hs
  unfold bitL
  cases hb : x.toBitVec.getLsbD a with
  | true =>
    have : ¬ ((x.toUInt64 >>> ((nI a : Int32).toInt64.toUInt64 &&& Int64.toUInt64 63)).toInt64 &&& 1) = 0 := fun h9 => by rw [h.mp h9] at hb; cases hb
    simp [this]
  | false =>
    rw [h.mpr hb]
    rfl
theorem bitL_0all {x : Int64} : x = 0 ↔ ∀ a, a < 64 → bitL x a = false := by
  constructor
  · intro h a ha
    rw [bitL_get ha, h]
    simp
  · intro h
    apply Int64.toBitVec_inj.mp
    apply BitVec.eq_of_getLsbD_eq
    intro i hi
    rw [← bitL_get hi, h i hi]
    simp
theorem bitL_and {x y : Int64} {a : Nat} (ha : a < 64) : bitL (x &&& y) a = (bitL x a && bitL y a) := by
  rw [bitL_get ha, bitL_get ha, bitL_get ha, Int64.toBitVec_and, BitVec.getLsbD_and]
theorem modsOf_bit {md : Nat → Int64} {wt : Nat → Int32} {sel : Int32} {a : Nat} (ha : a < 64) : ∀ n, bitL (modsOf md wt sel n) a = true ↔ ∀ i, i < n → (wt i = 0 ∨ hasB sel i = true) → bitL (md i) a = true
  | 0 => by
    constructor
    · intro _ i hi; omega
    · intro _
      exact (by decide +kernel : ∀ a, a < 64 → bitL (-1) a = true) a ha
  | n + 1 => by
    have ih := modsOf_bit (md := md) (wt := wt) (sel := sel) ha n
    unfold modsOf
    split
    · rename_i h
      rw [bitL_and ha, Bool.and_eq_true, ih]
      constructor
      · rintro ⟨h1, h2⟩ i hi hq
        rcases Nat.lt_or_ge i n with h3 | h3
        · exact h1 i h3 hq
        · rw [show i = n by omega]; exact h2
      · intro h1
        exact ⟨fun i hi hq => h1 i (by omega) hq, h1 n (by omega) h⟩
    · rename_i h
      rw [ih]
      constructor
      · intro h1 i hi hq
        rcases Nat.lt_or_ge i n with h3 | h3
        · exact h1 i h3 hq
        · rw [show i = n by omega] at hq; exact absurd hq h
      · intro h1 i hi hq
        exact h1 i (by omega) hq
theorem violM_bt {md : Nat → Int64} {a : Nat} : ∀ n, n ≤ 31 → ∀ i, i < 32 → bt (violM md a n) i = (decide (i < n) && !(bitL (md i) a))
  | 0, _, i, hi => by simp [violM, b_0]
  | n + 1, hn, i, hi => by
    have ih := violM_bt (md := md) (a := a) n (by omega) i hi
    unfold violM
    split
    · rename_i h
      rw [ih]
      by_cases e : i = n
      · subst e; simp [h]
      · have : (i < n + 1) = (i < n) := by apply propext; omega
        simp [this]
    · rename_i h
      rw [b_or, ih, bt_bit (by omega) hi]
      by_cases e : i = n
      · subst e; simp at h; simp [h]
      · have : (i < n + 1) = (i < n) := by apply propext; omega
        simp [this, e]
theorem hard_bt : ∀ n, n ≤ 10 → ∀ i, i < 32 → bt (bitI n - 1) i = decide (i < n) := by decide +kernel
theorem b_eq0 {x : Int32} : x = 0 ↔ ∀ i, i < 32 → bt x i = false := by
  constructor
  · intro h i hi; rw [h, b_0]
  · intro h; exact b_ext fun i hi => by rw [h i hi, b_0]
/-- one assignment: the model's test is the class's bit -/
theorem hit_eq {md : Nat → Int64} {wt : Nat → Int32} {sel : Int32} {n a : Nat} (hn : n ≤ 10) (ha : a < 64) : (violM md a n &&& (sel ||| ((bitI n - 1) &&& notI (softM wt n))) == 0) = bitL (modsOf md wt sel n) a := by
  have key : (violM md a n &&& (sel ||| ((bitI n - 1) &&& notI (softM wt n))) = 0) ↔ bitL (modsOf md wt sel n) a = true := by
    rw [b_eq0, modsOf_bit ha n]
    constructor
    · intro h i hi hq
      have h1 := h i (by omega)
      rw [b_and, b_or, b_and, bt_not (by omega), violM_bt n (by omega) i (by omega), hard_bt n hn i (by omega), softM_bt wt n (by omega) i (by omega)] at h1
      rcases hq with hq | hq
      · simpa [hi, hq] using h1
      · rw [hasB_bt sel (by omega)] at hq
        simpa [hi, hq] using h1
    · intro h i hi
      rw [b_and, b_or, b_and, bt_not hi, violM_bt n (by omega) i hi, hard_bt n hn i hi, softM_bt wt n (by omega) i hi]
      by_cases hin : i < n
      · by_cases hw : wt i = 0
        · simp [hin, h i hin (Or.inl hw)]
        · cases hs : bt sel i with
          | true => simp [hin, h i hin (Or.inr (by rw [hasB_bt sel (by omega)]; exact hs))]
          | false => simp [hw]
      · simp [hin]
  cases hb : bitL (modsOf md wt sel n) a with
  | true => rw [key.mpr hb]; rfl
  | false =>
    have h2 : ¬ (violM md a n &&& (sel ||| ((bitI n - 1) &&& notI (softM wt n))) = 0) := fun h9 => by rw [key.mp h9] at hb; cases hb
    simpa using h2
theorem mdlU_eq {q : Nat → Bool} {x : Int64} : ∀ f a, (∀ b, b < a + f → q b = bitL x b) → mdlU q a f = firstB x a f
  | 0, a, _ => rfl
  | f + 1, a, h => by
    unfold mdlU firstB
    rw [h a (by omega), mdlU_eq f (a + 1) (fun b hb => h b (by omega))]
theorem firstB_9 {x : Int64} : ∀ f a, a + f ≤ 64 → (firstB x a f = -9 ↔ ∀ b, a ≤ b → b < a + f → bitL x b = false)
  | 0, a, _ => by
    constructor
    · intro _ b h1 h2; omega
    · intro _; rfl
  | f + 1, a, h => by
    have ih := firstB_9 (x := x) f (a + 1) (by omega)
    unfold firstB
    split
    · rename_i hb
      constructor
      · intro h9; exact absurd h9 (nI_n9 (by omega))
      · intro h9; rw [h9 a (Nat.le_refl _) (by omega)] at hb; cases hb
    · rename_i hb
      rw [ih]
      constructor
      · intro h9 b h1 h2
        rcases Nat.lt_or_ge a b with h3 | h3
        · exact h9 b (by omega) (by omega)
        · rw [show b = a by omega]; simpa using hb
      · intro h9 b h1 h2
        exact h9 b (by omega) (by omega)
theorem satB_9 {md : Nat → Int64} {wt : Nat → Int32} {n : Nat} {sel : Int32} : satB md wt n sel = !(firstB (modsOf md wt sel n) 0 64 == -9) := by
  unfold satB
  have h1 := bitL_0all (x := modsOf md wt sel n)
  have h2 := firstB_9 (x := modsOf md wt sel n) 64 0 (by omega)
  by_cases h : modsOf md wt sel n = 0
  · have h3 : firstB (modsOf md wt sel n) 0 64 = -9 := h2.mpr fun b _ hb => h1.mp h b (by omega)
    rw [h3, h]
    rfl
  · have h3 : ¬ firstB (modsOf md wt sel n) 0 64 = -9 := fun h9 => h (h1.mpr fun a ha => h2.mp h9 a (by omega) (by omega))
    rw [beq_eq_false_iff_ne.mpr h, beq_eq_false_iff_ne.mpr h3]
