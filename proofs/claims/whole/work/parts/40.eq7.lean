/-! Long.bitCount counts bits -/
def cntB (x : Nat) : Nat → Nat
  | 0 => 0
  | k + 1 => cntB x k + x / 2 ^ k % 2
/-- masks of k bytes -/
def msk (m : Nat) : Nat → Nat
  | 0 => 0
  | k + 1 => msk m k * 256 + m
theorem and_dm (x y : Nat) : x &&& y = (x / 256 &&& y / 256) * 256 + (x % 256 &&& y % 256) := by
  have h1 : (x &&& y) / 256 = x / 256 &&& y / 256 := Nat.and_div_two_pow (n := 8)
  have h2 : (x &&& y) % 256 = x % 256 &&& y % 256 := Nat.and_mod_two_pow (n := 8)
  rw [← h1, ← h2]
  omega
theorem and_msk (x m k : Nat) (hm : m < 256) : x &&& msk m (k + 1) = (x / 256 &&& msk m k) * 256 + (x % 256 &&& m) := by
  rw [and_dm x (msk m (k + 1))]
  have h1 : msk m (k + 1) / 256 = msk m k := by show (msk m k * 256 + m) / 256 = msk m k; omega
  have h2 : msk m (k + 1) % 256 = m := by show (msk m k * 256 + m) % 256 = m; omega
  rw [h1, h2]
def s1 (x k : Nat) : Nat := x - (x / 2 &&& msk 85 k)
def s2 (x k : Nat) : Nat := (x &&& msk 51 k) + (x / 4 &&& msk 51 k)
def s3 (x k : Nat) : Nat := (x + x / 16) &&& msk 15 k
theorem k1 : ∀ h, h < 2 → ∀ l, l < 256 → ((h * 128 + l / 2) &&& 85) = (l / 2 &&& 85) ∧ (l / 2 &&& 85) ≤ l := by decide +kernel
theorem k2 : ∀ h, h < 4 → ∀ l, l < 256 → ((h * 64 + l / 4) &&& 51) = (l / 4 &&& 51) := by decide +kernel
theorem msk_le (x m k : Nat) : x &&& msk m k ≤ x := Nat.and_le_left
theorem s1_le : ∀ k x, x / 2 &&& msk 85 k ≤ x := fun k x => Nat.le_trans (msk_le _ _ _) (Nat.div_le_self _ _)
theorem s1_s (h l k : Nat) (hl : l < 256) : s1 (h * 256 + l) (k + 1) = s1 h k * 256 + s1 l 1 := by
  unfold s1
  rw [and_msk _ 85 k (by decide), and_msk _ 85 0 (by decide)]
  have e1 : (h * 256 + l) / 2 / 256 = h / 2 := by omega
  have e2 : (h * 256 + l) / 2 % 256 = (h % 2) * 128 + l / 2 := by omega
  have e3 : l / 2 / 256 = 0 := by omega
  have e4 : l / 2 % 256 = l / 2 := by omega
  rw [e1, e2, e3, e4]
  obtain ⟨p1, p2⟩ := k1 (h % 2) (by omega) l hl
  rw [p1]
  have p3 := s1_le k h
  have e5 : 0 &&& msk 85 0 = 0 := Nat.zero_and _
  rw [e5]
  omega
theorem s2_s (h l k : Nat) (hl : l < 256) : s2 (h * 256 + l) (k + 1) = s2 h k * 256 + s2 l 1 := by
  unfold s2
  rw [and_msk _ 51 k (by decide), and_msk _ 51 k (by decide), and_msk _ 51 0 (by decide), and_msk _ 51 0 (by decide)]
  have e1 : (h * 256 + l) / 4 / 256 = h / 4 := by omega
  have e2 : (h * 256 + l) / 4 % 256 = (h % 4) * 64 + l / 4 := by omega
  have e3 : l / 4 / 256 = 0 := by omega
  have e4 : l / 4 % 256 = l / 4 := by omega
  have e6 : (h * 256 + l) / 256 = h := by omega
  have e7 : (h * 256 + l) % 256 = l := by omega
  have e8 : l / 256 = 0 := by omega
  have e9 : l % 256 = l := by omega
  rw [e1, e2, e3, e4, e6, e7, e8, e9, k2 (h % 4) (by omega) l hl]
  have e5 : 0 &&& msk 51 0 = 0 := Nat.zero_and _
  rw [e5]
  omega
/-- k bytes, each of two nibbles up to 4 -/
def nib : Nat → Nat → Prop
  | 0, x => x = 0
  | k + 1, x => x % 16 ≤ 4 ∧ x / 16 % 16 ≤ 4 ∧ nib k (x / 256)
theorem k3 : ∀ h, h ≤ 4 → ∀ a, a ≤ 4 → ∀ b, b ≤ 4 → ((h * 16 + a * 16 + b + a) &&& 15) = a + b := by decide +kernel
theorem s3_s (h l k : Nat) (h0 : h % 16 ≤ 4) (hh : nib k h) (hl : l % 16 ≤ 4) (hl2 : l / 16 ≤ 4) : s3 (h * 256 + l) (k + 1) = s3 h k * 256 + s3 l 1 := by
  unfold s3
  rw [and_msk _ 15 k (by decide), and_msk _ 15 0 (by decide)]
  have e1 : (h * 256 + l + (h * 256 + l) / 16) / 256 = h + h / 16 := by omega
  have e2 : (h * 256 + l + (h * 256 + l) / 16) % 256 = (h % 16) * 16 + (l / 16) * 16 + l % 16 + l / 16 := by omega
  have e3 : (l + l / 16) / 256 = 0 := by omega
  have e4 : (l + l / 16) % 256 = 0 * 16 + (l / 16) * 16 + l % 16 + l / 16 := by omega
  rw [e1, e2, e3, e4, k3 _ h0 _ hl2 _ hl, k3 0 (by decide) _ hl2 _ hl]
  have e5 : 0 &&& msk 15 0 = 0 := Nat.zero_and _
  rw [e5]
  omega
/-- one byte -/
theorem k4 : ∀ l, l < 256 → s2 (s1 l 1) 1 % 16 ≤ 4 ∧ s2 (s1 l 1) 1 / 16 ≤ 4 ∧ s3 (s2 (s1 l 1) 1) 1 = cntB l 8 ∧ s1 l 1 < 256 := by decide +kernel
def byts (b : Nat → Nat) : Nat → Nat
  | 0 => 0
  | k + 1 => byts (fun i => b (i + 1)) k * 256 + b 0
theorem st12 : ∀ (k : Nat) (b : Nat → Nat), (∀ i, b i < 256) → s2 (s1 (byts b k) k) k = byts (fun i => s2 (s1 (b i) 1) 1) k
  | 0, b, _ => by simp [byts, s1, s2, msk]
  | k + 1, b, hb => by
    have ih := st12 k (fun i => b (i + 1)) (fun i => hb (i + 1))
    show s2 (s1 (byts (fun i => b (i + 1)) k * 256 + b 0) (k + 1)) (k + 1) = _
    rw [s1_s _ _ _ (hb 0), s2_s _ _ _ (k4 (b 0) (hb 0)).2.2.2, ih]
    rfl
theorem nib_b : ∀ (k : Nat) (b : Nat → Nat), (∀ i, b i % 16 ≤ 4 ∧ b i / 16 ≤ 4) → nib k (byts b k) ∧ byts b k % 16 ≤ 4
  | 0, b, _ => ⟨rfl, Nat.zero_le _⟩
  | k + 1, b, hb => by
    have ih := nib_b k (fun i => b (i + 1)) (fun i => hb (i + 1))
    have h0 := hb 0
    have e1 : byts b (k + 1) = byts (fun i => b (i + 1)) k * 256 + b 0 := rfl
    refine ⟨⟨by rw [e1]; omega, by rw [e1]; omega, ?_⟩, by rw [e1]; omega⟩
    rw [e1, show (byts (fun i => b (i + 1)) k * 256 + b 0) / 256 = byts (fun i => b (i + 1)) k by omega]
    exact ih.1
theorem st3 : ∀ (k : Nat) (b : Nat → Nat), (∀ i, b i % 16 ≤ 4 ∧ b i / 16 ≤ 4) → s3 (byts b k) k = byts (fun i => s3 (b i) 1) k
  | 0, b, _ => by simp [byts, s3, msk]
  | k + 1, b, hb => by
    have ih := st3 k (fun i => b (i + 1)) (fun i => hb (i + 1))
    have h2 := nib_b k (fun i => b (i + 1)) (fun i => hb (i + 1))
    show s3 (byts (fun i => b (i + 1)) k * 256 + b 0) (k + 1) = _
    rw [s3_s _ _ _ h2.2 h2.1 (hb 0).1 (hb 0).2, ih]
    rfl
theorem st123 (k : Nat) (b : Nat → Nat) (hb : ∀ i, b i < 256) : s3 (s2 (s1 (byts b k) k) k) k = byts (fun i => cntB (b i) 8) k := by
  rw [st12 k b hb, st3 k _ (fun i => ⟨(k4 (b i) (hb i)).1, (k4 (b i) (hb i)).2.1⟩)]
  have : (fun i => s3 (s2 (s1 (b i) 1) 1) 1) = fun i => cntB (b i) 8 := funext fun i => (k4 (b i) (hb i)).2.2.1
  rw [this]
theorem cntB_8 : ∀ l, l < 256 → cntB l 8 ≤ 8 := by decide +kernel
theorem wb_sub {a b : Nat} (h : b ≤ a) : lN a - lN b = lN (a - b) := by
  apply wb_inj
  rw [Int64.toBitVec_sub, wb_tb, wb_tb, wb_tb]
  obtain ⟨d, rfl⟩ : ∃ d, a = b + d := ⟨a - b, by omega⟩
  rw [Nat.add_sub_cancel_left, BitVec.ofNat_add, BitVec.add_comm, BitVec.add_sub_cancel]
theorem wb_add (a b : Nat) : lN a + lN b = lN (a + b) := by
  apply wb_inj
  rw [Int64.toBitVec_add, wb_tb, wb_tb, wb_tb, BitVec.ofNat_add]
theorem wb_32 (a : Nat) : (lN a).toInt32 = nI a := by
  apply Int32.toBitVec_inj.mp
  show (BitVec.ofNat 64 a).signExtend 32 = BitVec.ofNat 32 a
  apply BitVec.eq_of_toNat_eq
  rw [BitVec.signExtend_eq_setWidth_of_le _ (by decide), BitVec.toNat_setWidth, BitVec.toNat_ofNat, BitVec.toNat_ofNat]
  exact Nat.mod_mod_of_dvd _ (by decide)
theorem nx_127 (k : Nat) : nI k &&& 127 = nI (k % 128) := by
  show nI k &&& nI 127 = _
  rw [nx_and, show (127 : Nat) = 2 ^ 7 - 1 from rfl, Nat.and_two_pow_sub_one_eq_mod]
theorem s2_lt (x : Nat) : s2 x 8 ≤ 2 * msk 51 8 := by
  unfold s2
  have h1 : x &&& msk 51 8 ≤ msk 51 8 := Nat.and_le_right
  have h2 : x / 4 &&& msk 51 8 ≤ msk 51 8 := Nat.and_le_right
  omega
theorem byts8 (b : Nat → Nat) : byts b 8 = (((((((b 7 * 256 + b 6) * 256 + b 5) * 256 + b 4) * 256 + b 3) * 256 + b 2) * 256 + b 1) * 256 + b 0) := by
  simp [byts]
theorem fold8 {q0 q1 q2 q3 q4 q5 q6 q7 D : Nat} (p0 : q0 ≤ 8) (p1 : q1 ≤ 8) (p2 : q2 ≤ 8) (p3 : q3 ≤ 8) (p4 : q4 ≤ 8) (p5 : q5 ≤ 8) (p6 : q6 ≤ 8) (p7 : q7 ≤ 8) (e : D = (((((((q7 * 256 + q6) * 256 + q5) * 256 + q4) * 256 + q3) * 256 + q2) * 256 + q1) * 256 + q0)) :
    (D + D / 2 ^ 8 + (D + D / 2 ^ 8) / 2 ^ 16 + (D + D / 2 ^ 8 + (D + D / 2 ^ 8) / 2 ^ 16) / 2 ^ 32) % 128 = q0 + q1 + q2 + q3 + q4 + q5 + q6 + q7 := by
  have e1 : D / 2 ^ 8 = ((((((q7 * 256 + q6) * 256 + q5) * 256 + q4) * 256 + q3) * 256 + q2) * 256 + q1) := by omega
  have e2 : ∃ F, F = D + D / 2 ^ 8 := ⟨_, rfl⟩
  obtain ⟨F, e2⟩ := e2
  have e3 : F = ((((((q7 * 256 + (q6 + q7)) * 256 + (q5 + q6)) * 256 + (q4 + q5)) * 256 + (q3 + q4)) * 256 + (q2 + q3)) * 256 + (q1 + q2)) * 256 + (q0 + q1) := by omega
  rw [← e2]
  clear e2 e1 e
  have e4 : F / 2 ^ 16 = ((((q7 * 256 + (q6 + q7)) * 256 + (q5 + q6)) * 256 + (q4 + q5)) * 256 + (q3 + q4)) * 256 + (q2 + q3) := by omega
  obtain ⟨H, e5⟩ : ∃ H, H = F + F / 2 ^ 16 := ⟨_, rfl⟩
  have e6 : H = ((((((q7 * 256 + (q6 + q7)) * 256 + (q5 + q6 + q7)) * 256 + (q4 + q5 + (q6 + q7))) * 256 + (q3 + q4 + (q5 + q6))) * 256 + (q2 + q3 + (q4 + q5))) * 256 + (q1 + q2 + (q3 + q4))) * 256 + (q0 + q1 + (q2 + q3)) := by omega
  rw [← e5]
  clear e5 e4 e3
  have e7 : H / 2 ^ 32 = (((q7 * 256 + (q6 + q7)) * 256 + (q5 + q6 + q7)) * 256 + (q4 + q5 + (q6 + q7))) := by omega
  obtain ⟨R, hR⟩ : ∃ R, R = q1 + q2 + (q3 + q4) + 256 * (q2 + q3 + (q4 + q5)) + 65536 * (q3 + q4 + (q5 + q6)) := ⟨_, rfl⟩
  obtain ⟨T, hT⟩ : ∃ T, T = ((q7 * 256 + (q6 + q7)) * 256 + (q5 + q6 + q7)) := ⟨_, rfl⟩
  have e8 : H + H / 2 ^ 32 = (q0 + q1 + q2 + q3 + q4 + q5 + q6 + q7) + 128 * (2 * R + 2 * (16777216 * (q4 + q5 + (q6 + q7))) + 2 * (4294967296 * T) + 2 * T) := by omega
  rw [e8, Nat.add_mul_mod_self_left, Nat.mod_eq_of_lt (by omega)]
theorem bcL_lN {N : Nat} (hN : N < 2 ^ 64) : bcL (lN N) = nI (cntB N 64) := by
  have e85 : (6148914691236517205 : Int64) = lN (msk 85 8) := by decide
  have e51 : (3689348814741910323 : Int64) = lN (msk 51 8) := by decide
  have e15 : (1085102592571150095 : Int64) = lN (msk 15 8) := by decide
  have m85 : msk 85 8 < 2 ^ 64 := by decide
  have m51 : msk 51 8 < 2 ^ 64 := by decide
  have m15 : msk 15 8 < 2 ^ 64 := by decide
  have i1 : (1 : Int32) = nI 1 := rfl
  have i2 : (2 : Int32) = nI 2 := rfl
  have i4 : (4 : Int32) = nI 4 := rfl
  have i8 : (8 : Int32) = nI 8 := rfl
  have i16 : (16 : Int32) = nI 16 := rfl
  have i32 : (32 : Int32) = nI 32 := rfl
  obtain ⟨b, eb⟩ : ∃ b : Nat → Nat, ∀ i, b i = N / 256 ^ i % 256 := ⟨_, fun _ => rfl⟩
  have hb : ∀ i, b i < 256 := fun i => by rw [eb]; exact Nat.mod_lt _ (by decide)
  have eN : N = byts b 8 := by
    rw [byts8, eb, eb, eb, eb, eb, eb, eb, eb]
    omega
  have h123 := st123 8 b hb
  rw [← eN] at h123
  have hs1 : s1 N 8 ≤ N := Nat.sub_le _ _
  have hs2 := s2_lt (s1 N 8)
  have m51v : msk 51 8 = 3689348814741910323 := by decide
  unfold bcL
  rw [e85, e51, e15, i1, i2, i4, i8, i16, i32]
  rw [wb_shr hN (by decide), wb_and (Nat.lt_of_le_of_lt (Nat.div_le_self _ _) hN) m85, wb_sub (s1_le 8 N)]
  rw [show N - (N / 2 ^ 1 &&& msk 85 8) = s1 N 8 from rfl]
  dsimp only
  rw [wb_shr (show s1 N 8 < 2 ^ 64 by omega) (by decide), wb_and (show s1 N 8 < 2 ^ 64 by omega) m51, wb_and (Nat.lt_of_le_of_lt (Nat.div_le_self _ _) (show s1 N 8 < 2 ^ 64 by omega)) m51, wb_add]
  rw [show (s1 N 8 &&& msk 51 8) + (s1 N 8 / 2 ^ 2 &&& msk 51 8) = s2 (s1 N 8) 8 from rfl]
  rw [wb_shr (show s2 (s1 N 8) 8 < 2 ^ 64 by omega) (by decide), wb_add, wb_and (show s2 (s1 N 8) 8 + s2 (s1 N 8) 8 / 2 ^ 4 < 2 ^ 64 by omega) m15]
  rw [show (s2 (s1 N 8) 8 + s2 (s1 N 8) 8 / 2 ^ 4 &&& msk 15 8) = s3 (s2 (s1 N 8) 8) 8 from rfl, h123, byts8]
  have hp : ∀ i, cntB (b i) 8 ≤ 8 := fun i => cntB_8 (b i) (hb i)
  have p0 := hp 0
  have p1 := hp 1
  have p2 := hp 2
  have p3 := hp 3
  have p4 := hp 4
  have p5 := hp 5
  have p6 := hp 6
  have p7 := hp 7
  have eT : cntB N 64 = cntB (b 0) 8 + cntB (b 1) 8 + cntB (b 2) 8 + cntB (b 3) 8 + cntB (b 4) 8 + cntB (b 5) 8 + cntB (b 6) 8 + cntB (b 7) 8 := by
    have key : ∀ m i, 2 ^ m = 256 ^ i → cntB N (m + 8) = cntB N m + cntB (b i) 8 := by
      intro m i e
      have hj : ∀ j, j < 8 → N / 2 ^ (m + j) % 2 = b i / 2 ^ j % 2 := by
        intro j hj
        rw [eb, ← e, Nat.pow_add, ← Nat.div_div_eq_div_mul]
        generalize N / 2 ^ m = M
        rcases (show j = 0 ∨ j = 1 ∨ j = 2 ∨ j = 3 ∨ j = 4 ∨ j = 5 ∨ j = 6 ∨ j = 7 by omega) with rfl | rfl | rfl | rfl | rfl | rfl | rfl | rfl <;> omega
      show cntB N m + N / 2 ^ (m + 0) % 2 + N / 2 ^ (m + 1) % 2 + N / 2 ^ (m + 2) % 2 + N / 2 ^ (m + 3) % 2 + N / 2 ^ (m + 4) % 2 + N / 2 ^ (m + 5) % 2 + N / 2 ^ (m + 6) % 2 + N / 2 ^ (m + 7) % 2 = cntB N m + (0 + b i / 2 ^ 0 % 2 + b i / 2 ^ 1 % 2 + b i / 2 ^ 2 % 2 + b i / 2 ^ 3 % 2 + b i / 2 ^ 4 % 2 + b i / 2 ^ 5 % 2 + b i / 2 ^ 6 % 2 + b i / 2 ^ 7 % 2)
      rw [hj 0 (by decide), hj 1 (by decide), hj 2 (by decide), hj 3 (by decide), hj 4 (by decide), hj 5 (by decide), hj 6 (by decide), hj 7 (by decide)]
      omega
    have a0 : cntB N 8 = cntB N 0 + cntB (b 0) 8 := key 0 0 (by decide)
    have a1 : cntB N 16 = cntB N 8 + cntB (b 1) 8 := key 8 1 (by decide)
    have a2 : cntB N 24 = cntB N 16 + cntB (b 2) 8 := key 16 2 (by decide)
    have a3 : cntB N 32 = cntB N 24 + cntB (b 3) 8 := key 24 3 (by decide)
    have a4 : cntB N 40 = cntB N 32 + cntB (b 4) 8 := key 32 4 (by decide)
    have a5 : cntB N 48 = cntB N 40 + cntB (b 5) 8 := key 40 5 (by decide)
    have a6 : cntB N 56 = cntB N 48 + cntB (b 6) 8 := key 48 6 (by decide)
    have a7 : cntB N 64 = cntB N 56 + cntB (b 7) 8 := key 56 7 (by decide)
    have a8 : cntB N 0 = 0 := rfl
    omega
  rw [eT]
  generalize cntB (b 0) 8 = q0 at p0
  generalize cntB (b 1) 8 = q1 at p1
  generalize cntB (b 2) 8 = q2 at p2
  generalize cntB (b 3) 8 = q3 at p3
  generalize cntB (b 4) 8 = q4 at p4
  generalize cntB (b 5) 8 = q5 at p5
  generalize cntB (b 6) 8 = q6 at p6
  generalize cntB (b 7) 8 = q7 at p7
  rw [wb_shr (by omega) (by decide), wb_add, wb_shr (by omega) (by decide), wb_add, wb_shr (by omega) (by decide), wb_add, wb_32, nx_127]
  congr 1
  exact fold8 p0 p1 p2 p3 p4 p5 p6 p7 rfl
/-- modelCount -/
theorem cntB_bit {X : Int64} : ∀ k, k ≤ 64 → cntB X.toBitVec.toNat (k + 1) = cntB X.toBitVec.toNat k + (if bitL X k = true then 1 else 0) ∨ 64 ≤ k := fun k hk => by
  rcases Nat.lt_or_ge k 64 with h | h
  · left
    rw [bitL_get h]
    show _ + X.toBitVec.toNat / 2 ^ k % 2 = _
    rw [← BitVec.testBit_toNat, Nat.testBit_eq_decide_div_mod_eq]
    generalize X.toBitVec.toNat / 2 ^ k = M
    by_cases h1 : M % 2 = 1
    · simp [h1]
    · simp [h1]; omega
  · exact Or.inr h
theorem mcM_eq {md : Nat → Int64} {wt : Nat → Int32} {n : Nat} {sf : Nat → Int32} (h : cOk md wt n sf) (vf : Nat → Int32) (sel : Int32) : nI (mcM (vlF vf (fun zz => vioM sf zz n) 64) (sel ||| hardS sf n) 64) = bcL (modsOf md wt sel n) := by
  obtain ⟨N, hN, e⟩ := wb_of (modsOf md wt sel n)
  have e2 : (modsOf md wt sel n).toBitVec.toNat = N := by rw [e]; exact wb_tn hN
  rw [e, bcL_lN hN]
  congr 1
  have key : ∀ k, k ≤ 64 → mcM (vlF vf (fun zz => vioM sf zz n) 64) (sel ||| hardS sf n) k = cntB N k := by
    intro k
    induction k with
    | zero => intro _; rfl
    | succ k ih =>
      intro hk
      have h1 := ih (by omega)
      rcases cntB_bit (X := modsOf md wt sel n) k (by omega) with h2 | h2
      · rw [e2] at h2
        rw [h2]
        unfold mcM
        rw [h1]
        have h3 : vlF vf (fun zz => vioM sf zz n) 64 k = violM md k n := by
          unfold vlF
          rw [if_pos (by omega)]
          exact h.vio (by omega)
        have h4 := hit_eq (md := md) (wt := wt) (sel := sel) h.1 (show k < 64 by omega)
        have h5 : (sel ||| hardS sf n) = (sel ||| ((bitI n - 1) &&& notI (softM wt n))) := by unfold hardS; rw [h.soft]
        rw [h3, h5, ← h4]
        by_cases h6 : violM md k n &&& (sel ||| ((bitI n - 1) &&& notI (softM wt n))) = 0
        · rw [if_pos h6, if_pos (by rw [h6]; rfl)]
        · rw [if_neg h6, if_neg (by simpa using h6)]
      · omega
  exact key 64 (Nat.le_refl _)
