/-! ===== how many bits: the JDK's way ===== -/
theorem and_split {k a b c d : Nat} (hb : b < 2 ^ k) (hd : d < 2 ^ k) : (2 ^ k * a + b) &&& (2 ^ k * c + d) = 2 ^ k * (a &&& c) + (b &&& d) := by
  have hbd : b &&& d < 2 ^ k := Nat.lt_of_le_of_lt Nat.and_le_left hb
  apply Nat.eq_of_testBit_eq
  intro i
  rw [Nat.testBit_and, Nat.testBit_two_pow_mul_add a hb, Nat.testBit_two_pow_mul_add c hd, Nat.testBit_two_pow_mul_add _ hbd]
  split
  · rw [Nat.testBit_and]
  · rw [Nat.testBit_and]
theorem and16 {a b c d : Nat} (hb : b < 16) (hd : d < 16) : (16 * a + b) &&& (16 * c + d) = 16 * (a &&& c) + (b &&& d) := and_split (k := 4) hb hd
/-- nine digits to 16 -/
def v9 (f : Nat → Nat) : Nat := 16 * (16 * (16 * (16 * (16 * (16 * (16 * (16 * (16 * 0 + f 8) + f 7) + f 6) + f 5) + f 4) + f 3) + f 2) + f 1) + f 0
theorem v9_and {f g : Nat → Nat} (hf : ∀ i, i < 9 → f i < 16) (hg : ∀ i, i < 9 → g i < 16) : v9 f &&& v9 g = v9 (fun i => f i &&& g i) := by
  unfold v9
  rw [and16 (hf 0 (by omega)) (hg 0 (by omega)), and16 (hf 1 (by omega)) (hg 1 (by omega)), and16 (hf 2 (by omega)) (hg 2 (by omega)), and16 (hf 3 (by omega)) (hg 3 (by omega)), and16 (hf 4 (by omega)) (hg 4 (by omega)), and16 (hf 5 (by omega)) (hg 5 (by omega)), and16 (hf 6 (by omega)) (hg 6 (by omega)), and16 (hf 7 (by omega)) (hg 7 (by omega)), and16 (hf 8 (by omega)) (hg 8 (by omega))]
  rfl
theorem v9_cong {f g : Nat → Nat} (h : ∀ i, i < 9 → f i = g i) : v9 f = v9 g := by
  unfold v9
  rw [h 0 (by omega), h 1 (by omega), h 2 (by omega), h 3 (by omega), h 4 (by omega), h 5 (by omega), h 6 (by omega), h 7 (by omega), h 8 (by omega)]
theorem v9_of {x : Nat} (h : x < 2 ^ 36) : x = v9 (fun i => x / 16 ^ i % 16) := by
  unfold v9
  simp only [Nat.pow_zero, Nat.div_one, show (16 : Nat) ^ 1 = 16 from rfl, show (16 : Nat) ^ 2 = 256 from rfl, show (16 : Nat) ^ 3 = 4096 from rfl, show (16 : Nat) ^ 4 = 65536 from rfl, show (16 : Nat) ^ 5 = 1048576 from rfl, show (16 : Nat) ^ 6 = 16777216 from rfl, show (16 : Nat) ^ 7 = 268435456 from rfl, show (16 : Nat) ^ 8 = 4294967296 from rfl]
  omega
theorem v9_hi {a m : Nat} (c : Nat) (ha : a < 2 ^ 36) (hm : m < 2 ^ 36) : a &&& (2 ^ 36 * c + m) = a &&& m := by
  have w := and_split (k := 36) (a := 0) (b := a) (c := c) (d := m) ha hm
  rw [Nat.mul_zero, Nat.zero_add, Nat.zero_and, Nat.mul_zero, Nat.zero_add] at w
  exact w
def P4 (n : Nat) : Nat := n % 2 + n / 2 % 2 + n / 4 % 2 + n / 8 % 2
theorem q1 : ∀ n, n < 16 → ∀ b, b < 2 → ((n / 2 + 8 * b) &&& 5) ≤ n ∧ n / 2 + 8 * b < 16 ∧ ((n / 2 + 8 * b) &&& 5) = ((n / 2) &&& 5) := by decide +kernel
theorem q2 : ∀ n, n < 16 → ∀ b, b < 4 → n - ((n / 2) &&& 5) < 16 ∧ ((n - ((n / 2) &&& 5)) / 4 + 4 * b) < 16 ∧ (((n - ((n / 2) &&& 5)) &&& 3) + (((n - ((n / 2) &&& 5)) / 4 + 4 * b) &&& 3)) = P4 n ∧ P4 n ≤ 4 := by decide +kernel
def m5 : Nat := 6148914691236517205
def m3 : Nat := 3689348814741910323
def mF : Nat := 1085102592571150095
theorem m5_9 : m5 = 2 ^ 36 * 89478485 + v9 (fun _ => 5) := by decide +kernel
theorem m3_9 : m3 = 2 ^ 36 * 53687091 + v9 (fun _ => 3) := by decide +kernel
theorem mF_9 : mF = 2 ^ 36 * 15790320 + v9 (fun i => if i % 2 = 0 then 15 else 0) := by decide +kernel
theorem v9_lt {f : Nat → Nat} (hf : ∀ i, i < 9 → f i < 16) : v9 f < 2 ^ 36 := by
  have h0 := hf 0 (by omega)
  have h1 := hf 1 (by omega)
  have h2 := hf 2 (by omega)
  have h3 := hf 3 (by omega)
  have h4 := hf 4 (by omega)
  have h5 := hf 5 (by omega)
  have h6 := hf 6 (by omega)
  have h7 := hf 7 (by omega)
  have h8 := hf 8 (by omega)
  unfold v9
  omega
/-- the three steps, on digits -/
theorem pop1 (n : Nat → Nat) (hn : ∀ i, i < 9 → n i < 16) (h9 : n 9 = 0) : v9 n / 2 &&& m5 = v9 (fun i => (n i / 2) &&& 5) ∧ v9 n - v9 (fun i => (n i / 2) &&& 5) = v9 (fun i => n i - ((n i / 2) &&& 5)) := by
  have e : v9 n / 2 = v9 (fun i => n i / 2 + 8 * (n (i + 1) % 2)) := by
    unfold v9
    simp only [Nat.reduceAdd, h9]
    omega
  have hq : ∀ i, i < 9 → ((n i / 2) &&& 5) ≤ n i := fun i hi => by
    have := q1 (n i) (hn i hi) 0 (by omega)
    rw [← this.2.2]; exact this.1
  refine ⟨?_, ?_⟩
  · rw [e, m5_9, v9_hi _ (v9_lt (fun i hi => (q1 (n i) (hn i hi) _ (Nat.mod_lt _ (by decide))).2.1)) (v9_lt (fun _ _ => by omega)), v9_and (fun i hi => (q1 (n i) (hn i hi) _ (Nat.mod_lt _ (by decide))).2.1) (fun _ _ => by omega)]
    exact v9_cong (fun i hi => (q1 (n i) (hn i hi) _ (Nat.mod_lt _ (by decide))).2.2)
  · have a0 := hq 0 (by omega)
    have a1 := hq 1 (by omega)
    have a2 := hq 2 (by omega)
    have a3 := hq 3 (by omega)
    have a4 := hq 4 (by omega)
    have a5 := hq 5 (by omega)
    have a6 := hq 6 (by omega)
    have a7 := hq 7 (by omega)
    have a8 := hq 8 (by omega)
    unfold v9
    simp only
    omega
theorem pop2 (n : Nat → Nat) (hn : ∀ i, i < 9 → n i < 16) (h9 : n 9 = 0) : (v9 (fun i => n i - ((n i / 2) &&& 5)) &&& m3) + (v9 (fun i => n i - ((n i / 2) &&& 5)) / 4 &&& m3) = v9 (fun i => P4 (n i)) := by
  have hu : ∀ i, i < 9 → n i - ((n i / 2) &&& 5) < 16 := fun i hi => (q2 (n i) (hn i hi) 0 (by omega)).1
  have e : v9 (fun i => n i - ((n i / 2) &&& 5)) / 4 = v9 (fun i => (n i - ((n i / 2) &&& 5)) / 4 + 4 * ((n (i + 1) - ((n (i + 1) / 2) &&& 5)) % 4)) := by
    unfold v9
    simp only [Nat.reduceAdd, h9, show (0 / 2 &&& 5) = 0 from rfl]
    omega
  have hv : ∀ i, i < 9 → (n i - ((n i / 2) &&& 5)) / 4 + 4 * ((n (i + 1) - ((n (i + 1) / 2) &&& 5)) % 4) < 16 := fun i hi => (q2 (n i) (hn i hi) _ (Nat.mod_lt _ (by decide))).2.1
  rw [e, m3_9, v9_hi _ (v9_lt hu) (v9_lt (fun _ _ => by omega)), v9_hi _ (v9_lt hv) (v9_lt (fun _ _ => by omega)), v9_and hu (fun _ _ => by omega), v9_and hv (fun _ _ => by omega)]
  have hs : ∀ i, i < 9 → (((n i - ((n i / 2) &&& 5)) &&& 3) + (((n i - ((n i / 2) &&& 5)) / 4 + 4 * ((n (i + 1) - ((n (i + 1) / 2) &&& 5)) % 4)) &&& 3)) = P4 (n i) := fun i hi => (q2 (n i) (hn i hi) _ (Nat.mod_lt _ (by decide))).2.2.1
  have a0 := hs 0 (by omega)
  have a1 := hs 1 (by omega)
  have a2 := hs 2 (by omega)
  have a3 := hs 3 (by omega)
  have a4 := hs 4 (by omega)
  have a5 := hs 5 (by omega)
  have a6 := hs 6 (by omega)
  have a7 := hs 7 (by omega)
  have a8 := hs 8 (by omega)
  unfold v9
  simp only
  rw [← a0, ← a1, ← a2, ← a3, ← a4, ← a5, ← a6, ← a7, ← a8]
  omega
theorem q3 : ∀ a, a < 9 → (a &&& 15) = a ∧ (a &&& 0) = 0 := by decide +kernel
theorem pop3 (p : Nat → Nat) (hp : ∀ i, i < 9 → p i ≤ 4) (h9 : p 9 = 0) : (v9 p + v9 p / 16) &&& mF = v9 (fun i => if i % 2 = 0 then p i + p (i + 1) else 0) := by
  have e : v9 p + v9 p / 16 = v9 (fun i => p i + p (i + 1)) := by
    have a0 := hp 0 (by omega)
    have a1 := hp 1 (by omega)
    have a2 := hp 2 (by omega)
    have a3 := hp 3 (by omega)
    have a4 := hp 4 (by omega)
    have a5 := hp 5 (by omega)
    have a6 := hp 6 (by omega)
    have a7 := hp 7 (by omega)
    have a8 := hp 8 (by omega)
    unfold v9
    simp only [Nat.reduceAdd, h9]
    omega
  have hv : ∀ i, i < 9 → p i + p (i + 1) < 9 := fun i hi => by
    have a := hp i hi
    rcases (show i + 1 < 9 ∨ i + 1 = 9 by omega) with q | q
    · have b := hp (i + 1) q
      omega
    · rw [q, h9]; omega
  have h16 : ∀ i, i < 9 → (fun i => if i % 2 = 0 then 15 else 0) i < 16 := fun i _ => by
    show (if i % 2 = 0 then 15 else 0) < 16
    split <;> omega
  rw [e, mF_9, v9_hi _ (v9_lt (fun i hi => by have := hv i hi; omega)) (v9_lt h16), v9_and (fun i hi => by have := hv i hi; omega) h16]
  refine v9_cong (fun i hi => ?_)
  show (p i + p (i + 1) &&& if i % 2 = 0 then 15 else 0) = _
  split
  · exact (q3 _ (hv i hi)).1
  · exact (q3 _ (hv i hi)).2
def cb (x : Nat) : Nat := P4 (x / 16 ^ 0 % 16) + P4 (x / 16 ^ 1 % 16) + P4 (x / 16 ^ 2 % 16) + P4 (x / 16 ^ 3 % 16) + P4 (x / 16 ^ 4 % 16) + P4 (x / 16 ^ 5 % 16) + P4 (x / 16 ^ 6 % 16) + P4 (x / 16 ^ 7 % 16) + P4 (x / 16 ^ 8 % 16)
def popN (x : Nat) : Nat :=
  let y1 := x - (x / 2 &&& m5)
  let y2 := (y1 &&& m3) + (y1 / 4 &&& m3)
  let y3 := (y2 + y2 / 16) &&& mF
  let y4 := y3 + y3 / 256
  let y5 := y4 + y4 / 65536
  y5 + y5 / 4294967296
theorem pop4 {s0 s1 s2 s3 s4 y : Nat} (h0 : s0 ≤ 8) (h1 : s1 ≤ 8) (h2 : s2 ≤ 8) (h3 : s3 ≤ 8) (h4 : s4 ≤ 8) (hy : y = s0 + 256 * s1 + 65536 * s2 + 16777216 * s3 + 4294967296 * s4) : ((y + y / 256 + (y + y / 256) / 65536) + (y + y / 256 + (y + y / 256) / 65536) / 4294967296) % 128 = s0 + s1 + s2 + s3 + s4 := by
  have e1 : y / 256 = s1 + 256 * s2 + 65536 * s3 + 16777216 * s4 := by omega
  have e2 : y + y / 256 = (s0 + s1) + 256 * (s1 + s2) + 65536 * (s2 + s3) + 16777216 * (s3 + s4) + 4294967296 * s4 := by omega
  rw [e2]
  have e3 : ((s0 + s1) + 256 * (s1 + s2) + 65536 * (s2 + s3) + 16777216 * (s3 + s4) + 4294967296 * s4) / 65536 = (s2 + s3) + 256 * (s3 + s4) + 65536 * s4 := by omega
  rw [e3]
  have e4 : ((s0 + s1) + 256 * (s1 + s2) + 65536 * (s2 + s3) + 16777216 * (s3 + s4) + 4294967296 * s4 + ((s2 + s3) + 256 * (s3 + s4) + 65536 * s4)) / 4294967296 = s4 := by omega
  rw [e4]
  omega
theorem pop_n {x : Nat} (h : x < 2 ^ 36) : popN x % 128 = cb x ∧ cb x ≤ 36 ∧ (x - (x / 2 &&& m5)) < 2 ^ 36 ∧ (x / 2 &&& m5) ≤ x := by
  have hn : ∀ i, i < 9 → x / 16 ^ i % 16 < 16 := fun i _ => Nat.mod_lt _ (by decide)
  have h9 : (fun i => x / 16 ^ i % 16) 9 = 0 := by
    show x / 16 ^ 9 % 16 = 0
    rw [show (16 : Nat) ^ 9 = 68719476736 from rfl]
    omega
  obtain ⟨e1, e2⟩ := pop1 (fun i => x / 16 ^ i % 16) hn h9
  have e3 := pop2 (fun i => x / 16 ^ i % 16) hn h9
  have hp : ∀ i, i < 9 → (fun i => P4 (x / 16 ^ i % 16)) i ≤ 4 := fun i hi => (q2 _ (hn i hi) 0 (by omega)).2.2.2
  have e4 := pop3 (fun i => P4 (x / 16 ^ i % 16)) hp (by
    show P4 (x / 16 ^ 9 % 16) = 0
    rw [show x / 16 ^ 9 % 16 = 0 from h9]; rfl)
  rw [← v9_of h] at e1 e2
  have hle : (x / 2 &&& m5) ≤ x := by
    have := Nat.and_le_left (n := x / 2) (m := m5)
    omega
  refine ⟨?_, ?_, by omega, hle⟩
  · unfold popN
    simp only
    rw [e1, e2, e3, e4]
    have a0 := hp 0 (by omega)
    have a1 := hp 1 (by omega)
    have a2 := hp 2 (by omega)
    have a3 := hp 3 (by omega)
    have a4 := hp 4 (by omega)
    have a5 := hp 5 (by omega)
    have a6 := hp 6 (by omega)
    have a7 := hp 7 (by omega)
    have a8 := hp 8 (by omega)
    have a9 : (fun i => P4 (x / 16 ^ i % 16)) 9 = 0 := by
      show P4 (x / 16 ^ 9 % 16) = 0
      rw [show x / 16 ^ 9 % 16 = 0 from h9]; rfl
    simp only at a0 a1 a2 a3 a4 a5 a6 a7 a8 a9
    unfold v9 cb
    simp only [show (0 : Nat) % 2 = 0 from rfl, show ¬ (1 : Nat) % 2 = 0 by decide, show (2 : Nat) % 2 = 0 from rfl, show ¬ (3 : Nat) % 2 = 0 by decide, show (4 : Nat) % 2 = 0 from rfl, show ¬ (5 : Nat) % 2 = 0 by decide, show (6 : Nat) % 2 = 0 from rfl, show ¬ (7 : Nat) % 2 = 0 by decide, show (8 : Nat) % 2 = 0 from rfl, if_true, if_false, Nat.zero_add, show (2 : Nat) + 1 = 3 from rfl, show (4 : Nat) + 1 = 5 from rfl, show (6 : Nat) + 1 = 7 from rfl, show (8 : Nat) + 1 = 9 from rfl, a9]
    rw [pop4 (s0 := P4 (x / 16 ^ 0 % 16) + P4 (x / 16 ^ 1 % 16)) (s1 := P4 (x / 16 ^ 2 % 16) + P4 (x / 16 ^ 3 % 16)) (s2 := P4 (x / 16 ^ 4 % 16) + P4 (x / 16 ^ 5 % 16)) (s3 := P4 (x / 16 ^ 6 % 16) + P4 (x / 16 ^ 7 % 16)) (s4 := P4 (x / 16 ^ 8 % 16) + 0) (by omega) (by omega) (by omega) (by omega) (by omega) (by omega)]
    omega
  · have a0 := hp 0 (by omega)
    have a1 := hp 1 (by omega)
    have a2 := hp 2 (by omega)
    have a3 := hp 3 (by omega)
    have a4 := hp 4 (by omega)
    have a5 := hp 5 (by omega)
    have a6 := hp 6 (by omega)
    have a7 := hp 7 (by omega)
    have a8 := hp 8 (by omega)
    simp only at a0 a1 a2 a3 a4 a5 a6 a7 a8
    unfold cb
    omega
/-! ===== on longs and ints ===== -/
theorem lN_and (a b : Nat) : lN a &&& lN b = lN (a &&& b) := by
  apply Int64.toBitVec_inj.mp
  rw [Int64.toBitVec_and]
  show BitVec.ofNat 64 a &&& BitVec.ofNat 64 b = BitVec.ofNat 64 (a &&& b)
  apply BitVec.eq_of_toNat_eq
  simp [BitVec.toNat_and, BitVec.toNat_ofNat, Nat.and_mod_two_pow]
theorem lN_shr {k s : Nat} (hk : k < 2 ^ 63) (hs : s < 64) : jlushr (lN k) (nI s) = lN (k / 2 ^ s) := by
  apply bit_ext
  intro i hi
  rw [bit_ushr s hs, bit_lN _ _ hi, Nat.testBit_div_two_pow]
  rcases Nat.lt_or_ge (s + i) 64 with q | q
  · rw [bit_lN _ _ q, Nat.add_comm]
  · rw [bit_big q, Nat.testBit_lt_two_pow (Nat.lt_of_lt_of_le hk (Nat.pow_le_pow_right (by decide) (by omega)))]
theorem lN_low {k : Nat} (hk : k < 2 ^ 63) : (lN k).toInt32 &&& 127 = nI (k % 128) := by
  apply bt_ext
  intro i hi
  rw [bt_and]
  have e1 : bt (lN k).toInt32 i = k.testBit i := by
    show ((lN k).toBitVec.signExtend 32).getLsbD i = _
    rw [BitVec.getLsbD_signExtend]
    have := bit_lN k i (by omega)
    unfold bit at this
    rw [this]
    simp [hi]
    omega
  have e2 : ∀ j, j < 32 → bt 127 j = decide (j < 7) := by decide +kernel
  have e3 : bt (nI (k % 128)) i = (k % 2 ^ 7).testBit i := by
    show (BitVec.ofNat 32 (k % 128)).getLsbD i = _
    rw [BitVec.getLsbD_ofNat]
    simp [hi]
  rw [e1, e2 i hi, e3, Nat.testBit_mod_two_pow, Bool.and_comm]
theorem popJ {k : Nat} (h : k < 2 ^ 36) : f_J13_bitCount_95d88 (lN k) = nI (cb k) := by
  obtain ⟨w1, w2, w3, w4⟩ := pop_n h
  have u1 : (k - (k / 2 &&& m5)) &&& m3 ≤ k - (k / 2 &&& m5) := Nat.and_le_left
  have u2 : (k - (k / 2 &&& m5)) / 4 &&& m3 ≤ (k - (k / 2 &&& m5)) / 4 := Nat.and_le_left
  unfold popN at w1
  simp only at w1
  unfold f_J13_bitCount_95d88
  simp only [jlet_s]
  rw [show (1 : Int32) = nI 1 from rfl, show (2 : Int32) = nI 2 from rfl, show (4 : Int32) = nI 4 from rfl, show (8 : Int32) = nI 8 from rfl, show (16 : Int32) = nI 16 from rfl, show (32 : Int32) = nI 32 from rfl, show (6148914691236517205 : Int64) = lN m5 from rfl, show (3689348814741910323 : Int64) = lN m3 from rfl, show (1085102592571150095 : Int64) = lN mF from rfl]
  rw [lN_shr (k := k) (by omega) (by omega), lN_and, lN_sub (by rw [show k / 2 ^ 1 = k / 2 from rfl]; exact w4), show k / 2 ^ 1 = k / 2 from rfl]
  generalize k - (k / 2 &&& m5) = y1 at *
  rw [lN_shr (k := y1) (by omega) (by omega), lN_and, lN_and, lN_add, show y1 / 2 ^ 2 = y1 / 4 from rfl]
  have h2 : (y1 &&& m3) + (y1 / 4 &&& m3) < 2 ^ 38 := by omega
  generalize (y1 &&& m3) + (y1 / 4 &&& m3) = y2 at *
  rw [lN_shr (k := y2) (by omega) (by omega), lN_add, lN_and, show y2 / 2 ^ 4 = y2 / 16 from rfl]
  have h3 : (y2 + y2 / 16) &&& mF < 2 ^ 40 := Nat.lt_of_le_of_lt Nat.and_le_left (by omega)
  generalize (y2 + y2 / 16) &&& mF = y3 at *
  rw [lN_shr (k := y3) (by omega) (by omega), lN_add, show y3 / 2 ^ 8 = y3 / 256 from rfl]
  have h4 : y3 + y3 / 256 < 2 ^ 42 := by omega
  generalize y3 + y3 / 256 = y4 at *
  rw [lN_shr (k := y4) (by omega) (by omega), lN_add, show y4 / 2 ^ 16 = y4 / 65536 from rfl]
  have h5 : y4 + y4 / 65536 < 2 ^ 44 := by omega
  generalize y4 + y4 / 65536 = y5 at *
  rw [lN_shr (k := y5) (by omega) (by omega), lN_add, show y5 / 2 ^ 32 = y5 / 4294967296 from rfl]
  rw [lN_low (by omega), w1]
/-- the bits of a number, counted one by one -/
def cnt (p : Nat → Bool) : Nat → Nat
  | 0 => 0
  | n + 1 => cnt p n + (if p n then 1 else 0)
theorem cnt_cong {p q : Nat → Bool} : ∀ {n : Nat}, (∀ i, i < n → p i = q i) → cnt p n = cnt q n
  | 0, _ => rfl
  | n + 1, h => by
    unfold cnt
    rw [cnt_cong (fun i hi => h i (by omega)), h n (by omega)]
theorem cnt_le (p : Nat → Bool) : ∀ n, cnt p n ≤ n
  | 0 => Nat.le_refl _
  | n + 1 => by
    have := cnt_le p n
    unfold cnt
    split <;> omega
theorem tb_mod (x i : Nat) : (if x.testBit i then 1 else 0) = x / 2 ^ i % 2 := by
  rw [Nat.testBit_eq_decide_div_mod_eq]
  have := Nat.mod_two_eq_zero_or_one (x / 2 ^ i)
  rcases this with h | h <;> rw [h] <;> rfl
theorem cb_cnt {x : Nat} (h : x < 2 ^ 36) : cnt x.testBit 36 = cb x := by
  unfold cb P4
  simp only [cnt, tb_mod]
  simp only [Nat.div_div_eq_div_mul, Nat.reducePow, Nat.reduceMul, Nat.div_one, Nat.zero_add]
  have e : ∀ d, x / d % 16 % 2 = x / d % 2 := fun d => by omega
  have e2 : ∀ d, x / d % 16 / 2 % 2 = x / d / 2 % 2 := fun d => by omega
  have e4 : ∀ d, x / d % 16 / 4 % 2 = x / d / 4 % 2 := fun d => by omega
  have e8 : ∀ d, x / d % 16 / 8 % 2 = x / d / 8 % 2 := fun d => by omega
  have f1 : x % 16 % 2 = x % 2 := by omega
  have f2 : x % 16 / 2 % 2 = x / 2 % 2 := by omega
  have f4 : x % 16 / 4 % 2 = x / 4 % 2 := by omega
  have f8 : x % 16 / 8 % 2 = x / 8 % 2 := by omega
  simp only [e, e2, e4, e8, f1, f2, f4, f8, Nat.div_div_eq_div_mul, Nat.reduceMul]
  omega
/-- the count of a set of cells, in both -/
theorem bits_lN (x : Int64) (h : ∀ b, 36 ≤ b → bit x b = false) : ∃ k, k < 2 ^ 36 ∧ x = lN k := by
  have hx : x = lN x.toBitVec.toNat := by
    apply Int64.toBitVec_inj.mp
    show _ = BitVec.ofNat 64 _
    simp
  refine ⟨x.toBitVec.toNat, Nat.lt_pow_two_of_testBit _ (fun i hi => ?_), hx⟩
  exact h i hi
theorem popX (x : Int64) (h : ∀ b, 36 ≤ b → bit x b = false) : f_J13_bitCount_95d88 x = nI (cnt (bit x) 36) := by
  obtain ⟨k, hk, rfl⟩ := bits_lN x h
  rw [popJ hk, ← cb_cnt hk]
  congr 1
  exact cnt_cong (fun i hi => (bit_lN k i (by omega)).symm)
theorem bitsM (x : Int64) : f_X10_bitsOf x = some (nI (cnt (bit x) 36)) := by
  unfold f_X10_bitsOf
  refine jloop (fun k i (a : Int32) => f_X10_bitsOf_L4 k x a (nI i)) 36 (fun i a => a = nI (cnt (bit x) i)) (fun r => r = some (nI (cnt (bit x) 36))) ?_ ?_ FU 0 0 (by omega) (by unfold FU; omega) rfl
  · intro k i a hi hp
    refine Or.inr ⟨nI (cnt (bit x) (i + 1)), rfl, ?_⟩
    show f_X10_bitsOf_L4 (k + 1) x a (nI i) = _
    rw [ef_X10_bitsOf_L4, if_neg (nle36 hi), has_b _ (by omega), jlet_s, hp]
    unfold f_X10_bitsOf_L24
    show _ = f_X10_bitsOf_L4 k x (nI (cnt (bit x) i + (if bit x i then 1 else 0))) (nI (i + 1))
    cases bit x i with
    | false => rw [if_pos (by decide), if_neg (by decide), jlet_s, jlet_s, nI_1, Int32.add_zero]; rfl
    | true => rw [if_neg (by decide), if_pos rfl, jlet_s, jlet_s, nI_1, nI_1]
  · intro k a hp
    show f_X10_bitsOf_L4 (k + 1) x a (nI 36) = _
    rw [ef_X10_bitsOf_L4, if_pos (by decide), hp]
theorem nI_and2 (a b : Nat) : nI a &&& nI b = nI (a &&& b) := by
  apply Int32.toBitVec_inj.mp
  rw [Int32.toBitVec_and]
  show BitVec.ofNat 32 a &&& BitVec.ofNat 32 b = BitVec.ofNat 32 (a &&& b)
  apply BitVec.eq_of_toNat_eq
  simp [BitVec.toNat_and, BitVec.toNat_ofNat, Nat.and_mod_two_pow]
theorem bt_nI (k i : Nat) (hi : i < 32) : bt (nI k) i = k.testBit i := by
  show (BitVec.ofNat 32 k).getLsbD i = _
  rw [BitVec.getLsbD_ofNat]
  simp [hi]
theorem si_u : ∀ n, n < 32 → (((nI n).toUInt32 &&& Int32.toUInt32 31).toBitVec % 32).toNat = n := by decide +kernel
theorem bt_ushr (n : Nat) (hn : n < 32) (x : Int32) (i : Nat) : bt (jushr x (nI n)) i = bt x (n + i) := by
  show (x.toUInt32 >>> ((nI n).toUInt32 &&& Int32.toUInt32 31)).toBitVec.getLsbD i = x.toUInt32.toBitVec.getLsbD (n + i)
  rw [UInt32.toBitVec_shiftRight]
  show (x.toUInt32.toBitVec >>> (((nI n).toUInt32 &&& Int32.toUInt32 31).toBitVec % 32).toNat).getLsbD i = _
  rw [si_u n hn, BitVec.getLsbD_ushiftRight]
theorem nI_shr {k s : Nat} (hk : k < 2 ^ 31) (hs : s < 32) : jushr (nI k) (nI s) = nI (k / 2 ^ s) := by
  apply bt_ext
  intro i hi
  rw [bt_ushr s hs, bt_nI _ _ hi, Nat.testBit_div_two_pow]
  rcases Nat.lt_or_ge (s + i) 32 with q | q
  · rw [bt_nI _ _ q, Nat.add_comm]
  · rw [bt_big q, Nat.testBit_lt_two_pow (Nat.lt_of_lt_of_le hk (Nat.pow_le_pow_right (by decide) (by omega)))]
theorem and_hi32 {a m : Nat} (c : Nat) (ha : a < 2 ^ 32) (hm : m < 2 ^ 32) : a &&& (2 ^ 32 * c + m) = a &&& m := by
  have w := and_split (k := 32) (a := 0) (b := a) (c := c) (d := m) ha hm
  rw [Nat.mul_zero, Nat.zero_add, Nat.zero_and, Nat.mul_zero, Nat.zero_add] at w
  exact w
theorem m5_32 : m5 = 2 ^ 32 * 1431655765 + 1431655765 := by decide +kernel
theorem m3_32 : m3 = 2 ^ 32 * 858993459 + 858993459 := by decide +kernel
theorem mF_32 : mF = 2 ^ 32 * 252645135 + 252645135 := by decide +kernel
theorem nI_63 (k : Nat) : nI k &&& 63 = nI (k % 64) := by
  rw [show (63 : Int32) = nI 63 from rfl, nI_and2, show 63 = 2 ^ 6 - 1 from rfl, Nat.and_two_pow_sub_one_eq_mod]
theorem popI {k : Nat} (h : k < 2 ^ 24) : f_J6_bitCount_0f7a4 (nI k) = nI (cb k) := by
  obtain ⟨w1, w2, w3, w4⟩ := pop_n (show k < 2 ^ 36 by omega)
  have u1 : (k - (k / 2 &&& m5)) &&& m3 ≤ k - (k / 2 &&& m5) := Nat.and_le_left
  have u2 : (k - (k / 2 &&& m5)) / 4 &&& m3 ≤ (k - (k / 2 &&& m5)) / 4 := Nat.and_le_left
  have u3 : k - (k / 2 &&& m5) ≤ k := Nat.sub_le _ _
  unfold popN at w1
  simp only at w1
  unfold f_J6_bitCount_0f7a4
  simp only [jlet_s]
  rw [show (1 : Int32) = nI 1 from rfl, show (2 : Int32) = nI 2 from rfl, show (4 : Int32) = nI 4 from rfl, show (8 : Int32) = nI 8 from rfl, show (16 : Int32) = nI 16 from rfl, show (1431655765 : Int32) = nI 1431655765 from rfl, show (858993459 : Int32) = nI 858993459 from rfl, show (252645135 : Int32) = nI 252645135 from rfl]
  rw [nI_shr (k := k) (by omega) (by omega), nI_and2, show k / 2 ^ 1 = k / 2 from rfl, ← and_hi32 (a := k / 2) 1431655765 (by omega) (by omega), ← m5_32, pk_sub w4]
  generalize k - (k / 2 &&& m5) = y1 at *
  rw [nI_shr (k := y1) (by omega) (by omega), nI_and2, nI_and2, nI_add, show y1 / 2 ^ 2 = y1 / 4 from rfl, ← and_hi32 (a := y1) 858993459 (by omega) (by omega), ← m3_32, ← and_hi32 (a := y1 / 4) 858993459 (by omega) (by omega), ← m3_32]
  have h2 : (y1 &&& m3) + (y1 / 4 &&& m3) < 2 ^ 25 := by omega
  generalize (y1 &&& m3) + (y1 / 4 &&& m3) = y2 at *
  rw [nI_shr (k := y2) (by omega) (by omega), nI_add, nI_and2, show y2 / 2 ^ 4 = y2 / 16 from rfl, ← and_hi32 (a := y2 + y2 / 16) 252645135 (by omega) (by omega), ← mF_32]
  have h3 : (y2 + y2 / 16) &&& mF < 2 ^ 26 := Nat.lt_of_le_of_lt Nat.and_le_left (by omega)
  generalize (y2 + y2 / 16) &&& mF = y3 at *
  rw [nI_shr (k := y3) (by omega) (by omega), nI_add, show y3 / 2 ^ 8 = y3 / 256 from rfl]
  have h4 : y3 + y3 / 256 < 2 ^ 27 := by omega
  generalize y3 + y3 / 256 = y4 at *
  rw [nI_shr (k := y4) (by omega) (by omega), nI_add, show y4 / 2 ^ 16 = y4 / 65536 from rfl]
  have h5 : y4 + y4 / 65536 < 2 ^ 28 := by omega
  generalize y4 + y4 / 65536 = y5 at *
  rw [nI_63]
  congr 1
  omega
theorem popI2 {k : Nat} (h : k < 2 ^ 24) : f_X10_bitsOf (nI k).toInt64 = some (nI (cb k)) := by
  rw [nI_l (by omega), bitsM, ← cb_cnt (show k < 2 ^ 36 by omega)]
  congr 2
  exact cnt_cong (fun i hi => bit_lN k i (by omega))
