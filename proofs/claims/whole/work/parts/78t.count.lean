/-! pure: Long.bitCount -/
def mk8 (m : Nat) : Nat → Nat
  | 0 => 0
  | k + 1 => 256 * mk8 m k + m
theorem and_split {x y b m : Nat} (hb : b < 256) (hm : m < 256) : (256 * x + b) &&& (256 * y + m) = 256 * (x &&& y) + (b &&& m) := by
  have h1 : ((256 * x + b) &&& (256 * y + m)) / 2 ^ 8 = x &&& y := by
    rw [Nat.and_div_two_pow]
    congr 1 <;> omega
  have h2 : ((256 * x + b) &&& (256 * y + m)) % 2 ^ 8 = b &&& m := by
    rw [Nat.and_mod_two_pow]
    congr 1 <;> omega
  omega
def s1 (k x : Nat) : Nat := x - ((x / 2) &&& mk8 85 k)
def s2 (k x : Nat) : Nat := (x &&& mk8 51 k) + ((x / 4) &&& mk8 51 k)
def s3 (k x : Nat) : Nat := (x + x / 16) &&& mk8 15 k
set_option maxRecDepth 100000 in
theorem b1 : ∀ r, r < 2 → ∀ b, b < 256 → (128 * r + b / 2) &&& 85 = (b / 2) &&& 85 := by decide +kernel
set_option maxRecDepth 100000 in
theorem b2b : ∀ r, r < 4 → ∀ b, b < 256 → (64 * r + b / 4) &&& 51 = (b / 4) &&& 51 := by decide +kernel
def p1 (b : Nat) : Nat := b - ((b / 2) &&& 85)
def p2 (b : Nat) : Nat := (b &&& 51) + ((b / 4) &&& 51)
def pc8 (b : Nat) : Nat := b % 2 + b / 2 % 2 + b / 4 % 2 + b / 8 % 2 + b / 16 % 2 + b / 32 % 2 + b / 64 % 2 + b / 128 % 2
set_option maxRecDepth 100000 in
theorem b3 : ∀ b, b < 256 → p1 b < 256 ∧ p2 (p1 b) % 16 ≤ 4 ∧ p2 (p1 b) ≤ 68 ∧ (p2 (p1 b) + p2 (p1 b) / 16) % 16 = pc8 b := by decide +kernel
theorem s1_s {k y b : Nat} (hb : b < 256) : s1 (k + 1) (256 * y + b) = 256 * s1 k y + p1 b := by
  unfold s1 p1
  rw [show (256 * y + b) / 2 = 256 * (y / 2) + (128 * (y % 2) + b / 2) by omega, show mk8 85 (k + 1) = 256 * mk8 85 k + 85 from rfl, and_split (by omega) (by omega), b1 (y % 2) (by omega) b hb]
  have h1 : (y / 2 &&& mk8 85 k) ≤ y / 2 := Nat.and_le_left
  have h2 : (b / 2 &&& 85) ≤ b / 2 := Nat.and_le_left
  omega
theorem s2_s {k y b : Nat} (hb : b < 256) : s2 (k + 1) (256 * y + b) = 256 * s2 k y + p2 b := by
  unfold s2 p2
  rw [show (256 * y + b) / 4 = 256 * (y / 4) + (64 * (y % 4) + b / 4) by omega, show mk8 51 (k + 1) = 256 * mk8 51 k + 51 from rfl, and_split hb (by omega), and_split (b := 64 * (y % 4) + b / 4) (by omega) (by omega), b2b (y % 4) (by omega) b hb]
  omega
theorem s3_s {k y b : Nat} (hb : b ≤ 68) (hy : y % 16 ≤ 4) : s3 (k + 1) (256 * y + b) = 256 * s3 k y + (b + b / 16) % 16 := by
  unfold s3
  rw [show 256 * y + b + (256 * y + b) / 16 = 256 * (y + y / 16) + (b + b / 16 + 16 * (y % 16)) by omega, show mk8 15 (k + 1) = 256 * mk8 15 k + 15 from rfl, and_split (by omega) (by omega), show 15 = 2 ^ 4 - 1 from rfl, Nat.and_two_pow_sub_one_eq_mod]
  omega
/-- the counts of the bytes, as bytes -/
def sB : Nat → Nat → Nat
  | 0, _ => 0
  | k + 1, x => 256 * sB k (x / 256) + pc8 (x % 256)
theorem s123 : ∀ (k x : Nat), x < 256 ^ k → s2 k (s1 k x) % 16 ≤ 4 ∧ s3 k (s2 k (s1 k x)) = sB k x := by
  intro k
  induction k with
  | zero =>
    intro x hx
    obtain rfl : x = 0 := by rw [Nat.pow_zero] at hx; omega
    decide
  | succ k ih =>
    intro x hx
    have hb : x % 256 < 256 := Nat.mod_lt _ (by decide)
    obtain ⟨c1, c2, c3, c4⟩ := b3 (x % 256) hb
    have hy : x / 256 < 256 ^ k := by
      rw [Nat.pow_succ] at hx
      exact Nat.div_lt_of_lt_mul (by rw [Nat.mul_comm]; exact hx)
    obtain ⟨i1, i2⟩ := ih (x / 256) hy
    have hx' : x = 256 * (x / 256) + x % 256 := by omega
    have e1 : s1 (k + 1) x = 256 * s1 k (x / 256) + p1 (x % 256) := by
      conv => lhs; rw [hx']
      exact s1_s hb
    rw [e1, s2_s c1]
    refine ⟨by omega, ?_⟩
    rw [s3_s c3 i1, i2, c4]
    rfl
def cb (x : Nat) : Nat → Nat
  | 0 => 0
  | k + 1 => cb x k + (if x.testBit k = true then 1 else 0)
theorem cb_1 (x k : Nat) : cb x (k + 1) = cb x k + x / 2 ^ k % 2 := by
  show cb x k + (if x.testBit k = true then 1 else 0) = _
  rw [Nat.testBit_eq_decide_div_mod_eq]
  have := Nat.mod_lt (x / 2 ^ k) (show 2 > 0 by decide)
  by_cases h : x / 2 ^ k % 2 = 1
  · rw [if_pos (decide_eq_true h), h]
  · rw [if_neg (by rw [decide_eq_true_eq]; exact h)]; omega
theorem cb_8 (x k : Nat) : cb x (k + 8) = cb x k + pc8 (x / 2 ^ k % 256) := by
  have e : ∀ j, x / 2 ^ (k + j) = x / 2 ^ k / 2 ^ j := fun j => by rw [Nat.pow_add, Nat.div_div_eq_div_mul]
  have h : cb x (k + 8) = cb x k + x / 2 ^ k % 2 + x / 2 ^ (k + 1) % 2 + x / 2 ^ (k + 2) % 2 + x / 2 ^ (k + 3) % 2 + x / 2 ^ (k + 4) % 2 + x / 2 ^ (k + 5) % 2 + x / 2 ^ (k + 6) % 2 + x / 2 ^ (k + 7) % 2 := by
    rw [show k + 8 = k + 7 + 1 from rfl, cb_1, show k + 7 = k + 6 + 1 from rfl, cb_1, show k + 6 = k + 5 + 1 from rfl, cb_1, show k + 5 = k + 4 + 1 from rfl, cb_1, show k + 4 = k + 3 + 1 from rfl, cb_1, show k + 3 = k + 2 + 1 from rfl, cb_1, show k + 2 = k + 1 + 1 from rfl, cb_1, cb_1]
  rw [h, e 1, e 2, e 3, e 4, e 5, e 6, e 7]
  unfold pc8
  generalize x / 2 ^ k = y
  omega
theorem pc8_le (b : Nat) : pc8 b ≤ 8 := by unfold pc8; omega
theorem fold_8 {x : Nat} : ∀ a4 a5 a6 a3, a3 = sB 8 x → a4 = a3 + a3 / 256 → a5 = a4 + a4 / 65536 → a6 = a5 + a5 / 4294967296 → a6 % 128 = cb x 64 ∧ a6 < 2 ^ 63 := by
  intro a4 a5 a6 a3 h3 h4 h5 h6
  have hc : cb x 64 = pc8 (x / 2 ^ 0 % 256) + pc8 (x / 2 ^ 8 % 256) + pc8 (x / 2 ^ 16 % 256) + pc8 (x / 2 ^ 24 % 256) + pc8 (x / 2 ^ 32 % 256) + pc8 (x / 2 ^ 40 % 256) + pc8 (x / 2 ^ 48 % 256) + pc8 (x / 2 ^ 56 % 256) := by
    rw [show 64 = 56 + 8 from rfl, cb_8, show 56 = 48 + 8 from rfl, cb_8, show 48 = 40 + 8 from rfl, cb_8, show 40 = 32 + 8 from rfl, cb_8, show 32 = 24 + 8 from rfl, cb_8, show 24 = 16 + 8 from rfl, cb_8, show 16 = 8 + 8 from rfl, cb_8, show 8 = 0 + 8 from rfl, cb_8]
    show 0 + _ + _ + _ + _ + _ + _ + _ + _ = _
    rw [Nat.zero_add]
  have hs : sB 8 x = pc8 (x / 2 ^ 0 % 256) + 256 * (pc8 (x / 2 ^ 8 % 256) + 256 * (pc8 (x / 2 ^ 16 % 256) + 256 * (pc8 (x / 2 ^ 24 % 256) + 256 * (pc8 (x / 2 ^ 32 % 256) + 256 * (pc8 (x / 2 ^ 40 % 256) + 256 * (pc8 (x / 2 ^ 48 % 256) + 256 * pc8 (x / 2 ^ 56 % 256))))))) := by
    have d : ∀ j, x / 2 ^ j / 256 = x / 2 ^ (j + 8) := fun j => by rw [Nat.pow_add, Nat.div_div_eq_div_mul]
    have u : ∀ k j, sB (k + 1) (x / 2 ^ j) = pc8 (x / 2 ^ j % 256) + 256 * sB k (x / 2 ^ (j + 8)) := fun k j => by
      show 256 * sB k (x / 2 ^ j / 256) + _ = _
      rw [d]; omega
    have h0 : sB 8 x = sB (7 + 1) (x / 2 ^ 0) := by rw [Nat.pow_zero, Nat.div_one]
    rw [h0, u 7 0, u 6, u 5, u 4, u 3, u 2, u 1, u 0]
    rfl
  have l0 := pc8_le (x / 2 ^ 0 % 256)
  have l1 := pc8_le (x / 2 ^ 8 % 256)
  have l2 := pc8_le (x / 2 ^ 16 % 256)
  have l3 := pc8_le (x / 2 ^ 24 % 256)
  have l4 := pc8_le (x / 2 ^ 32 % 256)
  have l5 := pc8_le (x / 2 ^ 40 % 256)
  have l6 := pc8_le (x / 2 ^ 48 % 256)
  have l7 := pc8_le (x / 2 ^ 56 % 256)
  rw [hs] at h3
  rw [hc]
  generalize pc8 (x / 2 ^ 0 % 256) = q0 at *
  generalize pc8 (x / 2 ^ 8 % 256) = q1 at *
  generalize pc8 (x / 2 ^ 16 % 256) = q2 at *
  generalize pc8 (x / 2 ^ 24 % 256) = q3 at *
  generalize pc8 (x / 2 ^ 32 % 256) = q4 at *
  generalize pc8 (x / 2 ^ 40 % 256) = q5 at *
  generalize pc8 (x / 2 ^ 48 % 256) = q6 at *
  generalize pc8 (x / 2 ^ 56 % 256) = q7 at *
  have e4 : a4 = (q0 + q1) + 256 * ((q1 + q2) + 256 * ((q2 + q3) + 256 * ((q3 + q4) + 256 * ((q4 + q5) + 256 * ((q5 + q6) + 256 * ((q6 + q7) + 256 * q7)))))) := by omega
  have e5 : a5 = (q0 + q1 + q2 + q3) + 256 * ((q1 + q2 + q3 + q4) + 256 * ((q2 + q3 + q4 + q5) + 256 * ((q3 + q4 + q5 + q6) + 256 * ((q4 + q5 + q6 + q7) + 256 * ((q5 + q6 + q7) + 256 * ((q6 + q7) + 256 * q7)))))) := by omega
  have e6 : a6 = (q0 + q1 + q2 + q3 + q4 + q5 + q6 + q7) + 256 * ((q1 + q2 + q3 + q4 + q5 + q6 + q7) + 256 * ((q2 + q3 + q4 + q5 + q6 + q7) + 256 * ((q3 + q4 + q5 + q6 + q7) + 256 * ((q4 + q5 + q6 + q7) + 256 * ((q5 + q6 + q7) + 256 * ((q6 + q7) + 256 * q7)))))) := by omega
  omega
theorem ush {x k : Nat} {K : UInt64} (hx : x < 2 ^ 64) (hK : (K.toBitVec % 64).toNat = k) : ((lN x).toUInt64 >>> K).toInt64 = lN (x / 2 ^ k) := by
  apply wb_inj
  show ((lN x).toUInt64 >>> K).toBitVec = _
  rw [UInt64.toBitVec_shiftRight]
  apply BitVec.eq_of_toNat_eq
  have hd : x / 2 ^ k ≤ x := Nat.div_le_self _ _
  rw [BitVec.ushiftRight_eq', BitVec.toNat_ushiftRight, show (lN x).toUInt64.toBitVec = (lN x).toBitVec from rfl, wb_tn hx, wb_tn (by omega), Nat.shiftRight_eq_div_pow]
  congr 2
abbrev sK (k : Int32) : UInt64 := k.toInt64.toUInt64 &&& Int64.toUInt64 63
def e1 (a : Int64) : Int64 := a - ((a.toUInt64 >>> sK 1).toInt64 &&& (6148914691236517205 : Int64))
def e2 (a : Int64) : Int64 := (a &&& (3689348814741910323 : Int64)) + ((a.toUInt64 >>> sK 2).toInt64 &&& (3689348814741910323 : Int64))
def e3 (a : Int64) : Int64 := (a + (a.toUInt64 >>> sK 4).toInt64) &&& (1085102592571150095 : Int64)
def e4 (k : Int32) (a : Int64) : Int64 := a + (a.toUInt64 >>> sK k).toInt64
theorem bc_eq (a : Int64) : f_J13_bitCount_95d88 a = some ((e4 32 (e4 16 (e4 8 (e3 (e2 (e1 a)))))).toInt32 &&& (127 : Int32)) := rfl
