/-! pure: configs as numbers (the first rows are taken from kit/laws) -/
theorem wb_tb (n : Nat) : (lN n).toBitVec = BitVec.ofNat 64 n := rfl
theorem wb_inj {a b : Int64} (h : a.toBitVec = b.toBitVec) : a = b := Int64.toBitVec_inj.mp h
theorem wb_tn {n : Nat} (h : n < 2 ^ 64) : (lN n).toBitVec.toNat = n := by rw [wb_tb, BitVec.toNat_ofNat, Nat.mod_eq_of_lt h]
theorem wb_c : ∀ k, k < 64 → ((nI k).toInt64 &&& 63) = lN k := by decide +kernel
theorem wb_sm : ∀ k, k < 64 → (BitVec.ofNat 64 k).smod 64 = BitVec.ofNat 64 k := by decide +kernel
theorem wb_shl (n : Nat) {k : Nat} (hk : k < 64) : lN n <<< ((nI k).toInt64 &&& 63) = lN (n * 2 ^ k) := by
  rw [wb_c k hk]
  apply wb_inj
  rw [Int64.toBitVec_shiftLeft, wb_tb, wb_tb, wb_tb, wb_sm k hk]
  apply BitVec.eq_of_toNat_eq
  rw [BitVec.shiftLeft_eq', BitVec.toNat_shiftLeft, BitVec.toNat_ofNat, BitVec.toNat_ofNat, BitVec.toNat_ofNat, Nat.mod_eq_of_lt (show k < 2 ^ 64 by omega), Nat.shiftLeft_eq, Nat.mul_mod, Nat.mod_mod, ← Nat.mul_mod]
theorem wb_or {a b : Nat} (ha : a < 2 ^ 64) (hb : b < 2 ^ 64) : lN a ||| lN b = lN (a ||| b) := by
  apply wb_inj
  rw [Int64.toBitVec_or, wb_tb, wb_tb, wb_tb]
  apply BitVec.eq_of_toNat_eq
  rw [BitVec.toNat_or, BitVec.toNat_ofNat, BitVec.toNat_ofNat, BitVec.toNat_ofNat, Nat.mod_eq_of_lt ha, Nat.mod_eq_of_lt hb, Nat.mod_eq_of_lt (Nat.or_lt_two_pow ha hb)]
theorem pf_lI {a : Nat} (h : a < 2 ^ 63) : (lN a).toInt = (a : Int) := lg_ofNat_toInt h
theorem pf_shr {a d : Nat} {D : Int64} (hD : (D.toBitVec.smod 64).toNat = d) (h : a < 2 ^ 62) : lN a >>> D = lN (a / 2 ^ d) := by
  have hd : a / 2 ^ d ≤ a := Nat.div_le_self _ _
  apply Int64.toInt_inj.mp
  have e : (lN a >>> D).toInt = (lN a).toInt >>> d := by
    rw [← hD]
    exact BitVec.toInt_sshiftRight ..
  rw [e, Int.shiftRight_eq_div_pow, pf_lI (by omega), pf_lI (by omega)]
  rfl
theorem fa_and (a b : Nat) : nI a &&& nI b = nI (a &&& b) := by
  apply Int32.toBitVec_inj.1
  show BitVec.ofNat 32 a &&& BitVec.ofNat 32 b = BitVec.ofNat 32 (a &&& b)
  apply BitVec.eq_of_getLsbD_eq
  intro i hi
  simp [hi]
theorem fa_or (a b : Nat) : nI a ||| nI b = nI (a ||| b) := by
  apply Int32.toBitVec_inj.1
  show BitVec.ofNat 32 a ||| BitVec.ofNat 32 b = BitVec.ofNat 32 (a ||| b)
  apply BitVec.eq_of_getLsbD_eq
  intro i hi
  simp [hi]
theorem fa_mask (n k : Nat) : nI n &&& nI (2 ^ k - 1) = nI (n % 2 ^ k) := by rw [fa_and, Nat.and_two_pow_sub_one_eq_mod]
theorem fa_or_sum {a k : Nat} (b : Nat) (h : a < 2 ^ k) : nI (2 ^ k * b) ||| nI a = nI (2 ^ k * b + a) := by rw [fa_or, Nat.two_pow_add_eq_or_of_lt h]
theorem fa_bit {n j : Nat} (hj : j < 31) : nI n &&& nI (2 ^ j) = 0 ↔ n.testBit j = false := by
  have h2 : (2 : Nat) ^ j < 2 ^ 31 := Nat.pow_lt_pow_right (by decide) hj
  have hle : n &&& 2 ^ j ≤ 2 ^ j := Nat.and_le_right
  have e : n &&& 2 ^ j = 0 ↔ n.testBit j = false := by
    constructor
    · intro h
      have h1 : (n &&& 2 ^ j).testBit j = false := by rw [h]; simp
      rw [Nat.testBit_and] at h1
      first | simpa using h1 | simpa [Nat.testBit_two_pow_self] using h1 | simpa [Nat.testBit_two_pow] using h1
    · intro h
      apply Nat.eq_of_testBit_eq
      intro i
      rw [Nat.testBit_and]
      by_cases hi : j = i
      · subst hi; simp [h]
      · first | (simp [Nat.testBit_two_pow, hi]; done) | (simp [Nat.testBit_two_pow_of_ne hi]; done)
  rw [fa_and]
  constructor
  · intro h
    apply e.mp
    rcases Nat.eq_zero_or_pos (n &&& 2 ^ j) with z | z
    · exact z
    · exact absurd h (nI_ne0 z (Nat.lt_of_le_of_lt hle h2))
  · intro h
    rw [e.mpr h]; exact nI_0

theorem or_sum {K p a k : Nat} (hp : 2 ^ k = p) (ha : a < p) (h : K * p + a < 2 ^ 64) : lN (K * p) ||| lN a = lN (K * p + a) := by
  subst hp
  rw [wb_or (by omega) (by omega), Nat.mul_comm, Nat.two_pow_add_eq_or_of_lt ha]
theorem Cb {g : tG_} {n : Nat} {c : tC} (hG : GOK g n) (hC : Cok g n c) (j : Nat) : (c.1 j = nI (cN (c.1 j)) ∧ cN (c.1 j) ≤ 30) ∧ (c.2.1 j = nI (cN (c.2.1 j)) ∧ cN (c.2.1 j) ≤ 1) ∧ (c.2.2 j = nI (cN (c.2.2 j)) ∧ cN (c.2.2 j) ≤ 9) := by
  by_cases hj : j < n
  · obtain ⟨⟨a1, a2⟩, b1, c1, c2, c3⟩ := hC.1 j hj
    obtain ⟨-, ⟨r1, r2, r3⟩, -⟩ := hG.2.2 j hj
    refine ⟨⟨a1, by omega⟩, ?_, c1, c2⟩
    rcases b1 with b1 | b1 <;> rw [b1] <;> exact ⟨rfl, by decide⟩
  · obtain ⟨a, b, d⟩ := hC.2 j (by omega)
    rw [a, b, d]
    exact ⟨⟨rfl, by decide⟩, ⟨rfl, by decide⟩, rfl, by decide⟩
def pX (c : tC) (j : Nat) : Nat := (cN (c.1 j) * 2 + cN (c.2.1 j)) * 16 + cN (c.2.2 j)
def keyN (c : tC) : Nat := ((pX c 0 * 1024 + pX c 1) * 1024 + pX c 2) * 1024 + pX c 3
def CB (c : tC) : Prop := ∀ j, (c.1 j = nI (cN (c.1 j)) ∧ cN (c.1 j) ≤ 30) ∧ (c.2.1 j = nI (cN (c.2.1 j)) ∧ cN (c.2.1 j) ≤ 1) ∧ (c.2.2 j = nI (cN (c.2.2 j)) ∧ cN (c.2.2 j) ≤ 9)
theorem pX_lt {c : tC} (h : CB c) (j : Nat) : pX c j < 1024 := by
  obtain ⟨⟨-, a⟩, ⟨-, b⟩, -, d⟩ := h j
  unfold pX; omega
theorem key_s {c : tC} (h : CB c) (m i K : Nat) (hi : i < 4) (hK : K < 2 ^ 40) : f_X2_key_4 (m + 1) c (lN K) (nI i) = f_X2_key_4 m c (lN (K * 1024 + pX c i)) (nI (i + 1)) := by
  obtain ⟨⟨a1, a2⟩, ⟨b1, b2'⟩, d1, d2⟩ := h i
  rw [f_X2_key_4, if_neg (show ¬ (4 : Int32) ≤ nI i from nI_ge (b := 4) hi (by omega))]
  simp only [inb_t (show i < 2 ^ 31 by omega) hi, nI_clamp (show i < 2 ^ 31 by omega), if_true, nI_1]
  have e1 : lN K <<< ((10 : Int32).toInt64 &&& 63) = lN (K * 1024) := wb_shl K (k := 10) (by decide)
  have e2 : (c.1 i <<< ((5 : Int32) &&& 31)).toInt64 = lN (cN (c.1 i) * 32) := by
    have := pk_shlN (n := cN (c.1 i)) ((5 : Int32) &&& 31) 5 (by decide) (by omega)
    rw [← a1] at this
    rw [this, nI_l (by omega)]
  have e3 : (c.2.2 i).toInt64 = lN (cN (c.2.2 i)) := by
    have := nI_l (n := cN (c.2.2 i)) (by omega)
    rwa [← d1] at this
  have e4 : lN (K * 1024) ||| lN (cN (c.1 i) * 32) = lN ((K * 32 + cN (c.1 i)) * 32) := by
    rw [or_sum (k := 10) (by decide) (by omega) (by omega)]; congr 1; omega
  have e5 : ∀ x, x ≤ 1 → (lN ((K * 32 + cN (c.1 i)) * 32) ||| lN (x * 16)) ||| lN (cN (c.2.2 i)) = lN (K * 1024 + ((cN (c.1 i) * 2 + x) * 16 + cN (c.2.2 i))) := by
    intro x hx
    rw [or_sum (k := 5) (by decide) (by omega) (by omega), show (K * 32 + cN (c.1 i)) * 32 + x * 16 = ((K * 32 + cN (c.1 i)) * 2 + x) * 16 by omega, or_sum (k := 4) (by decide) (by omega) (by omega)]
    congr 1; omega
  have eb : (c.2.1 i = 0) = (cN (c.2.1 i) = 0) := by
    have : (nI (cN (c.2.1 i)) = nI 0) = (cN (c.2.1 i) = 0) := propext (nI_eq (by omega) (by omega))
    rwa [← b1] at this
  simp only [e1, e2, e3, e4, eb]
  unfold pX
  by_cases hl : cN (c.2.1 i) = 0
  · rw [if_pos hl, show (0 : Int32).toInt64 = lN (0 * 16) from rfl, e5 0 (by omega), hl]
  · rw [if_neg hl, show (16 : Int32).toInt64 = lN (1 * 16) from rfl, e5 1 (by omega), show cN (c.2.1 i) = 1 by omega]
theorem keyX {c : tC} (h : CB c) : f_X2_key c = some (lN (keyN c)) := by
  unfold f_X2_key keyN
  have p0 := pX_lt h 0
  have p1 := pX_lt h 1
  have p2 := pX_lt h 2
  have p3 := pX_lt h 3
  have e := key_s h 99999 0 0 (by omega) (by omega)
  have e' : f_X2_key_4 100000 c 0 0 = _ := e
  rw [e', key_s h 99998 1 _ (by omega) (by omega), key_s h 99997 2 _ (by omega) (by omega), key_s h 99996 3 _ (by omega) (by omega), f_X2_key_4, if_pos (show (4 : Int32) ≤ nI (3 + 1) by decide)]
  simp only [Option.bind_some]
  rw [show 0 * 1024 + pX c 0 = pX c 0 by omega]
theorem bv32 (x : Int32) : x.toInt = if 2 * x.toBitVec.toNat < 4294967296 then (x.toBitVec.toNat : Int) else (x.toBitVec.toNat : Int) - 4294967296 := BitVec.toInt_eq_toNat_cond x.toBitVec
theorem sh5 (R : Nat) : (nI R >>> ((5 : Int32) &&& 31)) &&& 31 = nI (R / 32 % 32) := by
  rw [pk_and _ (m := 31) 5 (by decide)]
  have h1 : (nI R >>> ((5 : Int32) &&& 31)).toInt = (nI R).toInt >>> 5 := pk_shr _ _ 5 (by decide)
  rw [Int.shiftRight_eq_div_pow] at h1
  have h2 : (nI R).toBitVec.toNat = R % 4294967296 := BitVec.toNat_ofNat R 32
  have h3 := bv32 (nI R)
  have h4 := bv32 (nI R >>> ((5 : Int32) &&& 31))
  rw [h1, h3, h2] at h4
  congr 1
  generalize (nI R >>> ((5 : Int32) &&& 31)).toBitVec.toNat = z at *
  have h5 : ((2 ^ 5 : Nat) : Int) = 32 := rfl
  rw [h5] at h4
  show z % 32 = R / 32 % 32
  split at h4 <;> split at h4 <;> omega
theorem an15 (R : Nat) : nI R &&& 15 = nI (R % 16) := fa_mask R 4
theorem an16 (R : Nat) : (nI R &&& 16 = 0) = (R / 16 % 2 = 0) := by
  apply propext
  rw [show (16 : Int32) = nI (2 ^ 4) from rfl, fa_bit (by decide), Nat.testBit_eq_decide_div_mod_eq]
  rw [decide_eq_false_iff_not]
  show ¬ R / 16 % 2 = 1 ↔ _
  omega
theorem l_i (n : Nat) : (lN n).toInt32 = nI n := lN_i n
theorem take_s (m : Nat) (c : tC) (x1 : Int64) (R i : Nat) (hi : i < 4) (hR : R < 2 ^ 62) : f_X2_take_5 (m + 1) c x1 (lN R) (nI i) = f_X2_take_5 m (upd c.1 i (nI (R / 32 % 32)), upd c.2.1 i (nI (R / 16 % 2)), upd c.2.2 i (nI (R % 16))) x1 (lN (R / 1024)) (nI i + (-1)) := by
  rw [f_X2_take_5, if_neg (nI_pos (by omega))]
  simp only [inb_t (show i < 2 ^ 31 by omega) hi, nI_clamp (show i < 2 ^ 31 by omega), if_true, l_i, sh5, an15, an16, nar0, nar1]
  rw [show lN R >>> ((10 : Int32).toInt64 &&& 63) = lN (R / 1024) from pf_shr (d := 10) (by decide) hR]
  by_cases h : R / 16 % 2 = 0
  · rw [if_pos h, h]; rfl
  · rw [if_neg h, show R / 16 % 2 = 1 by omega]; rfl
def Z4 (c : tC) : Prop := ∀ j, 4 ≤ j → c.1 j = 0 ∧ c.2.1 j = 0 ∧ c.2.2 j = 0
theorem takeX {c c' : tC} (h : CB c) (hz : Z4 c) (hz' : Z4 c') : f_X2_take c' (lN (keyN c)) = some c := by
  unfold f_X2_take
  have p0 := pX_lt h 0
  have p1 := pX_lt h 1
  have p2 := pX_lt h 2
  have p3 := pX_lt h 3
  have hk : keyN c < 2 ^ 62 := by unfold keyN; omega
  have q1 : keyN c / 1024 < 2 ^ 62 := by omega
  have q2 : keyN c / 1024 / 1024 < 2 ^ 62 := by omega
  have q3 : keyN c / 1024 / 1024 / 1024 < 2 ^ 62 := by omega
  have e : f_X2_take_5 100000 c' (lN (keyN c)) (lN (keyN c)) 3 = _ := take_s 99999 c' (lN (keyN c)) (keyN c) 3 (by omega) hk
  rw [e, show nI 3 + (-1) = nI 2 from pk_m1 2, take_s 99998 _ _ _ 2 (by omega) q1, show nI 2 + (-1) = nI 1 from pk_m1 1, take_s 99997 _ _ _ 1 (by omega) q2, show nI 1 + (-1) = nI 0 from pk_m1 0, take_s 99996 _ _ _ 0 (by omega) q3, f_X2_take_5, if_pos (show nI 0 + (-1) < 0 by decide)]
  simp only [Option.bind_some]
  congr 1
  have k3 : keyN c % 1024 = pX c 3 := by unfold keyN; omega
  have k2 : keyN c / 1024 % 1024 = pX c 2 := by unfold keyN; omega
  have k1 : keyN c / 1024 / 1024 % 1024 = pX c 1 := by unfold keyN; omega
  have k0 : keyN c / 1024 / 1024 / 1024 = pX c 0 := by unfold keyN; omega
  have part : ∀ (R j : Nat), R % 1024 = pX c j → nI (R / 32 % 32) = c.1 j ∧ nI (R / 16 % 2) = c.2.1 j ∧ nI (R % 16) = c.2.2 j := by
    intro R j hR
    obtain ⟨⟨a1, a2⟩, ⟨b1, b2'⟩, d1, d2⟩ := h j
    unfold pX at hR
    have r1 : R / 32 % 32 = cN (c.1 j) := by omega
    have r2 : R / 16 % 2 = cN (c.2.1 j) := by omega
    have r3 : R % 16 = cN (c.2.2 j) := by omega
    rw [r1, r2, r3]
    exact ⟨a1.symm, b1.symm, d1.symm⟩
  refine tC_ext fun j => ?_
  simp only [upd]
  match j with
  | 0 => exact part _ 0 (by rw [k0]; omega)
  | 1 => exact part _ 1 k1
  | 2 => exact part _ 2 k2
  | 3 => exact part _ 3 k3
  | j + 4 =>
    have z1 := hz (j + 4) (by omega)
    have z2 := hz' (j + 4) (by omega)
    simp only [if_neg (show ¬ j + 4 = 0 by omega), if_neg (show ¬ j + 4 = 1 by omega), if_neg (show ¬ j + 4 = 2 by omega), if_neg (show ¬ j + 4 = 3 by omega)]
    rw [z1.1, z1.2.1, z1.2.2]
    exact z2
def pM (c : tC) (j : Nat) : Nat := 20 * cN (c.1 j) + 10 * cN (c.2.1 j) + cN (c.2.2 j)
def codeN (c : tC) : Nat := ((pM c 0 * 620 + pM c 1) * 620 + pM c 2) * 620 + pM c 3
theorem pM_lt {c : tC} (h : CB c) (j : Nat) : pM c j < 620 := by
  obtain ⟨⟨-, a⟩, ⟨-, b⟩, -, d⟩ := h j
  unfold pM; omega
theorem cl_s {c : tC} (h : CB c) (m i K : Nat) (hi : i < 4) : f_X9_close_4 (m + 1) c (lN K) (nI i) = f_X9_close_4 m c (lN (K * 620 + pM c i)) (nI (i + 1)) := by
  obtain ⟨⟨a1, a2⟩, ⟨b1, b2'⟩, d1, d2⟩ := h i
  rw [f_X9_close_4, if_neg (show ¬ (4 : Int32) ≤ nI i from nI_ge (b := 4) hi (by omega))]
  simp only [inb_t (show i < 2 ^ 31 by omega) hi, nI_clamp (show i < 2 ^ 31 by omega), if_true, nI_1]
  have e1 : ((20 : Int32) * c.1 i).toInt64 = lN (20 * cN (c.1 i)) := by
    have := pk_mul 20 (cN (c.1 i))
    rw [← a1] at this
    rw [show (20 : Int32) = nI 20 from rfl, this, nI_l (by omega)]
  have e2 : ((10 : Int32) * c.2.1 i).toInt64 = lN (10 * cN (c.2.1 i)) := by
    have := pk_mul 10 (cN (c.2.1 i))
    rw [← b1] at this
    rw [show (10 : Int32) = nI 10 from rfl, this, nI_l (by omega)]
  have e3 : (c.2.2 i).toInt64 = lN (cN (c.2.2 i)) := by
    have := nI_l (n := cN (c.2.2 i)) (by omega)
    rwa [← d1] at this
  rw [e1, e2, e3, show (620 : Int64) = lN 620 from rfl, lN_mul, lN_add, lN_add, lN_add, show K * 620 + 20 * cN (c.1 i) + 10 * cN (c.2.1 i) + cN (c.2.2 i) = K * 620 + pM c i by unfold pM; omega]
theorem closeM {c : tC} (h : CB c) : f_X9_close c = some (lN (codeN c)) := by
  unfold f_X9_close codeN
  have e : f_X9_close_4 100000 c 0 0 = _ := cl_s h 99999 0 0 (by omega)
  rw [e, cl_s h 99998 1 _ (by omega), cl_s h 99997 2 _ (by omega), cl_s h 99996 3 _ (by omega), f_X9_close_4, if_pos (show (4 : Int32) ≤ nI (3 + 1) by decide)]
  simp only [Option.bind_some]
  rw [show 0 * 620 + pM c 0 = pM c 0 by omega]
theorem pt_s (m g : Nat) (x0 : Int32) (K : Nat) (hg : g < 3) : f_X9_part_4 (m + 1) x0 (lN K) (nI g) = f_X9_part_4 m x0 (lN (K * 620)) (nI (g + 1)) := by
  rw [f_X9_part_4, if_neg (show ¬ (3 : Int32) ≤ nI g from nI_ge (b := 3) hg (by omega)), nI_1, show (620 : Int64) = lN 620 from rfl, lN_mul]
theorem partM {g : Nat} (hg : g < 4) : f_X9_part (nI g) = some (lN (620 ^ (3 - g))) := by
  unfold f_X9_part
  rw [show (1 : Int64) = lN 1 from rfl]
  match g, hg with
  | 0, _ => rw [pt_s 99999 0 _ _ (by omega), pt_s 99998 1 _ _ (by omega), pt_s 99997 2 _ _ (by omega), f_X9_part_4, if_pos (show (3 : Int32) ≤ nI (2 + 1) by decide)]; rfl
  | 1, _ => rw [pt_s 99999 1 _ _ (by omega), pt_s 99998 2 _ _ (by omega), f_X9_part_4, if_pos (show (3 : Int32) ≤ nI (2 + 1) by decide)]; rfl
  | 2, _ => rw [pt_s 99999 2 _ _ (by omega), f_X9_part_4, if_pos (show (3 : Int32) ≤ nI (2 + 1) by decide)]; rfl
  | 3, _ => rw [f_X9_part_4, if_pos (show (3 : Int32) ≤ nI 3 by decide)]; rfl
theorem poM {c : tC} (h : CB c) {g : Nat} (hg : g < 4) : f_X9_partOf (lN (codeN c)) (nI g) = some (nI (pM c g)) := by
  unfold f_X9_partOf
  rw [partM hg]
  have p0 := pM_lt h 0
  have p1 := pM_lt h 1
  have p2 := pM_lt h 2
  have p3 := pM_lt h 3
  have hc : codeN c < 2 ^ 63 := by unfold codeN; omega
  have key : ∀ P : Nat, 0 < P → P < 2 ^ 63 → codeN c / P % 620 = pM c g → ((some (lN P)).bind fun v1 => if decide (¬ v1 = 0) = true then some (lN (codeN c) / v1 - lN (codeN c) / v1 / 620 * 620).toInt32 else none) = some (nI (pM c g)) := by
    intro P h0 h1 h2
    simp only [Option.bind_some]
    have hne : ¬ lN P = 0 := by
      intro q
      have := (pk_lEQ (a := P) (b := 0) h1 (by omega)).mp q
      omega
    have hq : codeN c / P < 2 ^ 63 := Nat.lt_of_le_of_lt (Nat.div_le_self _ _) hc
    rw [if_pos (decide_eq_true hne), pk_lDiv hc h0 h1, show (620 : Int64) = lN 620 from rfl, pk_lRem hq (by omega) (by omega), h2, lN_i]
  match g, hg with
  | 0, _ => exact key _ (by decide) (by decide) (by show codeN c / 238328000 % 620 = _; unfold codeN; omega)
  | 1, _ => exact key _ (by decide) (by decide) (by show codeN c / 384400 % 620 = _; unfold codeN; omega)
  | 2, _ => exact key _ (by decide) (by decide) (by show codeN c / 620 % 620 = _; unfold codeN; omega)
  | 3, _ => exact key _ (by decide) (by decide) (by show codeN c / 1 % 620 = _; unfold codeN; omega)
theorem abM {c : tC} (h : CB c) {g : Nat} (hg : g < 4) : f_X9_above (lN (codeN c)) (nI g) = some (c.1 g) := by
  obtain ⟨⟨a1, a2⟩, ⟨b1, b2'⟩, d1, d2⟩ := h g
  have hp := pM_lt h g
  unfold f_X9_above
  rw [poM h hg]
  simp only [Option.bind_some]
  rw [show (20 : Int32) = nI 20 from rfl, pk_div (by omega) (by omega) (by omega), show pM c g / 20 = cN (c.1 g) by unfold pM; omega, ← a1]
theorem laM {c : tC} (h : CB c) {g : Nat} (hg : g < 4) : f_X9_laid (lN (codeN c)) (nI g) = some (c.2.1 g) := by
  obtain ⟨⟨a1, a2⟩, ⟨b1, b2'⟩, d1, d2⟩ := h g
  have hp := pM_lt h g
  unfold f_X9_laid
  rw [poM h hg]
  simp only [Option.bind_some]
  rw [show (10 : Int32) = nI 10 from rfl, show (2 : Int32) = nI 2 from rfl, pk_div (by omega) (by omega) (by omega), pk_rem (by omega) (by omega) (by omega), show pM c g / 10 % 2 = cN (c.2.1 g) by unfold pM; omega, ← b1]
theorem waM {c : tC} (h : CB c) {g : Nat} (hg : g < 4) : f_X9_waits (lN (codeN c)) (nI g) = some (c.2.2 g) := by
  obtain ⟨⟨a1, a2⟩, ⟨b1, b2'⟩, d1, d2⟩ := h g
  have hp := pM_lt h g
  unfold f_X9_waits
  rw [poM h hg]
  simp only [Option.bind_some]
  rw [show (10 : Int32) = nI 10 from rfl, pk_rem (by omega) (by omega) (by omega), show pM c g % 10 = cN (c.2.2 g) by unfold pM; omega, ← d1]
theorem opn_s {c : tC} (h : CB c) (m i : Nat) (mn : tC) (hi : i < 4) : f_X9_open_2 (m + 1) mn (lN (codeN c)) (nI i) = f_X9_open_2 m (upd mn.1 i (c.1 i), upd mn.2.1 i (c.2.1 i), upd mn.2.2 i (c.2.2 i)) (lN (codeN c)) (nI (i + 1)) := by
  rw [f_X9_open_2, if_neg (show ¬ (4 : Int32) ≤ nI i from nI_ge (b := 4) hi (by omega)), abM h hi, laM h hi, waM h hi]
  simp only [Option.bind_some, inb_t (show i < 2 ^ 31 by omega) hi, nI_clamp (show i < 2 ^ 31 by omega), if_true, nI_1]
theorem openM {c mn : tC} (h : CB c) (hz : Z4 c) (hz' : Z4 mn) : f_X9_open mn (lN (codeN c)) = some c := by
  unfold f_X9_open
  have e : f_X9_open_2 100000 mn (lN (codeN c)) 0 = _ := opn_s h 99999 0 mn (by omega)
  rw [e, opn_s h 99998 1 _ (by omega), opn_s h 99997 2 _ (by omega), opn_s h 99996 3 _ (by omega), f_X9_open_2, if_pos (show (4 : Int32) ≤ nI (3 + 1) by decide)]
  simp only [Option.bind_some]
  congr 1
  refine tC_ext fun j => ?_
  simp only [upd]
  match j with
  | 0 => exact ⟨rfl, rfl, rfl⟩
  | 1 => exact ⟨rfl, rfl, rfl⟩
  | 2 => exact ⟨rfl, rfl, rfl⟩
  | 3 => exact ⟨rfl, rfl, rfl⟩
  | j + 4 =>
    have z1 := hz (j + 4) (by omega)
    have z2 := hz' (j + 4) (by omega)
    simp only [if_neg (show ¬ j + 4 = 0 by omega), if_neg (show ¬ j + 4 = 1 by omega), if_neg (show ¬ j + 4 = 2 by omega), if_neg (show ¬ j + 4 = 3 by omega)]
    rw [z1.1, z1.2.1, z1.2.2]
    exact z2
theorem Cok.cb {g : tG_} {n : Nat} {c : tC} (hG : GOK g n) (hC : Cok g n c) : CB c := fun j => Cb hG hC j
theorem Cok.z {g : tG_} {n : Nat} {c : tC} (hG : GOK g n) (hC : Cok g n c) : Z4 c := fun j hj => hC.2 j (by have := hG.1; omega)
