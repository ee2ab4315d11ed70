/-! pure: glasses, configs, handlings -/
abbrev cN (x : Int32) : Nat := x.toNatClampNeg
def GOK (g : tG_) (n : Nat) : Prop := n ≤ 4 ∧ g.2.2.2 = nI n ∧ ∀ j, j < n → (g.1 j = nI (cN (g.1 j)) ∧ cN (g.1 j) ≤ 4) ∧ (g.2.1 j = nI (cN (g.2.1 j)) ∧ 1 ≤ cN (g.2.1 j) ∧ cN (g.2.1 j) ≤ 30) ∧ (cN (g.1 j) = 1 → g.2.2.1 j = nI (cN (g.2.2.1 j)) ∧ cN (g.2.2.1 j) < j) ∧ (cN (g.1 j) = 4 → g.2.2.1 j = nI (cN (g.2.2.1 j)) ∧ 1 ≤ cN (g.2.2.1 j) ∧ cN (g.2.2.1 j) ≤ 9)
def Cok (g : tG_) (n : Nat) (c : tC) : Prop := (∀ j, j < n → (c.1 j = nI (cN (c.1 j)) ∧ cN (c.1 j) ≤ cN (g.2.1 j)) ∧ (c.2.1 j = 0 ∨ c.2.1 j = 1) ∧ (c.2.2 j = nI (cN (c.2.2 j)) ∧ cN (c.2.2 j) ≤ 9 ∧ (cN (g.1 j) ≠ 4 → c.2.2 j = 0))) ∧ ∀ j, n ≤ j → c.1 j = 0 ∧ c.2.1 j = 0 ∧ c.2.2 j = 0
abbrev c00 : tC := (fun _ => 0, fun _ => 0, fun _ => 0)
theorem Cok0 {g : tG_} {n : Nat} : Cok g n c00 := ⟨fun j _ => ⟨⟨rfl, Nat.zero_le _⟩, Or.inl rfl, rfl, Nat.zero_le _, fun _ => rfl⟩, fun j _ => ⟨rfl, rfl, rfl⟩⟩
def dgt (h j : Nat) : Nat := h / 4 ^ j % 4
theorem dgt_lt (h j : Nat) : dgt h j < 4 := Nat.mod_lt _ (by decide)
theorem dig_eq {h j : Nat} (hh : h < 256) (hj : j < 4) : (nI h >>> (((2 : Int32) * nI j) &&& 31)) &&& (3 : Int32) = nI (dgt h j) := by
  have hs : nI h >>> (((2 : Int32) * nI j) &&& 31) = nI (h / 2 ^ (2 * j)) := by
    refine pk_shrN (by omega) _ (2 * j) ?_
    match j, hj with
    | 0, _ => decide
    | 1, _ => decide
    | 2, _ => decide
    | 3, _ => decide
  have h2 : h / 2 ^ (2 * j) < 2 ^ 32 := Nat.lt_of_le_of_lt (Nat.div_le_self _ _) (by omega)
  rw [hs, pk_andN h2 (m := 3) 2 (by decide)]
  unfold dgt
  rw [Nat.pow_mul]
theorem digX {h j : Nat} (hh : h < 256) (hj : j < 4) : f_X4_digit (nI h) (nI j) = some (nI (dgt h j)) := by unfold f_X4_digit; rw [dig_eq hh hj]
theorem digM {h j : Nat} (hh : h < 256) (hj : j < 4) : f_X9_digit (nI h) (nI j) = some (nI (dgt h j)) := by unfold f_X9_digit; rw [dig_eq hh hj]
abbrev b2 (b : Bool) : Int32 := if b = true then 1 else 0
def fal (c : tC) (j : Nat) : Bool := decide (c.2.1 j = 0 ∧ c.2.2 j = 0 ∧ ¬ c.1 j ≤ 0)
theorem falX {c : tC} {j : Nat} (hj : j < 4) : f_X2_falls c (nI j) = some (b2 (fal c j)) := by
  unfold f_X2_falls fal
  simp only [inb_t (show j < 2 ^ 31 by omega) hj, nI_clamp (show j < 2 ^ 31 by omega), if_true]
  by_cases h1 : c.2.1 j = 0 <;> by_cases h2 : c.2.2 j = 0 <;> by_cases h3 : c.1 j ≤ 0 <;> simp [h1, h2, h3, b2]
theorem falM {c : tC} {j : Nat} (hj : j < 4) : f_X9_falls c (nI j) = some (b2 (fal c j)) := falX hj
def alD (g : tG_) (n : Nat) (c : tC) (h j : Nat) : Bool :=
  if dgt h j = 0 then true else if n ≤ j then false
  else if dgt h j = 1 then decide (c.2.1 j = 0) && (!decide (g.1 j = 1) || decide (dgt h (cN (g.2.2.1 j)) = 1)) && !(decide (g.1 j = 3) && fal c j)
  else if dgt h j = 2 then decide (c.2.1 j = 0) && (decide (g.1 j = 2) || decide (g.1 j = 4)) else decide (c.2.1 j = 1)
theorem nI_lit {n : Nat} (h : n < 4) (k : Nat) (hk : k < 4) : (nI n = nI k) = (n = k) := propext (nI_eq (by omega) (by omega))
theorem alM {g : tG_} {n : Nat} {c : tC} {h j : Nat} (hG : GOK g n) (hh : h < 256) (hj : j < 4) : f_X9_isAllowedFor g c (nI h) (nI j) = some (b2 (alD g n c h j)) := by
  unfold f_X9_isAllowedFor
  rw [digM hh hj]
  simp only [Option.bind_some]
  have hd := dgt_lt h j
  unfold alD
  have e0 : (nI (dgt h j) = (0 : Int32)) = (dgt h j = 0) := nI_lit hd 0 (by omega)
  have e1 : (nI (dgt h j) = (1 : Int32)) = (dgt h j = 1) := nI_lit hd 1 (by omega)
  have e2 : (nI (dgt h j) = (2 : Int32)) = (dgt h j = 2) := nI_lit hd 2 (by omega)
  simp only [e0, e1, e2]
  by_cases h0 : dgt h j = 0
  · rw [if_pos h0, if_pos h0]; rfl
  rw [if_neg h0, if_neg h0]
  obtain ⟨hn, hc, hg⟩ := hG
  rw [hc]
  by_cases hnj : n ≤ j
  · rw [if_neg (nI_nlt hnj (by omega)), if_pos hnj]; rfl
  rw [if_pos (nI_lt (by omega) (by omega)), if_neg hnj]
  obtain ⟨⟨k1, k2⟩, -, k3, -⟩ := hg j (by omega)
  simp only [inb_t (show j < 2 ^ 31 by omega) hj, nI_clamp (show j < 2 ^ 31 by omega), if_true]
  by_cases h1 : dgt h j = 1
  · rw [if_pos h1, if_pos h1, falM hj]
    by_cases m1 : g.1 j = 1
    · obtain ⟨w1, w2⟩ := k3 (by rw [m1]; rfl)
      rw [if_pos m1, w1, digM hh (show cN (g.2.2.1 j) < 4 by omega)]
      simp only [Option.bind_some]
      have ew : (nI (dgt h (cN (g.2.2.1 j))) = (1 : Int32)) = (dgt h (cN (g.2.2.1 j)) = 1) := nI_lit (dgt_lt _ _) 1 (by omega)
      have ew2 : cN (nI (cN (g.2.2.1 j))) = cN (g.2.2.1 j) := nI_clamp (by omega)
      have m3 : ¬ g.1 j = 3 := by rw [m1]; decide
      simp only [ew, ew2, m1, m3]
      by_cases m2 : dgt h (cN (g.2.2.1 j)) = 1 <;> by_cases m4 : c.2.1 j = 0 <;> simp [m2, m4, m1, b2]
    · rw [if_neg m1]
      by_cases m3 : g.1 j = 3 <;> by_cases m4 : c.2.1 j = 0 <;> cases fal c j <;> simp [m1, m3, m4, b2]
  · rw [if_neg h1, if_neg h1]
    by_cases h2 : dgt h j = 2
    · rw [if_pos h2, if_pos h2]
      by_cases m3 : g.1 j = 2 <;> by_cases m4 : c.2.1 j = 0 <;> by_cases m5 : g.1 j = 4 <;> simp [m3, m4, m5, b2]
    · rw [if_neg h2, if_neg h2]
      by_cases m3 : c.2.1 j = 1 <;> simp [m3, b2]
theorem hasX {g : tG_} {n j : Nat} (hG : GOK g n) (hj : j < 2 ^ 31) : f_X3_has g (nI j) = some (b2 (decide (j < n))) := by
  unfold f_X3_has
  rw [if_neg (nI_pos hj), hG.2.1]
  have := hG.1
  by_cases h : j < n
  · rw [if_neg (nI_ge h (by omega))]; simp [h, b2]
  · rw [if_pos (nI_le (by omega) hj)]; simp [h, b2]
theorem alX {g : tG_} {n : Nat} {c : tC} {h j : Nat} (hG : GOK g n) (hC : Cok g n c) (hh : h < 256) (hj : j < 4) (h0 : dgt h j ≠ 0) : f_X2_allowsDigit g c (nI j) (nI (dgt h j)) (nI h) = some (b2 (alD g n c h j)) := by
  unfold f_X2_allowsDigit
  rw [hasX hG (by omega)]
  have hd := dgt_lt h j
  have e1 : (nI (dgt h j) = (3 : Int32)) = (dgt h j = 3) := nI_lit hd 3 (by omega)
  have e2 : (nI (dgt h j) = (2 : Int32)) = (dgt h j = 2) := nI_lit hd 2 (by omega)
  simp only [Option.bind_some, e1, e2]
  unfold alD
  rw [if_neg h0]
  by_cases hnj : n ≤ j
  · rw [if_pos hnj, show decide (j < n) = false from decide_eq_false (by omega)]; rfl
  rw [if_neg hnj, show decide (j < n) = true from decide_eq_true (by omega), if_neg (show ¬ b2 true = 0 by decide)]
  obtain ⟨⟨k1, k2⟩, -, k3, -⟩ := hG.2.2 j (by omega)
  obtain ⟨-, l1, -⟩ := hC.1 j (by omega)
  unfold f_X3_kind f_X3_with
  simp only [inb_t (show j < 2 ^ 31 by omega) hj, nI_clamp (show j < 2 ^ 31 by omega), if_true, Option.bind_some]
  by_cases h3 : dgt h j = 3
  · rw [if_pos h3, if_neg (show ¬ dgt h j = 1 by omega), if_neg (show ¬ dgt h j = 2 by omega)]
    rcases l1 with l1 | l1 <;> rw [l1] <;> rfl
  rw [if_neg h3]
  by_cases m4 : c.2.1 j = 0
  · rw [if_pos m4]
    by_cases h2 : dgt h j = 2
    · rw [if_pos h2, if_neg (show ¬ dgt h j = 1 by omega), if_pos h2]
      by_cases m3 : g.1 j = 2 <;> by_cases m5 : g.1 j = 4 <;> simp [m3, m4, m5, b2]
    · rw [if_neg h2, if_pos (show dgt h j = 1 by omega), falX hj]
      by_cases m3 : g.1 j = 3
      · rw [if_pos m3]
        have m1 : ¬ g.1 j = 1 := by rw [m3]; decide
        cases fal c j <;> simp [m3, m4, b2]
      · rw [if_neg m3]
        by_cases m1 : g.1 j = 1
        · obtain ⟨w1, w2⟩ := k3 (by rw [m1]; rfl)
          rw [if_pos m1, w1, digX hh (show cN (g.2.2.1 j) < 4 by omega)]
          simp only [Option.bind_some]
          have ew : (nI (dgt h (cN (g.2.2.1 j))) = (1 : Int32)) = (dgt h (cN (g.2.2.1 j)) = 1) := nI_lit (dgt_lt _ _) 1 (by omega)
          have ew2 : cN (nI (cN (g.2.2.1 j))) = cN (g.2.2.1 j) := nI_clamp (by omega)
          simp only [ew, ew2, m1, m4]
          by_cases m2 : dgt h (cN (g.2.2.1 j)) = 1 <;> simp [m2, b2]
        · rw [if_neg m1]
          simp [m1, m3, m4, b2]
  · rw [if_neg m4]
    have m5 : decide (c.2.1 j = 0) = false := decide_eq_false m4
    by_cases h1 : dgt h j = 1
    · rw [if_pos h1, m5]; rfl
    · rw [if_neg h1, if_pos (show dgt h j = 2 by omega), m5]; rfl
def alw (g : tG_) (n : Nat) (c : tC) (h : Nat) : Bool := alD g n c h 0 && (alD g n c h 1 && (alD g n c h 2 && alD g n c h 3))
theorem aM_s {g : tG_} {n : Nat} {c : tC} {h : Nat} (hG : GOK g n) (hh : h < 256) (m j : Nat) (hj : j < 4) (b : Bool) : f_X9_isAllowed_4 (m + 1) g c (nI h) (b2 b) (nI j) = f_X9_isAllowed_4 m g c (nI h) (b2 (b && alD g n c h j)) (nI (j + 1)) := by
  rw [f_X9_isAllowed_4, if_neg (show ¬ (4 : Int32) ≤ nI j from nI_ge (b := 4) hj (by omega)), alM hG hh hj, nI_1]
  cases b
  · rfl
  · simp only [Option.bind_some, Bool.true_and, if_neg (show ¬ b2 true = 0 by decide)]
    cases alD g n c h j
    · rfl
    · rfl
theorem alwM {g : tG_} {n : Nat} {c : tC} {h : Nat} (hG : GOK g n) (hh : h < 256) : f_X9_isAllowed g c (nI h) = some (b2 (alw g n c h)) := by
  unfold f_X9_isAllowed
  rw [show (1 : Int32) = b2 true from rfl, show (0 : Int32) = nI 0 from rfl, aM_s hG hh 99999 0 (by omega), aM_s hG hh 99998 1 (by omega), aM_s hG hh 99997 2 (by omega), aM_s hG hh 99996 3 (by omega), f_X9_isAllowed_4, if_pos (show (4 : Int32) ≤ nI 4 by decide)]
  simp only [Option.bind_some, Bool.true_and]
  unfold alw
  generalize alD g n c h 0 = b0
  generalize alD g n c h 1 = b1
  generalize alD g n c h 2 = b2'
  generalize alD g n c h 3 = b3
  cases b0 <;> cases b1 <;> cases b2' <;> cases b3 <;> rfl
theorem dgt_0 {j : Nat} : dgt 0 j = 0 := by simp [dgt]
theorem dgt_s (h j k : Nat) : dgt (h / 4 ^ j) k = dgt h (j + k) := by unfold dgt; rw [Nat.div_div_eq_div_mul, ← Nat.pow_add]
theorem alD_0 {g : tG_} {n : Nat} {c : tC} {h j : Nat} (h0 : dgt h j = 0) : alD g n c h j = true := by unfold alD; rw [if_pos h0]
theorem aX_s {g : tG_} {n : Nat} {c : tC} {h : Nat} (hG : GOK g n) (hC : Cok g n c) (hh : h < 256) : ∀ (k j m : Nat), j + k = 4 → k < m → f_X2_allows_4 m g c (nI h) (nI (h / 4 ^ j)) (nI j) = some (b2 ((List.range k).all fun i => alD g n c h (j + i))) := by
  intro k
  induction k with
  | zero =>
    intro j m hj hm
    obtain ⟨m, rfl⟩ : ∃ m', m = m' + 1 := ⟨m - 1, by omega⟩
    rw [f_X2_allows_4, if_pos (show (4 : Int32) ≤ nI j from nI_le (a := 4) (by omega) (by omega))]
    rfl
  | succ k ih =>
    intro j m hj hm
    obtain ⟨m, rfl⟩ : ∃ m', m = m' + 1 := ⟨m - 1, by omega⟩
    have hq : h / 4 ^ j < 256 := Nat.lt_of_le_of_lt (Nat.div_le_self _ _) hh
    rw [f_X2_allows_4, if_neg (show ¬ (4 : Int32) ≤ nI j from nI_ge (b := 4) (by omega) (by omega))]
    have eall : ((List.range (k + 1)).all fun i => alD g n c h (j + i)) = (alD g n c h j && ((List.range k).all fun i => alD g n c h (j + 1 + i))) := by
      rw [List.range_succ_eq_map, List.all_cons, List.all_map]
      congr 1
      refine congrArg (fun f => List.all _ f) (funext fun i => ?_)
      show alD g n c h (j + (i + 1)) = _
      rw [show j + (i + 1) = j + 1 + i by omega]
    rw [eall]
    have e3 : nI (h / 4 ^ j) &&& (3 : Int32) = nI (dgt h j) := pk_andN (by omega) (m := 3) 2 (by decide)
    have e4 : nI (h / 4 ^ j) >>> ((2 : Int32) &&& 31) = nI (h / 4 ^ (j + 1)) := by
      rw [pk_shrN (by omega) _ 2 (by decide), Nat.div_div_eq_div_mul, show h / 4 ^ (j + 1) = h / (4 ^ j * 2 ^ 2) by rw [Nat.pow_succ]]
    by_cases hz : h / 4 ^ j = 0
    · rw [hz, if_pos (show nI 0 = 0 from rfl)]
      have hall : ∀ i, alD g n c h (j + i) = true := fun i => alD_0 (by rw [← dgt_s, hz, dgt_0])
      have h1 := hall 0
      rw [Nat.add_zero] at h1
      rw [h1, List.all_eq_true.mpr (fun i _ => by have := hall (1 + i); rwa [← Nat.add_assoc] at this)]
      rfl
    · rw [if_neg (nI_ne0 (Nat.pos_of_ne_zero hz) (by omega)), e3, e4, nI_1]
      by_cases hd : dgt h j = 0
      · rw [hd, if_pos (show nI 0 = 0 from rfl), ih (j + 1) m (by omega) (by omega), alD_0 hd, Bool.true_and]
      · rw [if_neg (nI_ne0 (Nat.pos_of_ne_zero hd) (by have := dgt_lt h j; omega)), alX hG hC hh (by omega) hd, ih (j + 1) m (by omega) (by omega)]
        simp only [Option.bind_some]
        cases alD g n c h j
        · rfl
        · rw [if_neg (show ¬ b2 true = 0 by decide), Bool.true_and]
theorem alwX {g : tG_} {n : Nat} {c : tC} {h : Nat} (hG : GOK g n) (hC : Cok g n c) (hh : h < 256) : f_X2_allows g c (nI h) = some (b2 (alw g n c h)) := by
  unfold f_X2_allows
  have := aX_s hG hC hh 4 0 100000 (by omega) (by omega)
  rw [Nat.pow_zero, Nat.div_one] at this
  rw [show (0 : Int32) = nI 0 from rfl, this]
  unfold alw
  simp only [List.range, List.range.loop, List.all_cons, List.all_nil, Bool.and_true]
