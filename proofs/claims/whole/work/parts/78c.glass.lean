/-! pure: glasses, claims -/
theorem isGl {g : tG_} {n : Nat} (hG : GOK g n) (a : Int32) : (∃ w, w < n ∧ a = nI w ∧ f_X9_isGlass g a = some 1 ∧ f_X3_has g a = some 1) ∨ (f_X9_isGlass g a = some 0 ∧ f_X3_has g a = some 0) := by
  have hn := hG.1
  unfold f_X9_isGlass f_X3_has
  rw [hG.2.1]
  by_cases h0 : a < 0
  · right; rw [in_f (Or.inl h0), if_pos h0]; exact ⟨rfl, rfl⟩
  · obtain ⟨w, hw, rfl⟩ := nI_of h0
    have e1 : (nI n - 1).toInt = (n : Int) - 1 := pk_sub_toInt (b := 1) (by omega) (by omega)
    rw [if_neg h0]
    by_cases h : w < n
    · left
      rw [in_t (nI_pos' hw) (by rw [i_le, e1, tI_nI hw]; omega), if_neg (nI_ge h (by omega))]
      exact ⟨w, h, rfl, rfl, rfl⟩
    · right
      rw [in_f (Or.inr (by rw [i_lt, e1, tI_nI hw]; omega)), if_pos (nI_le (by omega) hw)]
      exact ⟨rfl, rfl⟩
theorem isGr {rs : Nat → tRow} {mr : tMR} (hR : RelR rs mr) {j : Nat} (hj : j < 4) (a : Int32) : (∃ i r, i < 20 ∧ a = nI i ∧ 1 ≤ r ∧ r ≤ 30 ∧ (rs j).1 i = nI r ∧ mr.2.2 (20 * j + i) = nI r ∧ f_X8_tellsGrains rs (nI j) a = some 1 ∧ f_X9_isGrains mr (nI j) a = some 1) ∨ (f_X8_tellsGrains rs (nI j) a = some 0 ∧ f_X9_isGrains mr (nI j) a = some 0) := by
  unfold f_X8_tellsGrains f_X9_isGrains
  simp only [inb_t (show j < 2 ^ 31 by omega) hj, nI_clamp (show j < 2 ^ 31 by omega), if_true]
  rcases has_eq (hR j hj) a with ⟨k, n, hkn, hn, rfl, c, e, d, f, a, h3, h4⟩ | ⟨h3, h4⟩
  · rw [h3, h4]
    simp only [Option.bind_some, if_neg (show ¬ (1 : Int32) = 0 by decide), f_X7_number, e20, inb_t (show 20 * j + k < 2 ^ 31 by omega) (show 20 * j + k < 80 by omega), inb_t (show k < 2 ^ 31 by omega) (show k < 20 by omega), nI_clamp (show 20 * j + k < 2 ^ 31 by omega), nI_clamp (show k < 2 ^ 31 by omega), if_true, f_X3_canHold]
    rw [f k hkn]
    generalize hv : mr.2.2 (20 * j + k) = v
    by_cases k1 : v < 1
    · right; rw [if_pos k1, in_f (Or.inl k1)]; exact ⟨rfl, rfl⟩
    · rw [if_neg k1]
      by_cases k2 : (30 : Int32) < v
      · right; rw [if_pos k2, in_f (Or.inr k2)]; exact ⟨rfl, rfl⟩
      · left
        have h1 : (1 : Int32) ≤ v := by rw [i_le]; rw [i_lt] at k1; exact Int.not_lt.mp k1
        have h2 : v ≤ (30 : Int32) := by rw [i_le]; rw [i_lt] at k2; exact Int.not_lt.mp k2
        have h0 : ¬ v < 0 := by
          rw [i_lt]; rw [i_le] at h1
          have : (1 : Int32).toInt = 1 := rfl
          have : (0 : Int32).toInt = 0 := rfl
          omega
        obtain ⟨r, hr, rfl⟩ := nI_of2 (x := v) (M := 30) (n := 30) (by decide) h0 h2
        have hr1 : 1 ≤ r := (nI_leI (a := 1) (by omega) (by omega)).mp h1
        rw [if_neg k2, in_t h1 h2]
        exact ⟨k, r, by omega, rfl, hr1, hr, (f k hkn).trans hv, hv, rfl, rfl⟩
  · right
    rw [h3, h4]
    exact ⟨rfl, rfl⟩
def Fresh (g : tG_) (bh : tBH) (c : tC) (re : tRE) (pl : tPL) (mh : tMH) (mf : tMF) : Prop :=
  ∃ n, GOK g n ∧ RelH g n bh c mh ∧ re.2.2.2.2.2.2.2.2.2.1 = 0 ∧ pl.2.2.2.1 = 0 ∧ pl.2.2.2.2.1 = 0 ∧ pl.2.2.2.2.2.1 = 0 ∧ mf.1 = 0
theorem anew {g g' : tG_} {n n' : Nat} {bh : tBH} {c : tC} {mh : tMH} (hG : GOK g n) (hH : RelH g n bh c mh) (hG' : GOK g' n') (re : tRE) (pl : tPL) (mf : tMF) (hf : mf.1 = 0) : ∃ (v : tBH × tC × tRE × tPL) (y : tMH), f_X8_startAnew bh c re pl = some v ∧ f_X9_start mh = some y ∧ Fresh g' v.1 v.2.1 v.2.2.1 v.2.2.2 y mf := by
  obtain ⟨x, y, h1, h2, h3⟩ := ph_start (g' := g') (n' := n') hG hH
  unfold f_X8_startAnew f_X6_forget f_X5_forget
  rw [h1, h2]
  exact ⟨_, _, rfl, rfl, n', hG', h3, rfl, rfl, rfl, rfl, hf⟩
theorem GOK_add {g : tG_} {n k r : Nat} {w : Int32} (hG : GOK g n) (hn : n < 4) (hk : k ≤ 4) (hr : 1 ≤ r ∧ r ≤ 30) (h1 : k = 1 → ∃ x, x < n ∧ w = nI x) (h4 : k = 4 → ∃ x, 1 ≤ x ∧ x ≤ 9 ∧ w = nI x) : GOK (upd g.1 n (nI k), upd g.2.1 n (nI r), upd g.2.2.1 n w, nI (n + 1)) (n + 1) := by
  refine ⟨by omega, rfl, fun j hj => ?_⟩
  by_cases he : j = n
  · subst he
    show (upd g.1 j (nI k) j = nI (cN (upd g.1 j (nI k) j)) ∧ _) ∧ _
    simp only [upd_s, cN_nI (show k < 2 ^ 31 by omega), cN_nI (show r < 2 ^ 31 by omega)]
    refine ⟨⟨trivial, hk⟩, ⟨trivial, hr⟩, fun q => ?_, fun q => ?_⟩
    · obtain ⟨x, x1, rfl⟩ := h1 q
      rw [cN_nI (by omega)]; exact ⟨rfl, x1⟩
    · obtain ⟨x, x1, x2, rfl⟩ := h4 q
      rw [cN_nI (by omega)]; exact ⟨rfl, x1, x2⟩
  · have := hG.2.2 j (by omega)
    show (upd g.1 n (nI k) j = nI (cN (upd g.1 n (nI k) j)) ∧ _) ∧ _
    simp only [upd_n he]
    exact this
theorem pg_glass {rs : Nat → tRow} {mr : tMR} {g : tG_} {n : Nat} {bh : tBH} {c : tC} {mh : tMH} (hR : RelR rs mr) (hG : GOK g n) (hH : RelH g n bh c mh) (re : tRE) (pl : tPL) (mf : tMF) (a1 a2 a3 a4 : Int32) : ∃ (x : Int32 × tG_ × tBH × tC × tRE × tPL) (y : Int32 × tMG × tMH × tMF), f_X8_glass rs g bh c re pl a1 a2 a3 a4 = some x ∧ f_X9_glass mr g mh mf a1 a2 a3 a4 = some y ∧ x.1 = y.1 ∧ ((x.2 = (g, bh, c, re, pl) ∧ y.2 = (g, mh, mf)) ∨ (x.2.1 = y.2.1 ∧ Fresh x.2.1 x.2.2.1 x.2.2.2.1 x.2.2.2.2.1 x.2.2.2.2.2 y.2.2.1 y.2.2.2)) := by
  have same : ∀ v : Int32, ∃ (x : Int32 × tG_ × tBH × tC × tRE × tPL) (y : Int32 × tMG × tMH × tMF), some (v, g, bh, c, re, pl) = some x ∧ some (v, g, mh, mf) = some y ∧ x.1 = y.1 ∧ ((x.2 = (g, bh, c, re, pl) ∧ y.2 = (g, mh, mf)) ∨ (x.2.1 = y.2.1 ∧ Fresh x.2.1 x.2.2.1 x.2.2.2.1 x.2.2.2.2.1 x.2.2.2.2.2 y.2.2.1 y.2.2.2)) := fun v => ⟨_, _, rfl, rfl, rfl, Or.inl ⟨rfl, rfl⟩⟩
  have hn := hG.1
  unfold f_X8_glass f_X9_glass f_X7_isMissing
  rcases ix4 a2 with h1 | ⟨j, hj, rfl⟩
  · rw [noRow_t h1, isRow_f h1]
    exact same (-1)
  rw [noRow_f hj, isRow_t hj]
  simp only [Option.bind_some, if_true, if_neg (show ¬ (1 : Int32) = 0 by decide)]
  by_cases k1 : a1 < 0
  · rw [if_pos k1, in_f (Or.inl k1)]
    exact same (-1)
  rw [if_neg k1]
  by_cases k2 : a1 ≤ 4
  case neg =>
    rw [if_neg k2, in_f (Or.inr (by rw [i_lt]; rw [i_le] at k2; exact Int.not_le.mp k2))]
    exact same (-1)
  obtain ⟨k, hk, rfl⟩ := nI_of2 (x := a1) (M := 4) (n := 4) (by decide) k1 k2
  rw [if_pos k2, in_t (nI_pos' (by omega)) k2]
  simp only [Option.bind_some, if_neg (show ¬ (1 : Int32) = 0 by decide), inb_t (show j < 2 ^ 31 by omega) hj, nI_clamp (show j < 2 ^ 31 by omega), if_true]
  rcases (hR j hj).go with ⟨k3, k4⟩ | ⟨k3, k4⟩
  · rw [if_pos k3, if_neg k4]
    exact same (-3)
  rw [if_neg k3, if_pos k4]
  simp only [Option.bind_some, if_true]
  rcases isGr hR hj a3 with ⟨i, r, hi, rfl, hr1, hr2, q1, q2, q3, q4⟩ | ⟨q3, q4⟩
  case inr =>
    rw [q3, q4]
    exact same (-1)
  rw [q3, q4]
  have e1 : (nI k = (1 : Int32)) = (k = 1) := propext (nI_eq (b := 1) (by omega) (by omega))
  have e4 : (nI k = (4 : Int32)) = (k = 4) := propext (nI_eq (b := 4) (by omega) (by omega))
  have en : (nI n = (4 : Int32)) = (n = 4) := propext (nI_eq (b := 4) (by omega) (by omega))
  have el : (nI n < (4 : Int32)) = (n < 4) := propext (nI_ltI (b := 4) (by omega) (by omega))
  have ex : ∀ w : Int32, (k = 1 → ∃ x, x < n ∧ w = nI x) → (k = 4 → ∃ x, 1 ≤ x ∧ x ≤ 9 ∧ w = nI x) → n < 4 → ∃ (x : Int32 × tG_ × tBH × tC × tRE × tPL) (y : Int32 × tMG × tMH × tMF), ((f_X8_startAnew bh c re pl).bind fun v17 => some (nI n, (upd g.1 n (nI k), upd g.2.1 n (nI r), upd g.2.2.1 n w, nI (n + 1)), v17.1, v17.2.1, v17.2.2.1, v17.2.2.2)) = some x ∧ ((f_X9_start mh).bind fun v60 => some (nI n, (upd g.1 n (nI k), upd g.2.1 n (nI r), upd g.2.2.1 n w, nI (n + 1)), v60, ((0 : Int32), mf.2.1, mf.2.2.1, mf.2.2.2.1, mf.2.2.2.2.1, mf.2.2.2.2.2.1, mf.2.2.2.2.2.2.1, mf.2.2.2.2.2.2.2))) = some y ∧ x.1 = y.1 ∧ ((x.2 = (g, bh, c, re, pl) ∧ y.2 = (g, mh, mf)) ∨ (x.2.1 = y.2.1 ∧ Fresh x.2.1 x.2.2.1 x.2.2.2.1 x.2.2.2.2.1 x.2.2.2.2.2 y.2.2.1 y.2.2.2)) := by
    intro w w1 w4 hn4
    obtain ⟨v, y, s1, s2, s3⟩ := anew hG hH (GOK_add (w := w) hG hn4 hk ⟨hr1, hr2⟩ w1 w4) re pl ((0 : Int32), mf.2.1, mf.2.2.1, mf.2.2.2.1, mf.2.2.2.2.1, mf.2.2.2.2.2.1, mf.2.2.2.2.2.2.1, mf.2.2.2.2.2.2.2) rfl
    rw [s1, s2]
    exact ⟨_, _, rfl, rfl, rfl, Or.inr ⟨rfl, s3⟩⟩
  have es : nI (n + 1) - (1 : Int32) = nI n := pk_sub (b := 1) (a := n + 1) (by omega)
  unfold f_X3_suits f_X3_isFull f_X7_number f_X3_add
  simp only [Option.bind_some, if_neg (show ¬ (1 : Int32) = 0 by decide), e1, e4, hG.2.1, en, el, e20, inb_t (show 20 * j + i < 2 ^ 31 by omega) (show 20 * j + i < 80 by omega), inb_t (show i < 2 ^ 31 by omega) (show i < 20 by omega), nI_clamp (show 20 * j + i < 2 ^ 31 by omega), nI_clamp (show i < 2 ^ 31 by omega), q1, q2, if_true, nI_clamp (show n < 2 ^ 31 by omega), nI_1, es]
  have fin : ∀ hn4 : n < 4, inb (nI n) 4 = true := fun hn4 => inb_t (by omega) hn4
  by_cases hk1 : k = 1
  · subst hk1
    simp only [if_true, if_neg (show ¬ 1 = 4 by omega)]
    rcases isGl hG a4 with ⟨w, w1, rfl, w2, w3⟩ | ⟨w2, w3⟩
    · rw [w2, w3]
      simp only [Option.bind_some, if_neg (show ¬ (1 : Int32) = 0 by decide), isb_1, if_true]
      by_cases hn4 : n < 4
      · simp only [if_pos hn4, if_neg (show ¬ n = 4 by omega), fin hn4, if_true, Option.bind_some]
        exact ex (nI w) (fun _ => ⟨w, w1, rfl⟩) (fun q => by omega) hn4
      · simp only [if_neg hn4, if_pos (show n = 4 by omega), Option.bind_some, if_neg (show ¬ (1 : Int32) = 0 by decide)]
        exact same (-2)
    · rw [w2, w3]
      simp only [Option.bind_some, isb_0, if_true]
      exact same (-1)
  · simp only [if_neg hk1]
    by_cases hk4 : k = 4
    · subst hk4
      simp only [if_true]
      by_cases m1 : a4 < 1
      · rw [if_pos m1, in_f (Or.inl m1)]
        exact same (-1)
      · by_cases m2 : (9 : Int32) < a4
        · rw [if_neg m1, if_pos m2, in_f (Or.inr m2)]
          exact same (-1)
        · have h1 : (1 : Int32) ≤ a4 := by rw [i_le]; rw [i_lt] at m1; exact Int.not_lt.mp m1
          have h2 : a4 ≤ (9 : Int32) := by rw [i_le]; rw [i_lt] at m2; exact Int.not_lt.mp m2
          have h0 : ¬ a4 < 0 := by
            rw [i_lt]; rw [i_le] at h1
            have : (1 : Int32).toInt = 1 := rfl
            have : (0 : Int32).toInt = 0 := rfl
            omega
          obtain ⟨w, hw, rfl⟩ := nI_of2 (x := a4) (M := 9) (n := 9) (by decide) h0 h2
          have hw1 : 1 ≤ w := (nI_leI (a := 1) (by omega) (by omega)).mp h1
          rw [if_neg m1, if_neg m2, in_t h1 h2]
          simp only [Option.bind_some, if_neg (show ¬ (1 : Int32) = 0 by decide)]
          by_cases hn4 : n < 4
          · simp only [if_pos hn4, if_neg (show ¬ n = 4 by omega), fin hn4, if_true, Option.bind_some]
            exact ex (nI w) (fun q => by omega) (fun _ => ⟨w, hw1, hw, rfl⟩) hn4
          · simp only [if_neg hn4, if_pos (show n = 4 by omega), Option.bind_some, if_neg (show ¬ (1 : Int32) = 0 by decide)]
            exact same (-2)
    · simp only [if_neg hk4, Option.bind_some, if_neg (show ¬ (1 : Int32) = 0 by decide)]
      by_cases hn4 : n < 4
      · simp only [if_pos hn4, if_neg (show ¬ n = 4 by omega), fin hn4, if_true, Option.bind_some]
        exact ex (-1) (fun q => absurd q hk1) (fun q => absurd q hk4) hn4
      · simp only [if_neg hn4, if_pos (show n = 4 by omega), Option.bind_some, if_neg (show ¬ (1 : Int32) = 0 by decide)]
        exact same (-2)
theorem pg_fill {rs : Nat → tRow} {mr : tMR} {g : tG_} {n : Nat} {bh : tBH} {c : tC} {mh : tMH} (hR : RelR rs mr) (hG : GOK g n) (hH : RelH g n bh c mh) (re : tRE) (pl : tPL) (mf : tMF) (a1 a2 a3 : Int32) : ∃ (x : Int32 × tG_ × tBH × tC × tRE × tPL) (y : Int32 × tMG × tMH × tMF), f_X8_fill rs g bh c re pl a1 a2 a3 = some x ∧ f_X9_fill mr g mh mf a1 a2 a3 = some y ∧ x.1 = y.1 ∧ ((x.2 = (g, bh, c, re, pl) ∧ y.2 = (g, mh, mf)) ∨ (x.2.1 = y.2.1 ∧ Fresh x.2.1 x.2.2.1 x.2.2.2.1 x.2.2.2.2.1 x.2.2.2.2.2 y.2.2.1 y.2.2.2)) := by
  have same : ∀ v : Int32, ∃ (x : Int32 × tG_ × tBH × tC × tRE × tPL) (y : Int32 × tMG × tMH × tMF), some (v, g, bh, c, re, pl) = some x ∧ some (v, g, mh, mf) = some y ∧ x.1 = y.1 ∧ ((x.2 = (g, bh, c, re, pl) ∧ y.2 = (g, mh, mf)) ∨ (x.2.1 = y.2.1 ∧ Fresh x.2.1 x.2.2.1 x.2.2.2.1 x.2.2.2.2.1 x.2.2.2.2.2 y.2.2.1 y.2.2.2)) := fun v => ⟨_, _, rfl, rfl, rfl, Or.inl ⟨rfl, rfl⟩⟩
  have hn := hG.1
  unfold f_X8_fill f_X9_fill f_X7_isMissing
  rcases isGl hG a1 with ⟨w, w1, rfl, w2, w3⟩ | ⟨w2, w3⟩
  case inr =>
    rw [w2, w3]
    exact same (-1)
  rw [w2, w3]
  simp only [Option.bind_some, if_neg (show ¬ (1 : Int32) = 0 by decide)]
  rcases ix4 a2 with h1 | ⟨j, hj, rfl⟩
  · rw [noRow_t h1, isRow_f h1]
    exact same (-1)
  rw [noRow_f hj, isRow_t hj]
  simp only [Option.bind_some, if_true, if_neg (show ¬ (1 : Int32) = 0 by decide), inb_t (show j < 2 ^ 31 by omega) hj, nI_clamp (show j < 2 ^ 31 by omega)]
  rcases (hR j hj).go with ⟨k3, k4⟩ | ⟨k3, k4⟩
  · rw [if_pos k3, if_neg k4]
    exact same (-3)
  rw [if_neg k3, if_pos k4]
  simp only [Option.bind_some, if_true]
  rcases isGr hR hj a3 with ⟨i, r, hi, rfl, hr1, hr2, q1, q2, q3, q4⟩ | ⟨q3, q4⟩
  case inr =>
    rw [q3, q4]
    exact same (-1)
  rw [q3, q4]
  unfold f_X7_number f_X3_refill
  simp only [Option.bind_some, if_neg (show ¬ (1 : Int32) = 0 by decide), e20, inb_t (show 20 * j + i < 2 ^ 31 by omega) (show 20 * j + i < 80 by omega), inb_t (show i < 2 ^ 31 by omega) (show i < 20 by omega), nI_clamp (show 20 * j + i < 2 ^ 31 by omega), nI_clamp (show i < 2 ^ 31 by omega), q1, q2, if_true, inb_t (show w < 2 ^ 31 by omega) (show w < 4 by omega), nI_clamp (show w < 2 ^ 31 by omega)]
  have hG' : GOK (g.1, upd g.2.1 w (nI r), g.2.2.1, g.2.2.2) n := by
    refine ⟨hn, hG.2.1, fun k hk => ?_⟩
    obtain ⟨x1, x2, x3, x4⟩ := hG.2.2 k hk
    refine ⟨x1, ?_, x3, x4⟩
    show upd g.2.1 w (nI r) k = nI (cN (upd g.2.1 w (nI r) k)) ∧ 1 ≤ cN (upd g.2.1 w (nI r) k) ∧ cN (upd g.2.1 w (nI r) k) ≤ 30
    by_cases hkw : k = w
    · subst hkw; rw [upd_s, cN_nI (by omega)]; exact ⟨rfl, hr1, hr2⟩
    · rw [upd_n hkw]; exact x2
  obtain ⟨v, y, s1, s2, s3⟩ := anew hG hH hG' re pl ((0 : Int32), mf.2.1, mf.2.2.1, mf.2.2.2.1, mf.2.2.2.2.1, mf.2.2.2.2.2.1, mf.2.2.2.2.2.2.1, mf.2.2.2.2.2.2.2) rfl
  rw [s1, s2]
  exact ⟨_, _, rfl, rfl, rfl, Or.inr ⟨rfl, s3⟩⟩
theorem pg_clear {g : tG_} {n : Nat} {bh : tBH} {c : tC} {mh : tMH} (hG : GOK g n) (hH : RelH g n bh c mh) (re : tRE) (pl : tPL) (mf : tMF) : ∃ (x : Int32 × tG_ × tBH × tC × tRE × tPL) (y : Int32 × tMG × tMH × tMF), f_X8_clear g bh c re pl = some x ∧ f_X9_clear g mh mf = some y ∧ x.1 = y.1 ∧ x.2.1 = y.2.1 ∧ Fresh x.2.1 x.2.2.1 x.2.2.2.1 x.2.2.2.2.1 x.2.2.2.2.2 y.2.2.1 y.2.2.2 := by
  unfold f_X8_clear f_X9_clear f_X3_count f_X3_removeAll
  have hG' : GOK (g.1, g.2.1, g.2.2.1, 0) 0 := ⟨by omega, rfl, fun j hj => by omega⟩
  obtain ⟨v, y, s1, s2, s3⟩ := anew hG hH hG' re pl ((0 : Int32), mf.2.1, mf.2.2.1, mf.2.2.2.1, mf.2.2.2.2.1, mf.2.2.2.2.2.1, mf.2.2.2.2.2.2.1, mf.2.2.2.2.2.2.2) rfl
  rw [s1, s2]
  exact ⟨_, _, rfl, rfl, rfl, rfl, s3⟩
theorem pg_of {g : tG_} {n : Nat} {bh : tBH} {c : tC} {mh : tMH} (hG : GOK g n) (hH : RelH g n bh c mh) (a1 a2 : Int32) : ∃ x, f_X8_of g c a1 a2 = some x ∧ f_X9_of g mh a1 a2 = some x := by
  obtain ⟨e, hC, h1, -⟩ := hH
  have hn := hG.1
  unfold f_X8_of f_X9_of
  rcases isGl hG a1 with ⟨w, w1, rfl, w2, w3⟩ | ⟨w2, w3⟩
  case inr =>
    rw [w2, w3]
    exact ⟨_, rfl, rfl⟩
  rw [w2, w3, h1, abM (hC.cb hG) (show w < 4 by omega), laM (hC.cb hG) (show w < 4 by omega), waM (hC.cb hG) (show w < 4 by omega)]
  unfold f_X3_kind f_X3_grains f_X3_with f_X0_part f_X2_part
  simp only [Option.bind_some, if_neg (show ¬ (1 : Int32) = 0 by decide), inb_t (show w < 2 ^ 31 by omega) (show w < 4 by omega), nI_clamp (show w < 2 ^ 31 by omega), if_true]
  by_cases k0 : a2 = 0
  · rw [if_pos k0, if_pos k0]; exact ⟨_, rfl, rfl⟩
  rw [if_neg k0, if_neg k0]
  by_cases k1 : a2 = 1
  · rw [if_pos k1, if_pos k1]; exact ⟨_, rfl, rfl⟩
  rw [if_neg k1, if_neg k1]
  by_cases k2 : a2 = 2
  · rw [if_pos k2, if_pos k2]; exact ⟨_, rfl, rfl⟩
  rw [if_neg k2, if_neg k2]
  by_cases k3 : a2 = 3
  · subst k3; exact ⟨_, rfl, rfl⟩
  rw [if_neg k3, if_neg k3]
  by_cases k4 : a2 = 4
  · subst k4
    obtain ⟨-, l1, -⟩ := hC.1 w w1
    rw [if_pos rfl, if_pos rfl, if_neg (show ¬ (4 : Int32) - 3 = 0 by decide), if_pos (show (4 : Int32) - 3 = 1 by decide)]
    rcases l1 with l1 | l1 <;> rw [l1] <;> exact ⟨_, rfl, rfl⟩
  rw [if_neg k4, if_neg k4]
  by_cases k5 : a2 = 5
  · subst k5; exact ⟨_, rfl, rfl⟩
  rw [if_neg k5, if_neg k5]
  exact ⟨_, rfl, rfl⟩
def RelC (cl : tCL) (mc : tMC) : Prop := ∃ m : Nat, m ≤ 60 ∧ cl.2 = nI m ∧ mc.2 = nI m ∧ ∀ k, k < m → cl.1 k = mc.1 k ∧ ∃ h, h < 256 ∧ cl.1 k = nI h
theorem pc_claim {cl : tCL} {mc : tMC} (hR : RelC cl mc) (a1 : Int32) : ∃ (x : Int32 × tCL) (y : Int32 × tMC), f_X8_claim cl a1 = some x ∧ f_X9_claim mc a1 = some y ∧ x.1 = y.1 ∧ RelC x.2 y.2 := by
  obtain ⟨m, h1, h2, h3, h4⟩ := id hR
  unfold f_X8_claim f_X9_claim f_X1_isFull f_X1_add f_X1_count
  rcases ix256 a1 with ⟨k1, k2⟩ | ⟨h, hh, rfl, k1, k2⟩
  · rw [k1, k2]
    exact ⟨(-1, cl), (-1, mc), rfl, rfl, rfl, hR⟩
  · rw [k1, k2, h2, h3]
    simp only [Option.bind_some, if_true, if_neg (show ¬ (1 : Int32) = 0 by decide)]
    by_cases hm : m = 60
    · subst hm
      rw [if_neg (show ¬ nI 60 < (60 : Int32) by decide), if_pos (show nI 60 = (60 : Int32) from rfl)]
      exact ⟨(-2, cl), (-2, mc), rfl, rfl, rfl, hR⟩
    · rw [if_pos (show nI m < (60 : Int32) from nI_lt (b := 60) (by omega) (by omega)), if_neg (show ¬ nI m = (60 : Int32) from fun q => hm ((nI_eq (b := 60) (by omega) (by omega)).mp q))]
      simp only [Option.bind_some, if_true, if_neg (show ¬ (60 : Int32) ≤ nI m from nI_ge (b := 60) (by omega) (by omega)), inb_t (show m < 2 ^ 31 by omega) (show m < 60 by omega), nI_clamp (show m < 2 ^ 31 by omega), nI_1]
      refine ⟨_, _, rfl, rfl, rfl, m + 1, by omega, rfl, rfl, fun k hk => ?_⟩
      show upd cl.1 m (nI h) k = upd mc.1 m (nI h) k ∧ ∃ h', h' < 256 ∧ upd cl.1 m (nI h) k = nI h'
      by_cases hkm : k = m
      · subst hkm; rw [upd_s, upd_s]; exact ⟨rfl, h, hh, rfl⟩
      · rw [upd_n hkm, upd_n hkm]; exact h4 k (by omega)
theorem pc_alter {cl : tCL} {mc : tMC} (hR : RelC cl mc) (a1 a2 : Int32) : ∃ (x : Int32 × tCL) (y : Int32 × tMC), f_X8_alter cl a1 a2 = some x ∧ f_X9_alter mc a1 a2 = some y ∧ x.1 = y.1 ∧ RelC x.2 y.2 := by
  obtain ⟨m, h1, h2, h3, h4⟩ := id hR
  unfold f_X8_alter f_X9_alter f_X1_has f_X1_change
  rw [h2, h3]
  by_cases h0 : a1 < 0
  · rw [if_pos h0, in_f (Or.inl h0)]
    exact ⟨(-1, cl), (-1, mc), rfl, rfl, rfl, hR⟩
  rw [if_neg h0]
  obtain ⟨k, hk, rfl⟩ := nI_of h0
  have e1 : (nI m - 1).toInt = (m : Int) - 1 := pk_sub_toInt (b := 1) (by omega) (by omega)
  by_cases hkm : k < m
  · rw [if_neg (nI_ge hkm (by omega)), in_t (nI_pos' hk) (by rw [i_le, e1, tI_nI hk]; omega)]
    simp only [Option.bind_some, if_neg (show ¬ (1 : Int32) = 0 by decide)]
    rcases ix256 a2 with ⟨k1, k2⟩ | ⟨h, hh, rfl, k1, k2⟩
    · rw [k1, k2]
      exact ⟨(-1, cl), (-1, mc), rfl, rfl, rfl, hR⟩
    · rw [k1, k2]
      simp only [Option.bind_some, if_true, if_neg (show ¬ (1 : Int32) = 0 by decide), inb_t hk (show k < 60 by omega), nI_clamp hk]
      refine ⟨_, _, rfl, rfl, rfl, m, h1, rfl, rfl, fun i hi => ?_⟩
      show upd cl.1 k (nI h) i = upd mc.1 k (nI h) i ∧ ∃ h', h' < 256 ∧ upd cl.1 k (nI h) i = nI h'
      by_cases hik : i = k
      · subst hik; rw [upd_s, upd_s]; exact ⟨rfl, h, hh, rfl⟩
      · rw [upd_n hik, upd_n hik]; exact h4 i (by omega)
  · rw [if_pos (nI_le (by omega) hk), in_f (Or.inr (by rw [i_lt, e1, tI_nI hk]; omega))]
    exact ⟨(-1, cl), (-1, mc), rfl, rfl, rfl, hR⟩
theorem pc_unclaim {cl : tCL} {mc : tMC} (hR : RelC cl mc) : ∃ (x : Int32 × tCL) (y : Int32 × tMC), f_X8_unclaim cl = some x ∧ f_X9_unclaim mc = some y ∧ x.1 = y.1 ∧ RelC x.2 y.2 := by
  obtain ⟨m, h1, h2, h3, h4⟩ := id hR
  unfold f_X8_unclaim f_X9_unclaim f_X1_count f_X1_removeAll
  exact ⟨_, _, rfl, rfl, by rw [h3]; exact h2, 0, by omega, rfl, rfl, fun k hk => by omega⟩
theorem ck_loop {g : tG_} {n : Nat} (hG : GOK g n) {cl : tCL} {mc : tMC} {m : Nat} (hm : m ≤ 60) (h2 : cl.2 = nI m) (h3 : mc.2 = nI m) (h4 : ∀ k, k < m → cl.1 k = mc.1 k ∧ ∃ h, h < 256 ∧ cl.1 k = nI h) : ∀ (f i : Nat) (c : tC) (t : Int32), Cok g n c → i ≤ m → m - i < f → ∃ (v : Int32) (c1 c2 : tC), f_X1_goThrough_9 f g c cl t (nI i) = some (v, c1) ∧ f_X9_check_9 f g mc c t (nI i) = some (v, c2) ∧ Z4 c1 ∧ Z4 c2 := by
  intro f
  induction f with
  | zero => intro i c t _ _ h; omega
  | succ f ih =>
    intro i c t hC hi hf
    rw [f_X1_goThrough_9, f_X9_check_9, h2, h3]
    by_cases he : i = m
    · subst he
      rw [if_pos (nI_le (Nat.le_refl _) (by omega)), if_pos (nI_le (Nat.le_refl _) (by omega))]
      exact ⟨_, _, _, rfl, rfl, hC.z hG, hC.z hG⟩
    · have hn : ¬ nI m ≤ nI i := nI_ge (by omega) (by omega)
      obtain ⟨e1, h, hh, e2⟩ := h4 i (by omega)
      have e3 : mc.1 i = nI h := e1.symm.trans e2
      rw [if_neg hn, if_neg hn]
      simp only [inb_t (show i < 2 ^ 31 by omega) (show i < 60 by omega), nI_clamp (show i < 2 ^ 31 by omega), if_true, e2, e3]
      rw [alwX hG hC hh, alwM hG hh]
      simp only [Option.bind_some]
      cases alw g n c h
      · exact ⟨_, _, _, rfl, rfl, hC.z hG, hC.z hG⟩
      · have hC1 := Cok_hnd (h := h) hG hC
        have hu := unt_le hG hC1 n (Nat.le_refl _)
        simp only [if_neg (show ¬ b2 true = 0 by decide)]
        rw [hX hG hC hh, hM hG hh]
        simp only [Option.bind_some]
        rw [untX hG hC1, goM hG hC1]
        have e0 : (nI (unt n (hnd g n c h)) = (0 : Int32)) = (unt n (hnd g n c h) = 0) := propext (nI_eq (b := 0) (by omega) (by omega))
        simp only [Option.bind_some, e0]
        by_cases hu0 : unt n (hnd g n c h) = 0
        · rw [if_pos hu0, if_pos hu0]
          exact ⟨_, _, _, rfl, rfl, hC1.z hG, (Cok_adv hG hC1).z hG⟩
        · rw [if_neg hu0, if_neg hu0, letX hG hC1 (by omega)]
          simp only [Option.bind_some, nI_1]
          exact ih (i + 1) _ _ (Cok_adv hG hC1) (by omega) (by omega)
theorem pc_check {g : tG_} {n : Nat} (hG : GOK g n) {cl : tCL} {mc : tMC} {c2 mn : tC} (hR : RelC cl mc) (hz : Z4 c2) (hz' : Z4 mn) : ∃ (x : Int32 × tC) (y : Int32 × tMN), f_X8_check g c2 cl = some x ∧ f_X9_check g mc mn = some y ∧ x.1 = y.1 ∧ Z4 x.2 ∧ Z4 y.2 := by
  obtain ⟨m, h1, h2, h3, h4⟩ := id hR
  unfold f_X8_check f_X9_check f_X1_goThrough
  have ho : f_X9_open mn 0 = some c00 := openM (c := c00) CB0 Z0 hz'
  rw [take0 hz, ho]
  obtain ⟨v, d1, d2, q1, q2, q3, q4⟩ := ck_loop hG h1 h2 h3 h4 100000 0 c00 0 Cok0 (by omega) (by omega)
  have q1' : f_X1_goThrough_9 100000 g c00 cl 0 0 = _ := q1
  have q2' : f_X9_check_9 100000 g mc c00 0 0 = _ := q2
  simp only [Option.bind_some, q1', q2']
  exact ⟨_, _, rfl, rfl, rfl, q3, q4⟩
