/-! pure: numbers, rows -/
theorem inb_nI {j n : Nat} (h : j < 2 ^ 31) : inb (nI j) n = decide (j < n) := by
  unfold inb
  rw [nI_clamp h]
  have h1 : ¬ nI j < 0 := nI_pos h
  by_cases hj : j < n
  · rw [decide_eq_true hj]; exact decide_eq_true (by rintro (q | q); exact h1 q; omega)
  · rw [decide_eq_false hj]; exact decide_eq_false (fun q => q (Or.inr (by omega)))
theorem inb_t {j n : Nat} (h : j < 2 ^ 31) (hj : j < n) : inb (nI j) n = true := by rw [inb_nI h, decide_eq_true hj]
theorem isb_0 : isb 0 = true := by decide
theorem isb_1 : isb 1 = true := by decide
theorem i_lt {a b : Int32} : a < b ↔ a.toInt < b.toInt := Int32.lt_iff_toInt_lt
theorem i_le {a b : Int32} : a ≤ b ↔ a.toInt ≤ b.toInt := Int32.le_iff_toInt_le
theorem i_eq {a b : Int32} : a = b ↔ a.toInt = b.toInt := Int32.toInt_inj.symm
theorem in_t {a lo hi : Int32} (h1 : lo ≤ a) (h2 : a ≤ hi) : f_X9_in a lo hi = some 1 := by
  unfold f_X9_in
  rw [i_le] at h1 h2
  rw [if_neg (by rw [i_lt]; omega), if_neg (by rw [i_lt]; omega)]
theorem in_f {a lo hi : Int32} (h : a < lo ∨ hi < a) : f_X9_in a lo hi = some 0 := by
  unfold f_X9_in
  by_cases h1 : a < lo
  · rw [if_pos h1]
  · rcases h with h | h
    · exact absurd h h1
    · rw [if_neg h1, if_pos h]
theorem tI_nI {n : Nat} (h : n < 2 ^ 31) : (nI n).toInt = n := nI_toInt h
theorem isRow_t {j : Nat} (hj : j < 4) : f_X9_isRow (nI j) = some 1 := by
  unfold f_X9_isRow
  rw [in_t (by rw [i_le, tI_nI (by omega)]; exact Int.natCast_nonneg j) (by rw [i_le, tI_nI (by omega)]; show (j : Int) ≤ 3; omega)]
  rfl
theorem isRow_f {a : Int32} (h : a < 0 ∨ nI 4 ≤ a) : f_X9_isRow a = some 0 := by
  unfold f_X9_isRow
  rw [in_f (by rcases h with h | h; exact Or.inl h; right; rw [i_lt]; rw [i_le, tI_nI (by omega)] at h; show (3 : Int) < a.toInt; omega)]
  rfl
theorem noRow_f {j : Nat} (hj : j < 4) : f_X8_isNoRow (nI j) = some 0 := by
  unfold f_X8_isNoRow
  rw [if_neg (nI_pos (by omega)), if_pos (by rw [i_le, tI_nI (by omega)]; show (j : Int) ≤ 3; omega)]
theorem noRow_t {a : Int32} (h : a < 0 ∨ nI 4 ≤ a) : f_X8_isNoRow a = some 1 := by
  unfold f_X8_isNoRow
  by_cases h1 : a < 0
  · rw [if_pos h1]
  · rcases h with h | h
    · exact absurd h h1
    · rw [if_neg h1, if_neg (by rw [i_le]; rw [i_le, tI_nI (by omega)] at h; show ¬ a.toInt ≤ 3; omega)]
theorem ix4 (a : Int32) : (a < 0 ∨ nI 4 ≤ a) ∨ ∃ j : Nat, j < 4 ∧ a = nI j := by
  rcases pk_ix a (n := 4) (by decide) with h | h | h
  · exact Or.inl (Or.inl h)
  · exact Or.inl (Or.inr h)
  · exact Or.inr h
/-- Arrays.fill over ints -/
theorem fill_loop (N : Nat) (hN : N < 90000) (v : Int32) : ∀ (m i : Nat) (a : Nat → Int32), N - i < m → i ≤ N → ∃ b, f_J7_fill_53178_5 N m a v (nI i) (nI N) = some (nI N, b) ∧ ∀ j, b j = if i ≤ j ∧ j < N then v else a j := by
  intro m
  induction m with
  | zero => intro i a h; omega
  | succ m ih =>
    intro i a h hi
    rw [f_J7_fill_53178_5]
    by_cases he : i = N
    · subst he
      refine ⟨a, ?_, fun j => by rw [if_neg (by omega)]⟩
      rw [if_pos (nI_le (Nat.le_refl _) (by omega))]
    · rw [if_neg (nI_ge (by omega) (by omega)), if_pos (inb_t (by omega) (by omega)), nI_clamp (by omega), nI_1]
      obtain ⟨b, h1, h2⟩ := ih (i + 1) (upd a i v) (by omega) (by omega)
      refine ⟨b, h1, fun j => ?_⟩
      rw [h2 j]
      unfold upd
      by_cases h3 : i + 1 ≤ j ∧ j < N
      · rw [if_pos h3, if_pos (by omega)]
      · rw [if_neg h3]
        by_cases h4 : j = i
        · rw [if_pos h4, if_pos (by omega)]
        · rw [if_neg h4, if_neg (by omega)]
theorem fillI (a : Nat → Int32) {N : Nat} (hN : N < 90000) (v : Int32) : ∃ b, f_J7_fill_53178 a N v = some b ∧ ∀ j, b j = if j < N then v else a j := by
  obtain ⟨b, h1, h2⟩ := fill_loop N hN v 100000 0 a (by omega) (by omega)
  refine ⟨b, ?_, fun j => by rw [h2]; simp⟩
  unfold f_J7_fill_53178
  rw [show (0 : Int32) = nI 0 from rfl, h1]
  rfl
def RRow (r : tRow) (mr : tMR) (j : Nat) : Prop :=
  (r.2.1 = 1 ∧ ∃ n, n ≤ 20 ∧ r.2.2.2 = nI n ∧ mr.2.1 j = nI n ∧ mr.1 j = r.2.2.1 ∧ ∀ i, i < n → r.1 i = mr.2.2 (20 * j + i)) ∨ (r.2.1 = 0 ∧ r.2.2.2 = 0 ∧ mr.2.1 j = -1)
def RelR (rs : Nat → tRow) (mr : tMR) : Prop := ∀ j, j < 4 → RRow (rs j) mr j
theorem mrow_loop (r N : Nat) (hr : r < 4) (hN : N ≤ 20) (x2 : Int32) : ∀ (m i : Nat) (mr : tMR), N - i < m → i ≤ N → ∃ b, f_X9_row_50 m mr (nI r) x2 (nI N) (nI i) = some (nI N, (mr.1, mr.2.1, b)) ∧ ∀ j, b j = if 20 * r + i ≤ j ∧ j < 20 * r + N then 1 else mr.2.2 j := by
  intro m
  induction m with
  | zero => intro i a h; omega
  | succ m ih =>
    intro i mr h hi
    rw [f_X9_row_50]
    by_cases he : i = N
    · subst he
      refine ⟨mr.2.2, ?_, fun j => by rw [if_neg (by omega)]⟩
      rw [if_pos (nI_le (Nat.le_refl _) (by omega))]
    · have e : (20 : Int32) * nI r + nI i = nI (20 * r + i) := by rw [show (20 : Int32) = nI 20 from rfl, pk_mul, nI_add]
      rw [if_neg (nI_ge (by omega) (by omega)), e, if_pos (inb_t (by omega) (by omega)), nI_clamp (by omega), nI_1]
      obtain ⟨b, h1, h2⟩ := ih (i + 1) (mr.1, mr.2.1, upd mr.2.2 (20 * r + i) 1) (by omega) (by omega)
      refine ⟨b, h1, fun j => ?_⟩
      rw [h2 j]
      simp only [upd]
      by_cases h3 : 20 * r + (i + 1) ≤ j ∧ j < 20 * r + N
      · rw [if_pos h3, if_pos (by omega)]
      · rw [if_neg h3]
        by_cases h4 : j = 20 * r + i
        · rw [if_pos h4, if_pos (by omega)]
        · rw [if_neg h4, if_neg (by omega)]
theorem upd_s {f : Nat → Int32} {k : Nat} {x : Int32} : upd f k x k = x := pk_us
theorem upd_n {f : Nat → Int32} {k j : Nat} {x : Int32} (h : j ≠ k) : upd f k x j = f j := pk_un h
theorem vup_s {α : Type} {f : Nat → α} {k : Nat} {x : α} : va_up f k x k = x := by simp [va_up]
theorem vup_n {α : Type} {f : Nat → α} {k j : Nat} {x : α} (h : j ≠ k) : va_up f k x j = f j := by simp [va_up, h]
theorem RelR_put {rs : Nat → tRow} {mr mr' : tMR} {j : Nat} {r : tRow} (hR : RelR rs mr) (hj : j < 4) (h1 : ∀ k, k < 4 → k ≠ j → mr'.1 k = mr.1 k ∧ mr'.2.1 k = mr.2.1 k) (h2 : ∀ k, k < 4 → k ≠ j → ∀ i, i < 20 → mr'.2.2 (20 * k + i) = mr.2.2 (20 * k + i)) (h3 : RRow r mr' j) : RelR (va_up rs j r) mr' := by
  intro k hk
  by_cases hkj : k = j
  · subst hkj; rw [vup_s]; exact h3
  · rw [vup_n hkj]
    rcases hR k hk with ⟨a, n, b, c, d, e, f⟩ | ⟨a, b, c⟩
    · exact Or.inl ⟨a, n, b, c, by rw [(h1 k hk hkj).2]; exact d, by rw [(h1 k hk hkj).1]; exact e, fun i hi => by rw [h2 k hk hkj i (by omega)]; exact f i hi⟩
    · exact Or.inr ⟨a, b, by rw [(h1 k hk hkj).2]; exact c⟩
theorem pr_row {rs : Nat → tRow} {mr : tMR} (hR : RelR rs mr) (a1 a2 a3 : Int32) : ∃ (x : Int32 × (Nat → tRow)) (y : Int32 × tMR), f_X8_row rs a1 a2 a3 = some x ∧ f_X9_row mr a1 a2 a3 = some y ∧ x.1 = y.1 ∧ RelR x.2 y.2 := by
  unfold f_X8_row f_X9_row
  rcases ix4 a1 with h1 | ⟨j, hj, rfl⟩
  · rw [noRow_t h1, isRow_f h1]
    exact ⟨(-1, rs), (-1, mr), rfl, rfl, rfl, hR⟩
  rw [noRow_f hj, isRow_t hj]
  simp only [Option.bind_some, if_true, if_neg (show ¬ (1 : Int32) = 0 by decide)]
  by_cases k1 : a2 < 0
  · rw [if_pos k1, in_f (Or.inl k1)]
    exact ⟨(-1, rs), (-1, mr), rfl, rfl, rfl, hR⟩
  rw [if_neg k1]
  by_cases k2 : a2 ≤ 2
  · rw [if_pos k2, in_t (by rw [i_le]; rw [i_lt] at k1; exact Int.not_lt.mp k1) k2]
    simp only [Option.bind_some, if_neg (show ¬ (1 : Int32) = 0 by decide)]
    by_cases k3 : 0 ≤ a3
    · rw [if_pos k3, if_pos k3]
      by_cases k4 : a3 ≤ 20
      · rw [if_pos k4, if_pos k4, if_pos (inb_t (by omega) hj), if_pos (inb_t (by omega) hj), if_pos (inb_t (by omega) hj), nI_clamp (by omega)]
        obtain ⟨n, hn, rfl⟩ := nI_of2 (x := a3) (M := 20) (n := 20) (by decide) (by rw [i_lt]; rw [i_le] at k3; exact Int.not_lt.mpr k3) k4
        unfold f_X7_come
        obtain ⟨b, e1, e2⟩ := fillI (rs j).1 (N := 20) (by omega) 1
        obtain ⟨d, e3, e4⟩ := mrow_loop j n hj hn a2 100000 0 (upd mr.1 j a2, upd mr.2.1 j (nI n), mr.2.2) (by omega) (by omega)
        rw [e1, show (0 : Int32) = nI 0 from rfl, e3]
        refine ⟨_, _, rfl, rfl, rfl, ?_⟩
        refine RelR_put hR hj (fun k hk hkj => ⟨upd_n hkj, upd_n hkj⟩) (fun k hk hkj i hi => ?_) ?_
        · show d (20 * k + i) = _
          rw [e4, if_neg (by omega)]
        · refine Or.inl ⟨rfl, n, hn, rfl, upd_s, upd_s, fun i hi => ?_⟩
          show b i = d (20 * j + i)
          rw [e2, e4, if_pos (by omega), if_pos (by omega)]
      · rw [if_neg k4, if_neg k4]
        exact ⟨(-1, rs), (-1, mr), rfl, rfl, rfl, hR⟩
    · rw [if_neg k3, if_neg k3]
      exact ⟨(-4, rs), (-4, mr), rfl, rfl, rfl, hR⟩
  · rw [if_neg k2, in_f (Or.inr (by rw [i_lt]; rw [i_le] at k2; exact Int.not_le.mp k2))]
    exact ⟨(-1, rs), (-1, mr), rfl, rfl, rfl, hR⟩
theorem RRow.go {r : tRow} {mr : tMR} {j : Nat} (h : RRow r mr j) : (r.2.1 = 0 ∧ ¬ 0 ≤ mr.2.1 j) ∨ (¬ r.2.1 = 0 ∧ 0 ≤ mr.2.1 j) := by
  rcases h with ⟨a, n, b, c, d, e, f⟩ | ⟨a, b, c⟩
  · exact Or.inr ⟨by rw [a]; decide, by rw [d]; exact nI_pos' (by omega)⟩
  · exact Or.inl ⟨a, by rw [c]; decide⟩
theorem has_eq {r : tRow} {mr : tMR} {j : Nat} (h : RRow r mr j) (i : Int32) : (∃ k n, k < n ∧ n ≤ 20 ∧ i = nI k ∧ r.2.2.2 = nI n ∧ mr.1 j = r.2.2.1 ∧ mr.2.1 j = nI n ∧ (∀ i, i < n → r.1 i = mr.2.2 (20 * j + i)) ∧ r.2.1 = 1 ∧ f_X7_has r i = some 1 ∧ f_X9_in i 0 (mr.2.1 j - 1) = some 1) ∨ (f_X7_has r i = some 0 ∧ f_X9_in i 0 (mr.2.1 j - 1) = some 0) := by
  unfold f_X7_has
  by_cases h0 : i < 0
  · right
    rw [if_pos h0, in_f (Or.inl h0)]
    exact ⟨rfl, rfl⟩
  rw [if_neg h0]
  obtain ⟨k, hk, rfl⟩ := nI_of h0
  rcases h with ⟨a, n, b, c, d, e, f⟩ | ⟨a, b, c⟩
  · have e1 : (mr.2.1 j - 1).toInt = (n : Int) - 1 := by rw [d]; exact pk_sub_toInt (b := 1) (by omega) (by omega)
    by_cases hkn : k < n
    · left
      refine ⟨k, n, hkn, b, rfl, c, e, d, f, a, ?_, in_t (nI_pos' hk) (by rw [i_le, e1, tI_nI hk]; omega)⟩
      rw [c, if_neg (nI_ge hkn (by omega))]
    · right
      rw [c, if_pos (nI_le (by omega) hk)]
      exact ⟨rfl, in_f (Or.inr (by rw [i_lt, e1, tI_nI hk]; omega))⟩
  · right
    rw [b, if_pos (nI_pos' hk), c]
    exact ⟨rfl, in_f (Or.inr (by rw [i_lt, tI_nI hk]; show ((-1 : Int32) - 1).toInt < (k : Int); have : ((-1 : Int32) - 1).toInt = -2 := by decide
                                 omega))⟩
theorem e20 {j i : Nat} : (20 : Int32) * nI j + nI i = nI (20 * j + i) := by rw [show (20 : Int32) = nI 20 from rfl, pk_mul, nI_add]
theorem pr_cell {rs : Nat → tRow} {mr : tMR} (hR : RelR rs mr) (a1 a2 a3 : Int32) : ∃ (x : Int32 × (Nat → tRow)) (y : Int32 × tMR), f_X8_cell rs a1 a2 a3 = some x ∧ f_X9_cell mr a1 a2 a3 = some y ∧ x.1 = y.1 ∧ RelR x.2 y.2 := by
  unfold f_X8_cell f_X9_cell f_X7_isMissing
  rcases ix4 a1 with h1 | ⟨j, hj, rfl⟩
  · rw [noRow_t h1, isRow_f h1]
    exact ⟨(-1, rs), (-1, mr), rfl, rfl, rfl, hR⟩
  rw [noRow_f hj, isRow_t hj]
  simp only [Option.bind_some, if_true, if_neg (show ¬ (1 : Int32) = 0 by decide), inb_t (show j < 2 ^ 31 by omega) hj, nI_clamp (show j < 2 ^ 31 by omega)]
  rcases (hR j hj).go with ⟨k1, k2⟩ | ⟨k1, k2⟩
  · rw [if_pos k1, if_neg k2]
    exact ⟨(-3, rs), (-3, mr), rfl, rfl, rfl, hR⟩
  rw [if_neg k1, if_pos k2]
  simp only [Option.bind_some, if_true]
  rcases has_eq (hR j hj) a2 with ⟨k, n, hkn, hn, rfl, c, e, d, f, a, h3, h4⟩ | ⟨h3, h4⟩
  · rw [h3, h4]
    simp only [Option.bind_some, if_neg (show ¬ (1 : Int32) = 0 by decide), f_X7_change, e, e20, inb_t (show 20 * j + k < 2 ^ 31 by omega) (show 20 * j + k < 80 by omega), inb_t (show k < 2 ^ 31 by omega) (show k < 20 by omega), nI_clamp (show 20 * j + k < 2 ^ 31 by omega), nI_clamp (show k < 2 ^ 31 by omega), if_true]
    have key : ∀ v : Int32, RelR (va_up rs j (upd (rs j).1 k v, (rs j).2.1, (rs j).2.2.1, (rs j).2.2.2)) (mr.1, mr.2.1, upd mr.2.2 (20 * j + k) v) := by
      intro v
      refine RelR_put hR hj (fun _ _ _ => ⟨rfl, rfl⟩) (fun k2 hk2 hkj i hi => upd_n (by omega)) ?_
      refine Or.inl ⟨a, n, hn, c, d, e, fun i hi => ?_⟩
      show upd (rs j).1 k v i = upd mr.2.2 (20 * j + k) v (20 * j + i)
      by_cases hik : i = k
      · subst hik; rw [upd_s, upd_s]
      · rw [upd_n hik, upd_n (by omega)]; exact f i hi
    by_cases m1 : (rs j).2.2.1 = 0
    · rw [if_pos m1, if_pos m1]
      exact ⟨_, _, rfl, rfl, rfl, key _⟩
    · rw [if_neg m1, if_neg m1]
      by_cases m2 : (rs j).2.2.1 = 1
      · rw [if_pos m2, if_pos m2]
        exact ⟨_, _, rfl, rfl, rfl, key _⟩
      · rw [if_neg m2, if_neg m2]
        exact ⟨_, _, rfl, rfl, rfl, key _⟩
  · rw [h3, h4]
    exact ⟨(-1, rs), (-1, mr), rfl, rfl, rfl, hR⟩
theorem pr_told {rs : Nat → tRow} {mr : tMR} (hR : RelR rs mr) (a1 a2 : Int32) : ∃ x : Int32, f_X8_told rs a1 a2 = some x ∧ f_X9_told mr a1 a2 = some x := by
  unfold f_X8_told f_X9_told
  rcases ix4 a1 with h1 | ⟨j, hj, rfl⟩
  · rw [noRow_t h1, isRow_f h1]
    exact ⟨_, rfl, rfl⟩
  rw [noRow_f hj, isRow_t hj]
  simp only [Option.bind_some, if_true, if_neg (show ¬ (1 : Int32) = 0 by decide), inb_t (show j < 2 ^ 31 by omega) hj, nI_clamp (show j < 2 ^ 31 by omega)]
  rcases has_eq (hR j hj) a2 with ⟨k, n, hkn, hn, rfl, c, e, d, f, a, h3, h4⟩ | ⟨h3, h4⟩
  · rw [h3, h4]
    simp only [Option.bind_some, if_neg (show ¬ (1 : Int32) = 0 by decide), f_X7_number, e20, inb_t (show 20 * j + k < 2 ^ 31 by omega) (show 20 * j + k < 80 by omega), inb_t (show k < 2 ^ 31 by omega) (show k < 20 by omega), nI_clamp (show 20 * j + k < 2 ^ 31 by omega), nI_clamp (show k < 2 ^ 31 by omega), if_true]
    exact ⟨_, rfl, by rw [f k hkn]⟩
  · rw [h3, h4]
    exact ⟨_, rfl, rfl⟩
theorem pr_lose {rs : Nat → tRow} {mr : tMR} (hR : RelR rs mr) (a1 : Int32) : ∃ (x : Int32 × (Nat → tRow)) (y : Int32 × tMR), f_X8_lose rs a1 = some x ∧ f_X9_lose mr a1 = some y ∧ x.1 = y.1 ∧ RelR x.2 y.2 := by
  unfold f_X8_lose f_X9_lose f_X7_isMissing f_X7_go
  rcases ix4 a1 with h1 | ⟨j, hj, rfl⟩
  · rw [noRow_t h1, isRow_f h1]
    exact ⟨(-1, rs), (-1, mr), rfl, rfl, rfl, hR⟩
  rw [noRow_f hj, isRow_t hj]
  simp only [Option.bind_some, if_true, if_neg (show ¬ (1 : Int32) = 0 by decide), inb_t (show j < 2 ^ 31 by omega) hj, nI_clamp (show j < 2 ^ 31 by omega)]
  rcases (hR j hj).go with ⟨k1, k2⟩ | ⟨k1, k2⟩
  · rw [if_pos k1, if_neg k2]
    exact ⟨(-3, rs), (-3, mr), rfl, rfl, rfl, hR⟩
  rw [if_neg k1, if_pos k2]
  refine ⟨_, _, rfl, rfl, rfl, ?_⟩
  exact RelR_put hR hj (fun k hk hkj => ⟨rfl, upd_n hkj⟩) (fun _ _ _ _ _ => rfl) (Or.inr ⟨rfl, rfl, upd_s⟩)
