/-! pure: ways as numbers, how many there are -/
def wv (k h t b : Nat) : Nat := ((k * 256 + h) * 64 + t) * 1024 + b
theorem wv_lt {k h t b : Nat} (hk : k ≤ 4) (hh : h < 256) (ht : t < 64) (hb : b < 1024) : wv k h t b < 2 ^ 30 := by unfold wv; omega
theorem wv_mk {k h t b : Nat} (hk : k ≤ 4) (hh : h < 256) (ht : t < 64) (hb : b < 1024) : ((nI k <<< ((24 : Int32) &&& 31) ||| nI h <<< ((16 : Int32) &&& 31)) ||| nI t <<< ((10 : Int32) &&& 31)) ||| nI b = nI (wv k h t b) := by
  rw [pk_shlN (n := k) ((24 : Int32) &&& 31) 24 (by decide) (by omega), pk_shlN (n := h) ((16 : Int32) &&& 31) 16 (by decide) (by omega), pk_shlN (n := t) ((10 : Int32) &&& 31) 10 (by decide) (by omega)]
  have e1 : nI (k * 2 ^ 24) ||| nI (h * 2 ^ 16) = nI (2 ^ 16 * (k * 256 + h)) := by
    rw [show k * 2 ^ 24 = 2 ^ 24 * k by omega, fa_or_sum k (show h * 2 ^ 16 < 2 ^ 24 by omega)]; congr 1; omega
  have e2 : nI (2 ^ 16 * (k * 256 + h)) ||| nI (t * 2 ^ 10) = nI (2 ^ 10 * ((k * 256 + h) * 64 + t)) := by
    rw [fa_or_sum (k * 256 + h) (show t * 2 ^ 10 < 2 ^ 16 by omega)]; congr 1; omega
  rw [e1, e2, fa_or_sum _ (show b < 2 ^ 10 by omega)]
  unfold wv; congr 1; omega
theorem wv_goal {k h t b : Nat} (hk : k ≤ 4) (hh : h < 256) (ht : t < 64) (hb : b < 1024) : f_X6_goal (nI (wv k h t b)) = some (nI b) := by
  unfold f_X6_goal
  rw [show (1023 : Int32) = nI (2 ^ 10 - 1) from rfl, fa_mask, show wv k h t b % 2 ^ 10 = b by unfold wv; omega]
theorem wv_pass {k h t b : Nat} (hk : k ≤ 4) (hh : h < 256) (ht : t < 64) (hb : b < 1024) : f_X6_passing (nI (wv k h t b)) = some (nI t) := by
  have hw := wv_lt hk hh ht hb
  unfold f_X6_passing
  rw [pk_shrN (by omega) _ 10 (by decide), show (63 : Int32) = nI (2 ^ 6 - 1) from rfl, fa_mask, show wv k h t b / 2 ^ 10 % 2 ^ 6 = t by unfold wv; omega]
theorem wv_hand {k h t b : Nat} (hk : k ≤ 4) (hh : h < 256) (ht : t < 64) (hb : b < 1024) : f_X6_handling (nI (wv k h t b)) = some (nI h) := by
  have hw := wv_lt hk hh ht hb
  unfold f_X6_handling
  rw [pk_shrN (by omega) _ 16 (by decide), show (255 : Int32) = nI (2 ^ 8 - 1) from rfl, fa_mask, show wv k h t b / 2 ^ 16 % 2 ^ 8 = h by unfold wv; omega]
theorem wv_cnt {k h t b : Nat} (hk : k ≤ 4) (hh : h < 256) (ht : t < 64) (hb : b < 1024) : f_X6_counted (nI (wv k h t b)) = some (nI k) := by
  have hw := wv_lt hk hh ht hb
  unfold f_X6_counted
  rw [pk_shrN (by omega) _ 24 (by decide), show wv k h t b / 2 ^ 24 = k by unfold wv; omega]
def rkW (g : tG_) (n : Nat) (c : tC) : Nat → Nat
  | 0 => 0
  | h + 1 => rkW g n c h + (if (stp g n c h).isSome = true then 1 else 0)
theorem rkW_mono {g : tG_} {n : Nat} {c : tC} : ∀ d h, rkW g n c h ≤ rkW g n c (h + d) := by
  intro d
  induction d with
  | zero => intro h; exact Nat.le_refl _
  | succ d ih =>
    intro h
    have := ih h
    show _ ≤ rkW g n c (h + d) + _
    omega
theorem rkW_le {g : tG_} {n : Nat} {c : tC} {h k : Nat} (hk : h ≤ k) : rkW g n c h ≤ rkW g n c k := by
  have := rkW_mono (g := g) (n := n) (c := c) (k - h) h
  rwa [show h + (k - h) = k by omega] at this
/-- how many handlings the digits allow, by which glasses are laid -/
def digOK (l0 l1 l2 l3 : Bool) (h : Nat) : Bool :=
  (if l0 then decide (dgt h 0 = 0 ∨ dgt h 0 = 3) else decide (dgt h 0 ≠ 3)) && (if l1 then decide (dgt h 1 = 0 ∨ dgt h 1 = 3) else decide (dgt h 1 ≠ 3)) && (if l2 then decide (dgt h 2 = 0 ∨ dgt h 2 = 3) else decide (dgt h 2 ≠ 3)) && (if l3 then decide (dgt h 3 = 0 ∨ dgt h 3 = 3) else decide (dgt h 3 ≠ 3))
def cntD (l0 l1 l2 l3 : Bool) : Nat → Nat
  | 0 => 0
  | h + 1 => cntD l0 l1 l2 l3 h + (if digOK l0 l1 l2 l3 h = true then 1 else 0)
set_option maxRecDepth 100000 in
theorem cntD_81 : ∀ l0 l1 l2 l3 : Bool, cntD l0 l1 l2 l3 256 ≤ 81 := by decide +kernel
theorem alD_dig {g : tG_} {n : Nat} {c : tC} {h j : Nat} (ha : alD g n c h j = true) : (if decide (c.2.1 j = 1) = true then decide (dgt h j = 0 ∨ dgt h j = 3) else decide (dgt h j ≠ 3)) = true := by
  unfold alD at ha
  have hd := dgt_lt h j
  by_cases h0 : dgt h j = 0
  · by_cases hl : c.2.1 j = 1
    · rw [if_pos (decide_eq_true hl)]; exact decide_eq_true (Or.inl h0)
    · rw [if_neg (by rw [decide_eq_true_eq]; exact hl)]; exact decide_eq_true (by omega)
  · rw [if_neg h0] at ha
    by_cases hn : n ≤ j
    · rw [if_pos hn] at ha; cases ha
    · rw [if_neg hn] at ha
      by_cases h1 : dgt h j = 1
      · rw [if_pos h1] at ha
        simp only [Bool.and_eq_true, decide_eq_true_eq] at ha
        have hl : ¬ c.2.1 j = 1 := by rw [ha.1.1]; decide
        rw [if_neg (by rw [decide_eq_true_eq]; exact hl)]; exact decide_eq_true (by omega)
      · rw [if_neg h1] at ha
        by_cases h2 : dgt h j = 2
        · rw [if_pos h2] at ha
          simp only [Bool.and_eq_true, decide_eq_true_eq] at ha
          have hl : ¬ c.2.1 j = 1 := by rw [ha.1]; decide
          rw [if_neg (by rw [decide_eq_true_eq]; exact hl)]; exact decide_eq_true (by omega)
        · rw [if_neg h2] at ha
          rw [if_pos ha]; exact decide_eq_true (Or.inr (by omega))
theorem stp_alw {g : tG_} {n : Nat} {c : tC} {h : Nat} (hs : (stp g n c h).isSome = true) : alw g n c h = true := by
  unfold stp at hs
  split at hs
  · rename_i q; exact q.1
  · cases hs
theorem rkW_81 {g : tG_} {n : Nat} {c : tC} : rkW g n c 256 ≤ 81 := by
  have key : ∀ h, rkW g n c h ≤ cntD (decide (c.2.1 0 = 1)) (decide (c.2.1 1 = 1)) (decide (c.2.1 2 = 1)) (decide (c.2.1 3 = 1)) h := by
    intro h
    induction h with
    | zero => exact Nat.le_refl _
    | succ h ih =>
      show rkW g n c h + _ ≤ cntD _ _ _ _ h + _
      by_cases hs : (stp g n c h).isSome = true
      · have ha := stp_alw hs
        unfold alw at ha
        simp only [Bool.and_eq_true] at ha
        obtain ⟨a0, a1, a2, a3⟩ := ha
        have hd : digOK (decide (c.2.1 0 = 1)) (decide (c.2.1 1 = 1)) (decide (c.2.1 2 = 1)) (decide (c.2.1 3 = 1)) h = true := by
          unfold digOK
          simp only [Bool.and_eq_true]
          exact ⟨⟨⟨alD_dig a0, alD_dig a1⟩, alD_dig a2⟩, alD_dig a3⟩
        rw [if_pos hs, if_pos hd]; omega
      · rw [if_neg hs]
        split <;> omega
  exact Nat.le_trans (key 256) (cntD_81 _ _ _ _)
/-- a digit for a glass that isn't there -/
theorem stp_far {g : tG_} {n : Nat} {c : tC} {h : Nat} (hn : n ≤ 4) (hh : h < 256) (h4 : 4 ^ n ≤ h) : stp g n c h = none := by
  have hno : ¬ alw g n c h = true := by
    intro ha
    unfold alw at ha
    simp only [Bool.and_eq_true] at ha
    obtain ⟨a0, a1, a2, a3⟩ := ha
    have z : ∀ j, n ≤ j → alD g n c h j = true → dgt h j = 0 := by
      intro j hj hq
      unfold alD at hq
      by_cases h0 : dgt h j = 0
      · exact h0
      · rw [if_neg h0, if_pos hj] at hq; cases hq
    match n, hn with
    | 0, _ =>
      have := z 0 (by omega) a0
      have := z 1 (by omega) a1
      have := z 2 (by omega) a2
      have := z 3 (by omega) a3
      unfold dgt at *
      omega
    | 1, _ =>
      have := z 1 (by omega) a1
      have := z 2 (by omega) a2
      have := z 3 (by omega) a3
      unfold dgt at *
      omega
    | 2, _ =>
      have := z 2 (by omega) a2
      have := z 3 (by omega) a3
      unfold dgt at *
      omega
    | 3, _ =>
      have := z 3 (by omega) a3
      unfold dgt at *
      omega
    | 4, _ => omega
  unfold stp
  rw [if_neg (fun q => hno q.1)]
theorem rkW_far {g : tG_} {n : Nat} {c : tC} (hn : n ≤ 4) : ∀ d, 4 ^ n + d ≤ 256 → rkW g n c (4 ^ n + d) = rkW g n c (4 ^ n) := by
  intro d
  induction d with
  | zero => intro _; rfl
  | succ d ih =>
    intro h
    show rkW g n c (4 ^ n + d) + (if (stp g n c (4 ^ n + d)).isSome = true then 1 else 0) = _
    rw [stp_far (h := 4 ^ n + d) hn (show 4 ^ n + d < 256 by omega) (Nat.le_add_right _ _), ih (by omega)]
    rfl
