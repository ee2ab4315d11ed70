/-! pure: time passes -/
def act (c : tC) (j : Nat) : Bool := decide (c.2.1 j = 0 ∧ 0 < cN (c.1 j))
def need (c : tC) (j : Nat) : Nat := cN (c.2.2 j) + cN (c.1 j)
def unt : Nat → tC → Nat
  | 0, _ => 0
  | n + 1, c => if act c n = true then (if unt n c = 0 then need c n else if need c n < unt n c then need c n else unt n c) else unt n c
theorem unt_succ (n : Nat) (c : tC) : unt (n + 1) c = if act c n = true then (if unt n c = 0 then need c n else if need c n < unt n c then need c n else unt n c) else unt n c := rfl
theorem need_pos {c : tC} {j : Nat} (h : act c j = true) : 0 < need c j := by
  have := (of_decide_eq_true h).2
  unfold need; omega
theorem unt_spec (c : tC) : ∀ n, (unt n c = 0 → ∀ j, j < n → act c j = false) ∧ (0 < unt n c → (∃ j, j < n ∧ act c j = true ∧ need c j = unt n c) ∧ ∀ j, j < n → act c j = true → unt n c ≤ need c j) := by
  intro n
  induction n with
  | zero => exact ⟨fun _ j h => by omega, fun h => by simp [unt] at h⟩
  | succ n ih =>
    unfold unt
    by_cases ha : act c n = true
    · rw [if_pos ha]
      have hp := need_pos ha
      by_cases h0 : unt n c = 0
      · rw [if_pos h0]
        refine ⟨fun q => by omega, fun _ => ⟨⟨n, by omega, ha, rfl⟩, fun j hj hj2 => ?_⟩⟩
        by_cases hjn : j = n
        · subst hjn; exact Nat.le_refl _
        · rw [ih.1 h0 j (by omega)] at hj2; cases hj2
      · rw [if_neg h0]
        obtain ⟨⟨j0, j1, j2, j3⟩, j4⟩ := ih.2 (by omega)
        by_cases hl : need c n < unt n c
        · rw [if_pos hl]
          refine ⟨fun q => by omega, fun _ => ⟨⟨n, by omega, ha, rfl⟩, fun j hj hj2 => ?_⟩⟩
          by_cases hjn : j = n
          · subst hjn; exact Nat.le_refl _
          · have := j4 j (by omega) hj2; omega
        · rw [if_neg hl]
          refine ⟨fun q => by omega, fun _ => ⟨⟨j0, by omega, j2, j3⟩, fun j hj hj2 => ?_⟩⟩
          by_cases hjn : j = n
          · subst hjn; omega
          · exact j4 j (by omega) hj2
    · rw [if_neg ha]
      refine ⟨fun q j hj => ?_, fun q => ?_⟩
      · by_cases hjn : j = n
        · subst hjn; exact Bool.eq_false_iff.mpr ha
        · exact ih.1 q j (by omega)
      · obtain ⟨⟨j0, j1, j2, j3⟩, j4⟩ := ih.2 q
        refine ⟨⟨j0, by omega, j2, j3⟩, fun j hj hj2 => ?_⟩
        by_cases hjn : j = n
        · subst hjn; exact absurd hj2 ha
        · exact j4 j (by omega) hj2
theorem need_le {g : tG_} {n : Nat} {c : tC} (hG : GOK g n) (hC : Cok g n c) {j : Nat} (hj : j < n) : need c j ≤ 39 := by
  obtain ⟨⟨a1, a2⟩, b1, c1, c2, c3⟩ := hC.1 j hj
  obtain ⟨-, ⟨r1, r2, r3⟩, -⟩ := hG.2.2 j hj
  unfold need; omega
theorem unt_le {g : tG_} {n : Nat} {c : tC} (hG : GOK g n) (hC : Cok g n c) : ∀ i, i ≤ n → unt i c ≤ 39 := by
  intro i hi
  by_cases h : unt i c = 0
  · omega
  · obtain ⟨⟨j0, j1, j2, j3⟩, -⟩ := (unt_spec c i).2 (by omega)
    have := need_le hG hC (show j0 < n by omega)
    omega
theorem nI_le0 {a : Nat} (h : a < 2 ^ 31) : (nI a ≤ 0) = (a = 0) := by
  apply propext
  rw [show (0 : Int32) = nI 0 from rfl, nI_leI h (by omega)]
  omega
theorem unt_loop {g : tG_} {n : Nat} {c : tC} (hG : GOK g n) (hC : Cok g n c) : ∀ (m i : Nat), n - i < m → i ≤ n → f_X2_untilEvent_4 m g c (nI (unt i c)) (nI i) = some (nI (unt n c), nI n) := by
  have hn := hG.1
  intro m
  induction m with
  | zero => intro i h1; omega
  | succ m ih =>
    intro i h1 hi
    rw [f_X2_untilEvent_4]
    unfold f_X3_count
    simp only [Option.bind_some, hG.2.1]
    by_cases he : i = n
    · subst he
      rw [if_pos (nI_le (Nat.le_refl _) (by omega))]
    · have hin : i < n := by omega
      obtain ⟨⟨a1, a2⟩, b1, c1, c2, c3⟩ := hC.1 i hin
      obtain ⟨-, ⟨r1, r2, r3⟩, -⟩ := hG.2.2 i hin
      have hu := unt_le hG hC i (by omega)
      rw [if_neg (nI_ge hin (by omega))]
      simp only [inb_t (show i < 2 ^ 31 by omega) (show i < 4 by omega), nI_clamp (show i < 2 ^ 31 by omega), if_true, nI_1]
      have hI := ih (i + 1) (by omega) (by omega)
      rw [unt_succ] at hI
      have e1 : (c.1 i ≤ 0) = (cN (c.1 i) = 0) := by rw [a1, nI_le0 (by omega)]; unfold cN; rw [nI_clamp (by unfold cN at *; omega)]
      have e2 : c.2.2 i + c.1 i = nI (need c i) := by
        have := nI_add (cN (c.2.2 i)) (cN (c.1 i))
        rw [← c1, ← a1] at this
        exact this
      have hnd := need_le hG hC hin
      have e3 : (nI (unt i c) = (0 : Int32)) = (unt i c = 0) := propext (nI_eq (b := 0) (by omega) (by omega))
      simp only [e1, e2, e3]
      by_cases hl : c.2.1 i = 0
      · rw [if_pos hl]
        by_cases ha : cN (c.1 i) = 0
        · rw [if_pos ha]
          rw [if_neg (show ¬ act c i = true by unfold act; rw [decide_eq_true_eq]; omega)] at hI
          exact hI
        · rw [if_neg ha]
          rw [if_pos (show act c i = true by unfold act; rw [decide_eq_true_eq]; exact ⟨hl, by omega⟩)] at hI
          by_cases h0 : unt i c = 0
          · rw [if_pos h0]
            rw [if_pos h0] at hI
            exact hI
          · rw [if_neg h0]
            rw [if_neg h0] at hI
            by_cases hlt : need c i < unt i c
            · rw [if_pos (nI_lt hlt (by omega))]
              rw [if_pos hlt] at hI
              exact hI
            · rw [if_neg (nI_nlt (by omega) (by omega))]
              rw [if_neg hlt] at hI
              exact hI
      · rw [if_neg hl]
        rw [if_neg (show ¬ act c i = true by unfold act; rw [decide_eq_true_eq]; exact fun q => hl q.1)] at hI
        exact hI
theorem untX {g : tG_} {n : Nat} {c : tC} (hG : GOK g n) (hC : Cok g n c) : f_X2_untilEvent g c = some (nI (unt n c)) := by
  unfold f_X2_untilEvent
  have := unt_loop hG hC 100000 0 (by have := hG.1; omega) (by omega)
  rw [show unt 0 c = 0 from rfl] at this
  rw [show (0 : Int32) = nI 0 from rfl, this]
  rfl
def adv (n t : Nat) (c : tC) : tC := (fun j => if j < n ∧ c.2.1 j = 0 then nI (cN (c.1 j) - (t - cN (c.2.2 j))) else c.1 j, c.2.1, fun j => if j < n ∧ c.2.1 j = 0 then nI (cN (c.2.2 j) - t) else c.2.2 j)
def AG (c d : tC) (j : Nat) : Prop := c.1 j = d.1 j ∧ c.2.1 j = d.2.1 j ∧ c.2.2 j = d.2.2 j
def ixF (n i : Nat) (c d T : tC) : Prop := ∀ j, (¬ (i ≤ j ∧ j < n) → AG d c j) ∧ (i ≤ j → j < n → AG d T j)
theorem ixF_end {n : Nat} {c T : tC} : ixF n n c c T := fun j => ⟨fun _ => ⟨rfl, rfl, rfl⟩, fun a b => by omega⟩
theorem ixF_step {n i : Nat} {c c' d T : tC} (hi : i < n) (ho : ∀ j, j ≠ i → AG c' c j) (hs : AG c' T i) (hF : ixF n (i + 1) c' d T) : ixF n i c d T := by
  intro j
  by_cases hj : j = i
  · subst hj
    have := (hF j).1 (by omega)
    refine ⟨fun q => by omega, fun _ _ => ⟨this.1.trans hs.1, this.2.1.trans hs.2.1, this.2.2.trans hs.2.2⟩⟩
  · refine ⟨fun q => ?_, fun a b => (hF j).2 (by omega) b⟩
    have := (hF j).1 (by omega)
    have h2 := ho j hj
    exact ⟨this.1.trans h2.1, this.2.1.trans h2.2.1, this.2.2.trans h2.2.2⟩
theorem adv_in {n t j : Nat} {c : tC} (hj : j < n) (hl : c.2.1 j = 0) : (adv n t c).1 j = nI (cN (c.1 j) - (t - cN (c.2.2 j))) ∧ (adv n t c).2.2 j = nI (cN (c.2.2 j) - t) := by
  unfold adv; simp [hj, hl]
theorem adv_out {n t j : Nat} {c : tC} (h : ¬ (j < n ∧ c.2.1 j = 0)) : (adv n t c).1 j = c.1 j ∧ (adv n t c).2.2 j = c.2.2 j := by
  exact ⟨if_neg h, if_neg h⟩
theorem cN_nI {a : Nat} (h : a < 2 ^ 31) : cN (nI a) = a := nI_clamp h
theorem Cok_adv {g : tG_} {n t : Nat} {c : tC} (hG : GOK g n) (hC : Cok g n c) : Cok g n (adv n t c) := by
  refine ⟨fun j hj => ?_, fun j hj => ?_⟩
  · obtain ⟨⟨a1, a2⟩, b1, c1, c2, c3⟩ := hC.1 j hj
    obtain ⟨-, ⟨r1, r2, r3⟩, -⟩ := hG.2.2 j hj
    by_cases hl : c.2.1 j = 0
    · obtain ⟨e1, e2⟩ := adv_in (t := t) hj hl
      rw [e1, e2, cN_nI (by omega), cN_nI (by omega)]
      refine ⟨⟨rfl, by omega⟩, b1, rfl, by omega, fun q => ?_⟩
      have := c3 q
      have h0 : cN (c.2.2 j) = 0 := by rw [this]; rfl
      rw [h0, Nat.zero_sub]; rfl
    · obtain ⟨e1, e2⟩ := adv_out (n := n) (t := t) (c := c) (j := j) (fun q => hl q.2)
      rw [e1, e2]
      exact ⟨⟨a1, a2⟩, b1, c1, c2, c3⟩
  · obtain ⟨e1, e2⟩ := adv_out (n := n) (t := t) (c := c) (j := j) (fun q => by omega)
    obtain ⟨a, b, d⟩ := hC.2 j hj
    rw [e1, e2]
    exact ⟨a, b, d⟩
theorem adv_0 {g : tG_} {n : Nat} {c : tC} (hC : Cok g n c) : adv n 0 c = c := by
  refine tC_ext fun j => ?_
  by_cases h : j < n ∧ c.2.1 j = 0
  · obtain ⟨e1, e2⟩ := adv_in (t := 0) h.1 h.2
    obtain ⟨⟨a1, a2⟩, b1, c1, c2, c3⟩ := hC.1 j h.1
    rw [e1, e2, Nat.zero_sub, Nat.sub_zero, Nat.sub_zero]
    exact ⟨a1.symm, rfl, c1.symm⟩
  · obtain ⟨e1, e2⟩ := adv_out (t := 0) h
    exact ⟨e1, rfl, e2⟩
theorem adv_s {g : tG_} {n t : Nat} {c : tC} (hG : GOK g n) (hC : Cok g n c) : adv n 1 (adv n t c) = adv n (t + 1) c := by
  refine tC_ext fun j => ?_
  have hl : (adv n t c).2.1 = c.2.1 := rfl
  by_cases h : j < n ∧ c.2.1 j = 0
  · obtain ⟨⟨a1, a2⟩, b1, c1, c2, c3⟩ := hC.1 j h.1
    obtain ⟨-, ⟨r1, r2, r3⟩, -⟩ := hG.2.2 j h.1
    obtain ⟨e1, e2⟩ := adv_in (t := t) h.1 h.2
    obtain ⟨e3, e4⟩ := adv_in (t := t + 1) h.1 h.2
    obtain ⟨e5, e6⟩ := adv_in (t := 1) (c := adv n t c) h.1 h.2
    rw [e5, e6, e1, e2, e3, e4, cN_nI (by omega), cN_nI (by omega)]
    refine ⟨?_, rfl, ?_⟩
    · exact congrArg nI (by omega)
    · exact congrArg nI (by omega)
  · obtain ⟨e1, e2⟩ := adv_out (t := t) h
    obtain ⟨e3, e4⟩ := adv_out (t := t + 1) h
    obtain ⟨e5, e6⟩ := adv_out (n := n) (t := 1) (c := adv n t c) (j := j) h
    rw [e5, e6, e1, e2, e3, e4]
    exact ⟨rfl, rfl, rfl⟩
theorem lp_loop {g : tG_} {n t : Nat} {c0 : tC} (hG : GOK g n) (hC : Cok g n c0) (ht : t < 2 ^ 30) : ∀ (m i : Nat) (c : tC), (∀ j, i ≤ j → AG c c0 j) → n - i < m → i ≤ n → ∃ d, f_X2_letPass_2 m g c (nI t) (nI i) = some (nI n, d) ∧ ixF n i c d (adv n t c0) := by
  have hn := hG.1
  intro m
  induction m with
  | zero => intro i c _ h1; omega
  | succ m ih =>
    intro i c hc h1 hi
    rw [f_X2_letPass_2]
    unfold f_X3_count
    simp only [Option.bind_some, hG.2.1]
    by_cases he : i = n
    · subst he
      rw [if_pos (nI_le (Nat.le_refl _) (by omega))]
      exact ⟨c, rfl, ixF_end⟩
    · have hin : i < n := by omega
      obtain ⟨⟨a1, a2⟩, b1, c1, c2, c3⟩ := hC.1 i hin
      obtain ⟨-, ⟨r1, r2, r3⟩, -⟩ := hG.2.2 i hin
      obtain ⟨q1, q2, q3⟩ := hc i (Nat.le_refl _)
      rw [if_neg (nI_ge hin (by omega))]
      simp only [inb_t (show i < 2 ^ 31 by omega) (show i < 4 by omega), nI_clamp (show i < 2 ^ 31 by omega), if_true, nI_1, q1, q2, q3]
      by_cases hl : c0.2.1 i = 0
      · rw [if_pos hl]
        have ew : (if nI t < c0.2.2 i then nI t else c0.2.2 i) = nI (min t (cN (c0.2.2 i))) := by
          rw [c1]
          by_cases h2 : t < cN (c0.2.2 i)
          · rw [if_pos (nI_lt h2 (by omega)), cN_nI (by omega), Nat.min_eq_left (by omega)]
          · rw [if_neg (nI_nlt (by omega) (by omega)), cN_nI (by omega), Nat.min_eq_right (by omega)]
        have ea : c0.2.2 i - nI (min t (cN (c0.2.2 i))) = nI (cN (c0.2.2 i) - t) := by
          have := pk_sub (a := cN (c0.2.2 i)) (b := min t (cN (c0.2.2 i))) (Nat.min_le_right _ _)
          rw [← c1] at this
          rw [this]; congr 1; omega
        have eb : nI t - nI (min t (cN (c0.2.2 i))) = nI (t - cN (c0.2.2 i)) := by
          rw [pk_sub (Nat.min_le_left _ _)]; congr 1; omega
        have ec : (if (0 : Int32) < c0.1 i - nI (t - cN (c0.2.2 i)) then c0.1 i - nI (t - cN (c0.2.2 i)) else 0) = nI (cN (c0.1 i) - (t - cN (c0.2.2 i))) := by
          by_cases h2 : t - cN (c0.2.2 i) < cN (c0.1 i)
          · have e5 : c0.1 i - nI (t - cN (c0.2.2 i)) = nI (cN (c0.1 i) - (t - cN (c0.2.2 i))) := by
              have := pk_sub (a := cN (c0.1 i)) (b := t - cN (c0.2.2 i)) (by omega)
              rw [← a1] at this
              exact this
            rw [e5, if_pos (show (0 : Int32) < _ from nI_lt (a := 0) (Nat.sub_pos_of_lt h2) (by omega))]
          · rw [if_neg, show cN (c0.1 i) - (t - cN (c0.2.2 i)) = 0 by omega]
            · rfl
            · rw [i_lt]
              have e5 : (nI (cN (c0.1 i)) - nI (t - cN (c0.2.2 i))).toInt = (cN (c0.1 i) : Int) - ((t - cN (c0.2.2 i) : Nat) : Int) := pk_sub_toInt (by omega) (by omega)
              rw [← a1] at e5
              rw [e5]
              show ¬ (0 : Int) < _
              omega
        simp only [ew, ea, eb, ec]
        obtain ⟨d, h2, h3⟩ := ih (i + 1) (upd c.1 i (nI (cN (c0.1 i) - (t - cN (c0.2.2 i)))), c.2.1, upd c.2.2 i (nI (cN (c0.2.2 i) - t))) (fun j hj => by
          have := hc j (by omega)
          exact ⟨(upd_n (by omega)).trans this.1, this.2.1, (upd_n (by omega)).trans this.2.2⟩) (by omega) (by omega)
        refine ⟨d, h2, ixF_step hin ?_ ?_ h3⟩
        · exact fun j hj => ⟨upd_n hj, rfl, upd_n hj⟩
        · obtain ⟨e1, e2⟩ := adv_in (t := t) hin hl
          exact ⟨upd_s.trans e1.symm, q2, upd_s.trans e2.symm⟩
      · rw [if_neg hl]
        obtain ⟨d, h2, h3⟩ := ih (i + 1) c (fun j hj => hc j (by omega)) (by omega) (by omega)
        refine ⟨d, h2, ixF_step hin ?_ ?_ h3⟩
        · exact fun j hj => ⟨rfl, rfl, rfl⟩
        · obtain ⟨e1, e2⟩ := adv_out (n := n) (t := t) (c := c0) (j := i) (fun q => hl q.2)
          exact ⟨q1.trans e1.symm, q2, q3.trans e2.symm⟩
theorem ixF_eq {n : Nat} {c d T : tC} (hF : ixF n 0 c d T) (hT : ∀ j, n ≤ j → AG c T j) : d = T := by
  refine tC_ext fun j => ?_
  by_cases hj : j < n
  · exact (hF j).2 (by omega) hj
  · have := (hF j).1 (by omega)
    have h2 := hT j (by omega)
    exact ⟨this.1.trans h2.1, this.2.1.trans h2.2.1, this.2.2.trans h2.2.2⟩
theorem adv_far {n t j : Nat} {c : tC} (hj : n ≤ j) : AG c (adv n t c) j := by
  obtain ⟨e1, e2⟩ := adv_out (n := n) (t := t) (c := c) (j := j) (fun q => by omega)
  exact ⟨e1.symm, rfl, e2.symm⟩
theorem letX {g : tG_} {n t : Nat} {c : tC} (hG : GOK g n) (hC : Cok g n c) (ht : t < 2 ^ 30) : f_X2_letPass g c (nI t) = some (adv n t c) := by
  obtain ⟨d, h1, h2⟩ := lp_loop hG hC ht 100000 0 c (fun _ _ => ⟨rfl, rfl, rfl⟩) (by have := hG.1; omega) (by omega)
  unfold f_X2_letPass
  rw [show (0 : Int32) = nI 0 from rfl, h1, ← ixF_eq h2 (fun j hj => adv_far hj)]
  rfl
