/-! pure: time passes, moment by moment (reference) -/
def outs : Nat → tC → Bool
  | 0, _ => false
  | n + 1, c => outs n c || (fal c n && decide (c.1 n = 1))
theorem outs_spec (c : tC) : ∀ n, outs n c = true ↔ ∃ j, j < n ∧ fal c j = true ∧ c.1 j = 1 := by
  intro n
  induction n with
  | zero => exact ⟨fun h => by simp [outs] at h, fun ⟨j, h, _⟩ => by omega⟩
  | succ n ih =>
    unfold outs
    rw [Bool.or_eq_true, ih, Bool.and_eq_true, decide_eq_true_eq]
    constructor
    · rintro (⟨j, h1, h2⟩ | h)
      · exact ⟨j, by omega, h2⟩
      · exact ⟨n, by omega, h⟩
    · rintro ⟨j, h1, h2⟩
      by_cases hj : j = n
      · subst hj; exact Or.inr h2
      · exact Or.inl ⟨j, by omega, h2⟩
theorem ps_loop {g : tG_} {n : Nat} {c0 : tC} (hG : GOK g n) (hC : Cok g n c0) : ∀ (m i : Nat) (c : tC), (∀ j, i ≤ j → AG c c0 j) → n - i < m → i ≤ n → ∃ d, f_X9_passes_4 m g c (b2 (outs i c0)) (nI i) = some (b2 (outs n c0), nI n, d) ∧ ixF n i c d (adv n 1 c0) := by
  have hn := hG.1
  intro m
  induction m with
  | zero => intro i c _ h1; omega
  | succ m ih =>
    intro i c hc h1 hi
    rw [f_X9_passes_4, hG.2.1]
    by_cases he : i = n
    · subst he
      rw [if_pos (nI_le (Nat.le_refl _) (by omega))]
      exact ⟨c, rfl, ixF_end⟩
    · have hin : i < n := by omega
      obtain ⟨⟨a1, a2⟩, b1, c1, c2, c3⟩ := hC.1 i hin
      obtain ⟨-, ⟨r1, r2, r3⟩, -⟩ := hG.2.2 i hin
      obtain ⟨q1, q2, q3⟩ := hc i (Nat.le_refl _)
      have hfe : fal c i = fal c0 i := by unfold fal; rw [q1, q2, q3]
      rw [if_neg (nI_ge hin (by omega)), falM (show i < 4 by omega), hfe]
      have ela : (c0.1 i ≤ 0) = (cN (c0.1 i) = 0) := by
        have := nI_le0 (a := cN (c0.1 i)) (by omega)
        rwa [← a1] at this
      have elw : (c0.2.2 i ≤ 0) = (cN (c0.2.2 i) = 0) := by
        have := nI_le0 (a := cN (c0.2.2 i)) (by omega)
        rwa [← c1] at this
      have e0w : (c0.2.2 i = 0) = (cN (c0.2.2 i) = 0) := by
        have : (nI (cN (c0.2.2 i)) = nI 0) = (cN (c0.2.2 i) = 0) := propext (nI_eq (by omega) (by omega))
        rwa [← c1] at this
      have hos : outs (i + 1) c0 = (outs i c0 || (fal c0 i && decide (c0.1 i = 1))) := rfl
      simp only [Option.bind_some, inb_t (show i < 2 ^ 31 by omega) (show i < 4 by omega), nI_clamp (show i < 2 ^ 31 by omega), if_true, nI_1, q1, q2, q3, upd_s]
      by_cases hf : fal c0 i = true
      · have hf2 := of_decide_eq_true hf
        rw [hf, if_neg (show ¬ b2 true = 0 by decide)]
        have hap : 0 < cN (c0.1 i) := by
          have := hf2.2.2
          rw [ela] at this
          omega
        have hw0 : cN (c0.2.2 i) = 0 := by rw [← e0w]; exact hf2.2.1
        have es : c0.1 i - 1 = nI (cN (c0.1 i) - 1) := by
          have := pk_sub (a := cN (c0.1 i)) (b := 1) (by omega)
          rw [← a1] at this
          exact this
        obtain ⟨e1, e2⟩ := adv_in (t := 1) hin hf2.1
        rw [hw0] at e1 e2
        have ez : (c0.1 i - 1 = 0) = (c0.1 i = 1) := by
          have h5 : (nI (cN (c0.1 i) - 1) = nI 0) = (nI (cN (c0.1 i)) = nI 1) := by
            apply propext
            rw [nI_eq (by omega) (by omega), nI_eq (by omega) (by omega)]
            omega
          rw [← a1, ← es] at h5
          exact h5
        have hnext : ∀ b : Bool, b = outs (i + 1) c0 → ∃ d, f_X9_passes_4 m g (upd c.1 i (c0.1 i - 1), c.2.1, c.2.2) (b2 b) (nI (i + 1)) = some (b2 (outs n c0), nI n, d) ∧ ixF n i c d (adv n 1 c0) := by
          intro b hb
          subst hb
          obtain ⟨d, h2, h3⟩ := ih (i + 1) (upd c.1 i (c0.1 i - 1), c.2.1, c.2.2) (fun j hj => by
            have := hc j (by omega)
            exact ⟨(upd_n (by omega)).trans this.1, this.2.1, this.2.2⟩) (by omega) (by omega)
          refine ⟨d, h2, ixF_step hin ?_ ?_ h3⟩
          · exact fun j hj => ⟨upd_n hj, rfl, rfl⟩
          · refine ⟨upd_s.trans (by rw [es, e1]), q2, ?_⟩
            show c.2.2 i = _
            rw [q3, e2, hf2.2.1]; rfl
        by_cases ho : outs i c0 = true
        · rw [ho, if_neg (show ¬ b2 true = 0 by decide)]
          exact hnext true (by rw [hos, ho]; rfl)
        · rw [Bool.eq_false_iff.mpr ho, if_pos (show b2 false = 0 from rfl)]
          simp only [ez]
          by_cases h1e : c0.1 i = 1
          · rw [if_pos h1e]
            exact hnext true (by rw [hos, Bool.eq_false_iff.mpr ho, hf, h1e]; rfl)
          · rw [if_neg h1e]
            exact hnext false (by rw [hos, Bool.eq_false_iff.mpr ho, hf, decide_eq_false h1e]; rfl)
      · rw [Bool.eq_false_iff.mpr hf, if_pos (show b2 false = 0 from rfl)]
        have hf2 : ¬ (c0.2.1 i = 0 ∧ c0.2.2 i = 0 ∧ ¬ c0.1 i ≤ 0) := fun q => hf (decide_eq_true q)
        rw [ela, e0w] at hf2
        have hoe : outs (i + 1) c0 = outs i c0 := by rw [hos, Bool.eq_false_iff.mpr hf]; simp
        by_cases hl : c0.2.1 i = 0
        · rw [if_pos hl]
          obtain ⟨e1, e2⟩ := adv_in (t := 1) hin hl
          simp only [elw]
          by_cases hw : cN (c0.2.2 i) = 0
          · rw [if_pos hw]
            obtain ⟨d, h2, h3⟩ := ih (i + 1) c (fun j hj => hc j (by omega)) (by omega) (by omega)
            rw [hoe] at h2
            refine ⟨d, h2, ixF_step hin ?_ ?_ h3⟩
            · exact fun j hj => ⟨rfl, rfl, rfl⟩
            · have ha0 : cN (c0.1 i) = 0 := by
                by_cases h9 : cN (c0.1 i) = 0
                · exact h9
                · exact absurd ⟨hl, hw, h9⟩ hf2
              refine ⟨?_, q2, ?_⟩
              · rw [q1, e1, ha0, Nat.zero_sub, a1, ha0]
              · rw [q3, e2, hw, Nat.zero_sub, c1, hw]
          · rw [if_neg hw]
            have es : c0.2.2 i - 1 = nI (cN (c0.2.2 i) - 1) := by
              have := pk_sub (a := cN (c0.2.2 i)) (b := 1) (by omega)
              rw [← c1] at this
              exact this
            obtain ⟨d, h2, h3⟩ := ih (i + 1) (c.1, c.2.1, upd c.2.2 i (c0.2.2 i - 1)) (fun j hj => by
              have := hc j (by omega)
              exact ⟨this.1, this.2.1, (upd_n (by omega)).trans this.2.2⟩) (by omega) (by omega)
            rw [hoe] at h2
            refine ⟨d, h2, ixF_step hin ?_ ?_ h3⟩
            · exact fun j hj => ⟨rfl, rfl, upd_n hj⟩
            · refine ⟨?_, q2, upd_s.trans (by rw [es, e2])⟩
              show c.1 i = _
              rw [q1, e1, show 1 - cN (c0.2.2 i) = 0 by omega, Nat.sub_zero, ← a1]
        · rw [if_neg hl]
          obtain ⟨d, h2, h3⟩ := ih (i + 1) c (fun j hj => hc j (by omega)) (by omega) (by omega)
          rw [hoe] at h2
          refine ⟨d, h2, ixF_step hin ?_ ?_ h3⟩
          · exact fun j hj => ⟨rfl, rfl, rfl⟩
          · obtain ⟨e1, e2⟩ := adv_out (n := n) (t := 1) (c := c0) (j := i) (fun q => hl q.2)
            exact ⟨q1.trans e1.symm, q2, q3.trans e2.symm⟩
theorem passM {g : tG_} {n : Nat} {c : tC} (hG : GOK g n) (hC : Cok g n c) : f_X9_passes g c = some (b2 (outs n c), adv n 1 c) := by
  obtain ⟨d, h1, h2⟩ := ps_loop hG hC 100000 0 c (fun _ _ => ⟨rfl, rfl, rfl⟩) (by have := hG.1; omega) (by omega)
  unfold f_X9_passes
  rw [show (0 : Int32) = b2 (outs 0 c) from rfl, show f_X9_passes_4 100000 g c (b2 (outs 0 c)) (b2 (outs 0 c)) = _ from h1, ← ixF_eq h2 (fun j hj => adv_far hj)]
  simp only [Option.bind_some]
  cases outs n c <;> rfl
theorem outs_adv {g : tG_} {n k : Nat} {c : tC} (hG : GOK g n) (hC : Cok g n c) (hk : k < unt n c) : outs n (adv n k c) = decide (k + 1 = unt n c) := by
  obtain ⟨⟨j0, j1, j2, j3⟩, j4⟩ := (unt_spec c n).2 (by omega)
  have key : ∀ j, j < n → (fal (adv n k c) j = true ∧ (adv n k c).1 j = 1 ↔ act c j = true ∧ need c j = k + 1) := by
    intro j hj
    obtain ⟨⟨a1, a2⟩, b1, c1, c2, c3⟩ := hC.1 j hj
    obtain ⟨-, ⟨r1, r2, r3⟩, -⟩ := hG.2.2 j hj
    by_cases hl : c.2.1 j = 0
    · obtain ⟨e1, e2⟩ := adv_in (t := k) hj hl
      unfold fal act need
      rw [decide_eq_true_eq, decide_eq_true_eq, show (adv n k c).2.1 j = c.2.1 j from rfl, e1, e2]
      have f1 : (nI (cN (c.2.2 j) - k) = (0 : Int32)) = (cN (c.2.2 j) - k = 0) := propext (nI_eq (b := 0) (by omega) (by omega))
      have f2 : (nI (cN (c.1 j) - (k - cN (c.2.2 j))) ≤ (0 : Int32)) = (cN (c.1 j) - (k - cN (c.2.2 j)) = 0) := nI_le0 (by omega)
      have f3 : (nI (cN (c.1 j) - (k - cN (c.2.2 j))) = (1 : Int32)) = (cN (c.1 j) - (k - cN (c.2.2 j)) = 1) := propext (nI_eq (b := 1) (by omega) (by omega))
      rw [f1, f2, f3]
      constructor
      · rintro ⟨⟨x1, x2, x3⟩, x4⟩
        exact ⟨⟨x1, by omega⟩, by omega⟩
      · rintro ⟨⟨x1, x2⟩, x3⟩
        exact ⟨⟨x1, by omega, by omega⟩, by omega⟩
    · unfold fal act
      rw [decide_eq_true_eq, decide_eq_true_eq, show (adv n k c).2.1 j = c.2.1 j from rfl]
      exact ⟨fun q => absurd q.1.1 hl, fun q => absurd q.1.1 hl⟩
  by_cases he : k + 1 = unt n c
  · rw [decide_eq_true he, outs_spec]
    exact ⟨j0, j1, (key j0 j1).mpr ⟨j2, by omega⟩⟩
  · rw [decide_eq_false he, Bool.eq_false_iff]
    intro q
    obtain ⟨j, h1, h2⟩ := (outs_spec _ n).mp q
    obtain ⟨h3, h4⟩ := (key j h1).mp h2
    have := j4 j h1 h3
    omega
theorem go_loop {g : tG_} {n : Nat} {c : tC} (hG : GOK g n) (hC : Cok g n c) (x1 : Int32) : ∀ (r k m : Nat), k + r + 1 = unt n c → r < m → f_X9_goOn_54 m g (adv n k c) x1 (nI (k + 1)) = some (nI (unt n c), adv n (unt n c) c) := by
  intro r
  induction r with
  | zero =>
    intro k m hk hm
    obtain ⟨m, rfl⟩ : ∃ m', m = m' + 1 := ⟨m - 1, by omega⟩
    rw [f_X9_goOn_54, passM hG (Cok_adv hG hC), outs_adv hG hC (by omega), adv_s hG hC, decide_eq_true (show k + 1 = unt n c by omega), show k + 1 = unt n c by omega]
    rfl
  | succ r ih =>
    intro k m hk hm
    obtain ⟨m, rfl⟩ : ∃ m', m = m' + 1 := ⟨m - 1, by omega⟩
    rw [f_X9_goOn_54, passM hG (Cok_adv hG hC), outs_adv hG hC (by omega), adv_s hG hC, decide_eq_false (show ¬ k + 1 = unt n c by omega)]
    simp only [Option.bind_some, nI_1]
    rw [if_pos (show b2 false = 0 from rfl)]
    exact ih (k + 1) m (by omega) (by omega)
theorem can_loop {g : tG_} {n : Nat} {c : tC} (hG : GOK g n) (hC : Cok g n c) : ∀ (m i : Nat), n - i < m → i ≤ n → f_X9_goOn_4 m g c (b2 (decide (unt i c ≠ 0))) (nI i) = some (b2 (decide (unt n c ≠ 0)), nI n) := by
  have hn := hG.1
  intro m
  induction m with
  | zero => intro i h1; omega
  | succ m ih =>
    intro i h1 hi
    rw [f_X9_goOn_4, hG.2.1]
    by_cases he : i = n
    · subst he
      rw [if_pos (nI_le (Nat.le_refl _) (by omega))]
    · have hin : i < n := by omega
      obtain ⟨⟨a1, a2⟩, b1, c1, c2, c3⟩ := hC.1 i hin
      obtain ⟨-, ⟨r1, r2, r3⟩, -⟩ := hG.2.2 i hin
      have hI := ih (i + 1) (by omega) (by omega)
      rw [unt_succ] at hI
      rw [if_neg (nI_ge hin (by omega))]
      have ela : (c.1 i ≤ 0) = (cN (c.1 i) = 0) := by
        have := nI_le0 (a := cN (c.1 i)) (by omega)
        rwa [← a1] at this
      simp only [inb_t (show i < 2 ^ 31 by omega) (show i < 4 by omega), nI_clamp (show i < 2 ^ 31 by omega), if_true, nI_1, ela]
      by_cases hu : unt i c = 0
      · rw [decide_eq_false (show ¬ unt i c ≠ 0 from fun q => q hu), if_pos (show b2 false = 0 from rfl)]
        rw [if_pos hu] at hI
        by_cases hl : c.2.1 i = 0
        · rw [if_pos hl]
          by_cases ha : cN (c.1 i) = 0
          · rw [if_pos ha]
            rw [if_neg (show ¬ act c i = true by unfold act; rw [decide_eq_true_eq]; omega), hu] at hI
            exact hI
          · rw [if_neg ha]
            have hact : act c i = true := by unfold act; rw [decide_eq_true_eq]; exact ⟨hl, by omega⟩
            have := need_pos hact
            rw [if_pos hact, decide_eq_true (show need c i ≠ 0 by omega)] at hI
            exact hI
        · rw [if_neg hl]
          rw [if_neg (show ¬ act c i = true by unfold act; rw [decide_eq_true_eq]; exact fun q => hl q.1), hu] at hI
          exact hI
      · rw [decide_eq_true hu, if_neg (show ¬ b2 true = 0 by decide)]
        rw [if_neg hu] at hI
        have h9 : (if act c i = true then if need c i < unt i c then need c i else unt i c else unt i c) ≠ 0 := by
          split
          · rename_i hact
            have := need_pos hact
            split <;> omega
          · exact hu
        rw [decide_eq_true h9] at hI
        exact hI
theorem goM {g : tG_} {n : Nat} {c : tC} (hG : GOK g n) (hC : Cok g n c) : f_X9_goOn g c = some (nI (unt n c), adv n (unt n c) c) := by
  unfold f_X9_goOn
  have h1 := can_loop hG hC 100000 0 (by have := hG.1; omega) (by omega)
  rw [show b2 (decide (unt 0 c ≠ 0)) = (0 : Int32) from rfl] at h1
  have h1' : f_X9_goOn_4 100000 g c 0 0 = some (b2 (decide (unt n c ≠ 0)), nI n) := h1
  rw [h1']
  simp only [Option.bind_some]
  by_cases hu : unt n c = 0
  · rw [decide_eq_false (show ¬ unt n c ≠ 0 from fun q => q hu), if_pos (show b2 false = 0 from rfl), hu, adv_0 hC]
    rfl
  · rw [decide_eq_true hu, if_neg (show ¬ b2 true = 0 by decide)]
    have h2 := go_loop hG hC (b2 true) (unt n c - 1) 0 100000 (by omega) (by have := unt_le hG hC n (Nat.le_refl _); omega)
    rw [adv_0 hC] at h2
    have h2' : f_X9_goOn_54 100000 g c (b2 true) 1 = some (nI (unt n c), adv n (unt n c) c) := h2
    rw [h2']
    rfl
