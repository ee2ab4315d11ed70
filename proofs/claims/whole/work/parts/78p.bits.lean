/-! pure: spans as bits -/
theorem wb_and {a b : Nat} (ha : a < 2 ^ 64) (hb : b < 2 ^ 64) : lN a &&& lN b = lN (a &&& b) := by
  apply wb_inj
  rw [Int64.toBitVec_and, wb_tb, wb_tb, wb_tb]
  apply BitVec.eq_of_toNat_eq
  rw [BitVec.toNat_and, BitVec.toNat_ofNat, BitVec.toNat_ofNat, BitVec.toNat_ofNat, Nat.mod_eq_of_lt ha, Nat.mod_eq_of_lt hb, Nat.mod_eq_of_lt (Nat.lt_of_le_of_lt Nat.and_le_left ha)]
theorem lN_mod (a : Nat) : lN a = lN (a % 2 ^ 64) := by
  apply wb_inj
  rw [wb_tb, wb_tb]
  apply BitVec.eq_of_toNat_eq
  rw [BitVec.toNat_ofNat, BitVec.toNat_ofNat, Nat.mod_mod]
theorem tb_or {A B t s : Nat} (hs : s < 64) : (A ||| (B * 2 ^ t % 2 ^ 64)).testBit s = true ↔ A.testBit s = true ∨ (t ≤ s ∧ B.testBit (s - t) = true) := by
  rw [Nat.testBit_or, Nat.testBit_mod_two_pow, ← Nat.shiftLeft_eq, Nat.testBit_shiftLeft, decide_eq_true hs, Bool.true_and, Bool.or_eq_true, Bool.and_eq_true, decide_eq_true_eq]
theorem tb_mask {A s : Nat} (hs : s < 61) : (A % 2 ^ 61).testBit s = A.testBit s := by
  rw [Nat.testBit_mod_two_pow, decide_eq_true hs, Bool.true_and]
theorem tb_1 {s : Nat} : Nat.testBit 1 s = true ↔ s = 0 := by
  cases s with
  | zero => exact ⟨fun _ => rfl, fun _ => by decide⟩
  | succ s => rw [Nat.testBit_succ]; simp
theorem fw_step {g : tG_} {n : Nat} {c d : tC} {h t s w : Nat} (hh : h < 256) (hs : stp g n c h = some (d, t)) (hts : t ≤ s) (hw : fw g n (s - t) d = some w) : ∃ v, fw g n s c = some v ∧ v ≤ w + cnt h := by
  have := stp_pos hs
  rw [fw_s (by omega)]
  refine minO_le hh ?_
  unfold byS
  rw [hs]
  dsimp only
  rw [if_pos hts, hw]
  rfl
theorem fw_inv {g : tG_} {n : Nat} {c : tC} {s v : Nat} (hs : 1 ≤ s) (hv : fw g n s c = some v) : ∃ h d t w, h < 256 ∧ stp g n c h = some (d, t) ∧ t ≤ s ∧ fw g n (s - t) d = some w ∧ v = w + cnt h := by
  rw [fw_s hs] at hv
  obtain ⟨h, h1, h2⟩ := minO_some hv
  obtain ⟨d, t, w, q1, q2, q3, q4⟩ := byS_some h2
  exact ⟨h, d, t, w, h1, q1, q2, q3, q4⟩
/-- what the ways from a add up to, by what is known of their goals -/
def Byw (g : tG_) (n N : Nat) (Ds : Nat → tC) (B : Nat → Nat) (a s : Nat) : Prop := s = 0 ∨ ∃ h t b, h < 256 ∧ b < N ∧ stp g n (Ds a) h = some (Ds b, t) ∧ t ≤ s ∧ (B b).testBit (s - t) = true
theorem sbw_loop {g : tG_} {n : Nat} (hG : GOK g n) {re : tRE} {N : Nat} {Ds : Nat → tC} {ds ws : Nat → Nat} (hT : XT g n re N Ds ds ws) {pl : tPL} {B : Nat → Nat} (hB : ∀ c, c < N → pl.1 c = lN (B c)) {a : Nat} (ha : a < N) : ∀ (k h m A : Nat), h + k = 256 → k < m → A < 2 ^ 64 → ∃ A', f_X5_spansByWays_12 m re pl (nI a) (lN A) (nI (ws a + rkW g n (Ds a) h)) = some (lN A', nI (ws a + rkW g n (Ds a) 256)) ∧ A' < 2 ^ 64 ∧ ∀ s, s < 64 → (A'.testBit s = true ↔ A.testBit s = true ∨ ∃ h' t b, h ≤ h' ∧ h' < 256 ∧ b < N ∧ stp g n (Ds a) h' = some (Ds b, t) ∧ t ≤ s ∧ (B b).testBit (s - t) = true) := by
  obtain ⟨⟨o, t1⟩, t2, t3, t4, t5, t6⟩ := hT
  have hN6 := t1.1
  obtain ⟨w1, w2, w3, w4⟩ := t6 a ha
  have hend : f_X6_endOfWays re (nI a) = some (nI (ws a + rkW g n (Ds a) 256)) := by
    unfold f_X6_endOfWays
    rw [if_pos (inb_t (by omega) (by omega)), nI_clamp (by omega), w2]
  intro k
  induction k with
  | zero =>
    intro h m A hk hm hA
    obtain ⟨m, rfl⟩ : ∃ m', m = m' + 1 := ⟨m - 1, by omega⟩
    obtain rfl : h = 256 := by omega
    refine ⟨A, ?_, hA, fun s hs => ⟨fun q => Or.inl q, fun q => ?_⟩⟩
    · rw [f_X5_spansByWays_12, hend, Option.bind_some, if_pos (nI_le (Nat.le_refl _) (by omega))]
    · rcases q with q | ⟨h', t, b, q1, q2, -⟩
      · exact q
      · omega
  | succ k ih =>
    intro h m A hk hm hA
    cases hs : stp g n (Ds a) h with
    | none =>
      obtain ⟨A', r1, r2, r3⟩ := ih (h + 1) m A (by omega) (by omega) hA
      rw [rkW_s0 hs] at r1
      refine ⟨A', r1, r2, fun s hs' => (r3 s hs').trans ⟨fun q => ?_, fun q => ?_⟩⟩
      · rcases q with q | ⟨h', t, b, q1, q2⟩
        · exact Or.inl q
        · exact Or.inr ⟨h', t, b, by omega, q2⟩
      · rcases q with q | ⟨h', t, b, q1, q2, q3, q4, q5⟩
        · exact Or.inl q
        · refine Or.inr ⟨h', t, b, ?_, q2, q3, q4, q5⟩
          by_cases hne : h' = h
          · subst hne; rw [hs] at q4; cases q4
          · omega
    | some x =>
      obtain ⟨d, t⟩ := x
      obtain ⟨m, rfl⟩ : ∃ m', m = m' + 1 := ⟨m - 1, by omega⟩
      obtain ⟨b, b1, b2', b3⟩ := w4 h (by omega) d t hs
      obtain ⟨k1, k2, k3⟩ := stp_ok hG (Rch_ok hG (t1.2.1 a ha).1) hs
      have hlt : rkW g n (Ds a) h < rkW g n (Ds a) 256 := by
        have := rkW_s1 hs
        have := rkW_le (g := g) (n := n) (c := Ds a) (show h + 1 ≤ 256 by omega)
        omega
      have hcl := cnt_le h
      have hway : f_X6_way re (nI (ws a + rkW g n (Ds a) h)) = some (nI (wv (cnt h) h t b)) := by
        unfold f_X6_way
        rw [if_pos (inb_t (by omega) (by omega)), nI_clamp (by omega), b3]
      have hA1 : A ||| (B b * 2 ^ t % 2 ^ 64) < 2 ^ 64 := Nat.or_lt_two_pow hA (Nat.mod_lt _ (by decide))
      obtain ⟨A', r1, r2, r3⟩ := ih (h + 1) m (A ||| (B b * 2 ^ t % 2 ^ 64)) (by omega) (by omega) hA1
      rw [rkW_s1 hs] at r1
      refine ⟨A', ?_, r2, fun s hs' => (r3 s hs').trans ⟨fun q => ?_, fun q => ?_⟩⟩
      · rw [f_X5_spansByWays_12, hend, Option.bind_some, if_neg (nI_ge (by omega) (by omega)), hway, Option.bind_some, wv_goal hcl (by omega) (by omega) (by omega), Option.bind_some, if_pos (inb_t (by omega) (by omega)), wv_pass hcl (by omega) (by omega) (by omega), Option.bind_some, nI_clamp (by omega), hB b b1, wb_shl _ (by omega), lN_mod (B b * 2 ^ t), wb_or hA (Nat.mod_lt _ (by decide)), nI_1]
        exact r1
      · rcases q with q | ⟨h', t', b', q1, q2⟩
        · rcases (tb_or hs').mp q with q | ⟨q1, q2⟩
          · exact Or.inl q
          · exact Or.inr ⟨h, t, b, Nat.le_refl _, by omega, b1, by rw [b2']; exact hs, q1, q2⟩
        · exact Or.inr ⟨h', t', b', by omega, q2⟩
      · rcases q with q | ⟨h', t', b', q1, q2, q3, q4, q5, q6⟩
        · exact Or.inl ((tb_or hs').mpr (Or.inl q))
        · by_cases hne : h' = h
          · subst hne
            rw [hs] at q4
            injection q4 with e
            injection e with e1 e2
            subst e2
            have : b' = b := t1.2.2.1 b' b q3 b1 (by rw [b2', e1])
            subst this
            exact Or.inl ((tb_or hs').mpr (Or.inr ⟨q5, q6⟩))
          · exact Or.inr ⟨h', t', b', by omega, q2, q3, q4, q5, q6⟩
theorem sbwX {g : tG_} {n : Nat} (hG : GOK g n) {re : tRE} {N : Nat} {Ds : Nat → tC} {ds ws : Nat → Nat} (hT : XT g n re N Ds ds ws) {pl : tPL} {B : Nat → Nat} (hB : ∀ c, c < N → pl.1 c = lN (B c)) {a : Nat} (ha : a < N) : ∃ V, f_X5_spansByWays re pl (nI a) = some (lN V) ∧ V < 2 ^ 61 ∧ ∀ s, s ≤ 60 → (V.testBit s = true ↔ Byw g n N Ds B a s) := by
  obtain ⟨A', r1, r2, r3⟩ := sbw_loop hG hT hB ha 256 0 100000 1 (by omega) (by omega) (by decide)
  have hN6 := hT.1.choose_spec.1
  have hst : f_X6_startOfWays re (nI a) = some (nI (ws a)) := by
    unfold f_X6_startOfWays
    rw [if_pos (inb_t (by omega) (by omega)), nI_clamp (by omega), (hT.2.2.2.2.2 a ha).1]
  unfold f_X5_spansByWays
  have r1' : f_X5_spansByWays_12 100000 re pl (nI a) 1 (nI (ws a)) = _ := r1
  rw [hst, Option.bind_some, r1', Option.bind_some]
  refine ⟨A' % 2 ^ 61, ?_, Nat.mod_lt _ (by decide), fun s hs => ?_⟩
  · rw [show (2305843009213693951 : Int64) = lN (2 ^ 61 - 1) by decide, wb_and r2 (by decide), Nat.and_two_pow_sub_one_eq_mod]
  · rw [tb_mask (by omega), r3 s (by omega), tb_1]
    unfold Byw
    constructor
    · rintro (q | ⟨h, t, b, -, q2⟩)
      · exact Or.inl q
      · exact Or.inr ⟨h, t, b, q2⟩
    · rintro (q | ⟨h, t, b, q2⟩)
      · exact Or.inl q
      · exact Or.inr ⟨h, t, b, Nat.zero_le _, q2⟩
/-- no bit too many -/
def SB (g : tG_) (n N : Nat) (Ds : Nat → tC) (B : Nat → Nat) : Prop := ∀ c, c < N → B c < 2 ^ 61 ∧ ∀ s, s ≤ 60 → (B c).testBit s = true → (fw g n s (Ds c)).isSome = true
/-- no bit too few, up to k -/
def CP (g : tG_) (n : Nat) (Ds : Nat → tC) (B : Nat → Nat) (k c : Nat) : Prop := ∀ s, s ≤ k → s ≤ 60 → (fw g n s (Ds c)).isSome = true → (B c).testBit s = true
theorem Byw_sound {g : tG_} {n N : Nat} {Ds : Nat → tC} {B : Nat → Nat} (hS : SB g n N Ds B) {a s : Nat} (hs : s ≤ 60) (hb : Byw g n N Ds B a s) : (fw g n s (Ds a)).isSome = true := by
  rcases hb with q | ⟨h, t, b, q1, q2, q3, q4, q5⟩
  · subst q; rfl
  · obtain ⟨w, hw⟩ := Option.isSome_iff_exists.mp ((hS b q2).2 (s - t) (by omega) q5)
    obtain ⟨v, hv, -⟩ := fw_step q1 q3 q4 hw
    rw [hv]; rfl
theorem Byw_comp {g : tG_} {n : Nat} {re : tRE} {N : Nat} {Ds : Nat → tC} {ds ws : Nat → Nat} (hT : XT g n re N Ds ds ws) {B : Nat → Nat} {a s : Nat} (ha : a < N) (hs : s ≤ 60) (hC : ∀ c, c < N → ∀ s', s' < s → (fw g n s' (Ds c)).isSome = true → (B c).testBit s' = true) (hf : (fw g n s (Ds a)).isSome = true) : Byw g n N Ds B a s := by
  by_cases h0 : s = 0
  · exact Or.inl h0
  · obtain ⟨v, hv⟩ := Option.isSome_iff_exists.mp hf
    obtain ⟨h, d, t, w, q1, q2, q3, q4, q5⟩ := fw_inv (by omega) hv
    obtain ⟨b, b1, b2', -⟩ := (hT.2.2.2.2.2 a ha).2.2.2 h q1 d t q2
    have := stp_pos q2
    exact Or.inr ⟨h, t, b, q1, b1, by rw [b2']; exact q2, q3, hC b b1 (s - t) (by omega) (by rw [b2', q4]; rfl)⟩
