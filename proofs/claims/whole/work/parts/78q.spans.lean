/-! pure: the class finds the spans -/
theorem fillL_loop (N : Nat) (hN : N < 90000) (v : Int64) : ∀ (m i : Nat) (a : Nat → Int64), N - i < m → i ≤ N → ∃ b, f_J7_fill_d0a16_6 N m a v (nI i) (nI N) = some (nI N, b) ∧ ∀ j, b j = if i ≤ j ∧ j < N then v else a j := by
  intro m
  induction m with
  | zero => intro i a h; omega
  | succ m ih =>
    intro i a h hi
    rw [f_J7_fill_d0a16_6]
    by_cases he : i = N
    · subst he
      refine ⟨a, ?_, fun j => by rw [if_neg (by omega)]⟩
      rw [if_pos (nI_le (Nat.le_refl _) (by omega))]
    · rw [if_neg (nI_ge (by omega) (by omega)), if_pos (inb_t (by omega) (by omega)), nI_clamp (by omega), nI_1]
      obtain ⟨b, h1, h2⟩ := ih (i + 1) (vp_updL a i v) (by omega) (by omega)
      refine ⟨b, h1, fun j => ?_⟩
      rw [h2 j]
      by_cases h3 : i + 1 ≤ j ∧ j < N
      · rw [if_pos h3, if_pos (by omega)]
      · rw [if_neg h3]
        by_cases h4 : j = i
        · subst h4; rw [updL_s, if_pos (by omega)]
        · rw [updL_n h4, if_neg (by omega)]
theorem fillL (a : Nat → Int64) {N : Nat} (hN : N < 90000) (v : Int64) : ∃ b, f_J7_fill_d0a16 a N v = some b ∧ ∀ j, j < N → b j = v := by
  obtain ⟨b, h1, h2⟩ := fillL_loop N hN v 100000 0 a (by omega) (by omega)
  refine ⟨b, ?_, fun j hj => by rw [h2, if_pos (by omega)]⟩
  unfold f_J7_fill_d0a16
  rw [show (0 : Int32) = nI 0 from rfl, h1]
  rfl
theorem sp_in {g : tG_} {n : Nat} (hG : GOK g n) {re : tRE} {N : Nat} {Ds : Nat → tC} {ds ws : Nat → Nat} (hT : XT g n re N Ds ds ws) {k : Nat} (x2 : Int32) : ∀ (m i : Nat) (x1 : Int32) (pl : tPL) (B : Nat → Nat), i ≤ N → i < m → (∀ c, c < N → pl.1 c = lN (B c)) → SB g n N Ds B → (∀ c, c < N → CP g n Ds B k c) → (∀ c, i ≤ c → c < N → CP g n Ds B (k + 1) c) → (x1 = 0 ∨ x1 = 1) → (x1 = 0 → ∀ c, i ≤ c → c < N → ∀ s, s ≤ 60 → ((B c).testBit s = true ↔ Byw g n N Ds B c s)) → ∃ (x1' : Int32) (sp' : Nat → Int64) (B' : Nat → Nat), f_X5_findSpans_47 m re pl x1 x2 (nI i + (-1)) = some (x1', -1, (sp', pl.2)) ∧ (∀ c, c < N → sp' c = lN (B' c)) ∧ SB g n N Ds B' ∧ (∀ c, c < N → CP g n Ds B' (k + 1) c) ∧ (x1' = 0 ∨ x1' = 1) ∧ (x1' = 0 → ∀ c, c < N → ∀ s, s ≤ 60 → ((B' c).testBit s = true ↔ Byw g n N Ds B' c s)) := by
  have hN6 := hT.1.choose_spec.1
  intro m
  induction m with
  | zero => intro i x1 pl B _ h; omega
  | succ m ih =>
    intro i x1 pl B hi hm hB hS hk hk1 hx hfix
    rw [f_X5_findSpans_47]
    cases i with
    | zero =>
      rw [if_pos (show nI 0 + (-1) < 0 by decide)]
      exact ⟨x1, pl.1, B, rfl, hB, hS, fun c hc => hk1 c (Nat.zero_le _) hc, hx, fun q c hc => hfix q c (Nat.zero_le _) hc⟩
    | succ i =>
      obtain ⟨V, v1, v2, v3⟩ := sbwX hG hT hB (show i < N by omega)
      rw [pk_m1, if_neg (nI_pos (by omega)), v1, Option.bind_some, if_pos (inb_t (by omega) (by omega)), nI_clamp (by omega), if_pos (inb_t (by omega) (by omega)), if_pos (inb_t (by omega) (by omega)), hB i (by omega)]
      have hBi := (hS i (by omega)).1
      simp only [cmp0 (show V < 2 ^ 63 by omega) (show B i < 2 ^ 63 by omega)]
      have hB' : ∀ c, c < N → vp_updL pl.1 i (lN V) c = lN (va_up B i V c) := fun c hc => by
        by_cases hci : c = i
        · subst hci; rw [updL_s, vup_s]
        · rw [updL_n hci, vup_n hci]; exact hB c hc
      have hS' : SB g n N Ds (va_up B i V) := fun c hc => by
        by_cases hci : c = i
        · subst hci; rw [vup_s]
          exact ⟨v2, fun s hs q => Byw_sound hS hs ((v3 s hs).mp q)⟩
        · rw [vup_n hci]; exact hS c hc
      have hVc : CP g n Ds (va_up B i V) (k + 1) i := fun s hs hs6 hf => by
        rw [vup_s]
        exact (v3 s hs6).mpr (Byw_comp hT (by omega) hs6 (fun c hc s' hs' hf' => hk c hc s' (by omega) (by omega) hf') hf)
      have hk' : ∀ c, c < N → CP g n Ds (va_up B i V) k c := fun c hc => by
        by_cases hci : c = i
        · subst hci; exact fun s hs => hVc s (by omega)
        · intro s hs hs6 hf; rw [vup_n hci]; exact hk c hc s hs hs6 hf
      have hk1' : ∀ c, i ≤ c → c < N → CP g n Ds (va_up B i V) (k + 1) c := fun c hci hc => by
        by_cases hci : c = i
        · subst hci; exact hVc
        · intro s hs hs6 hf; rw [vup_n hci]; exact hk1 c (by omega) hc s hs hs6 hf
      by_cases hV : V = B i
      · rw [if_pos hV]
        have hsame : va_up B i V = B := by
          funext c
          by_cases hci : c = i
          · subst hci; rw [vup_s, hV]
          · rw [vup_n hci]
        have hx0 : x1 ||| 0 = x1 := by rcases hx with q | q <;> rw [q] <;> decide
        rw [hx0]
        exact ih i x1 (vp_updL pl.1 i (lN V), pl.2) (va_up B i V) (by omega) (by omega) hB' hS' hk' hk1' hx (fun q c hci hc s hs => by
          rw [hsame]
          by_cases hce : c = i
          · subst hce; rw [← hV]; exact v3 s hs
          · exact hfix q c (by omega) hc s hs)
      · rw [if_neg hV]
        have hx1 : x1 ||| 1 = 1 := by rcases hx with q | q <;> rw [q] <;> decide
        rw [hx1]
        exact ih i 1 (vp_updL pl.1 i (lN V), pl.2) (va_up B i V) (by omega) (by omega) hB' hS' hk' hk1' (Or.inr rfl) (fun q => absurd q (by decide))
theorem fix_comp {g : tG_} {n : Nat} {re : tRE} {N : Nat} {Ds : Nat → tC} {ds ws : Nat → Nat} (hT : XT g n re N Ds ds ws) {B : Nat → Nat} (hfix : ∀ c, c < N → ∀ s, s ≤ 60 → ((B c).testBit s = true ↔ Byw g n N Ds B c s)) : ∀ k c, c < N → CP g n Ds B k c := by
  intro k
  induction k with
  | zero =>
    intro c hc s hs hs6 hf
    exact (hfix c hc s hs6).mpr (Or.inl (by omega))
  | succ k ih =>
    intro c hc s hs hs6 hf
    exact (hfix c hc s hs6).mpr (Byw_comp hT hc hs6 (fun c' hc' s' hs' hf' => ih c' hc' s' (by omega) (by omega) hf') hf)
theorem sp_out {g : tG_} {n : Nat} (hG : GOK g n) {re : tRE} {N : Nat} {Ds : Nat → tC} {ds ws : Nat → Nat} (hT : XT g n re N Ds ds ws) : ∀ (m r : Nat) (x1 : Int32) (pl : tPL) (B : Nat → Nat), r ≤ 60 → 60 - r < m → (∀ c, c < N → pl.1 c = lN (B c)) → SB g n N Ds B → (∀ c, c < N → CP g n Ds B r c) → (x1 = 0 ∨ x1 = 1) → (x1 = 0 → ∀ c, c < N → ∀ s, s ≤ 60 → ((B c).testBit s = true ↔ Byw g n N Ds B c s)) → ∃ (x1' x2' : Int32) (sp' : Nat → Int64) (B' : Nat → Nat), f_X5_findSpans_25 m re pl x1 (nI r) = some (x1', x2', (sp', pl.2)) ∧ (∀ c, c < N → sp' c = lN (B' c)) ∧ SB g n N Ds B' ∧ (∀ c, c < N → CP g n Ds B' 60 c) := by
  have hN6 := hT.1.choose_spec.1
  have hN1 := hT.2.2.1.1
  intro m
  induction m with
  | zero => intro r x1 pl B _ h; omega
  | succ m ih =>
    intro r x1 pl B hr hm hB hS hk hx hfix
    rw [f_X5_findSpans_25]
    by_cases h6 : r = 60
    · subst h6
      rw [if_pos (show (60 : Int32) ≤ nI 60 by decide)]
      exact ⟨_, _, pl.1, B, rfl, hB, hS, hk⟩
    · rw [if_neg (show ¬ (60 : Int32) ≤ nI r from nI_ge (b := 60) (by omega) (by omega))]
      by_cases h0 : x1 = 0
      · rw [if_pos h0]
        exact ⟨_, _, pl.1, B, rfl, hB, hS, fix_comp hT (hfix h0) 60⟩
      · rw [if_neg h0]
        unfold f_X6_count
        rw [Option.bind_some, hT.2.1, show nI N - (1 : Int32) = nI N + (-1) by rw [show N = (N - 1) + 1 by omega, pk_m1]; exact pk_sub (a := N - 1 + 1) (b := 1) (by omega)]
        obtain ⟨x1', sp', B', r1, r2, r3, r4, r5, r6⟩ := sp_in hG hT (k := r) (nI r) 100000 N 0 pl B (Nat.le_refl _) (by omega) hB hS hk (fun c h1 h2 => by omega) (Or.inl rfl) (fun _ c h1 h2 => by omega)
        rw [r1, Option.bind_some, nI_1]
        exact ih (r + 1) x1' (sp', pl.2) B' (by omega) (by omega) r2 r3 r4 r5 r6
/-- the class's spans, as bits -/
def SPB (g : tG_) (n N : Nat) (Ds : Nat → tC) (sp : Nat → Int64) : Prop := ∃ B : Nat → Nat, ∀ c, c < N → sp c = lN (B c) ∧ B c < 2 ^ 61 ∧ ∀ s, s ≤ 60 → (B c).testBit s = (fw g n s (Ds c)).isSome
theorem spansX {g : tG_} {n : Nat} (hG : GOK g n) {re : tRE} {N : Nat} {Ds : Nat → tC} {ds ws : Nat → Nat} (hT : XT g n re N Ds ds ws) {pl : tPL} (hP : pl.2.2.2.1 = 0 ∨ (pl.2.2.2.1 = 1 ∧ SPB g n N Ds pl.1)) : ∃ sp, f_X5_findSpans re pl = some (sp, pl.2.1, pl.2.2.1, 1, pl.2.2.2.2) ∧ SPB g n N Ds sp ∧ (pl.2.2.2.1 = 1 → sp = pl.1) := by
  have hN6 := hT.1.choose_spec.1
  unfold f_X5_findSpans
  rcases hP with h0 | ⟨h1, h2⟩
  · obtain ⟨b, b1, b2'⟩ := fillL pl.1 (N := 600) (by omega) 1
    rw [if_pos h0, b1, Option.bind_some]
    obtain ⟨x1', x2', sp', B', r1, r2, r3, r4⟩ := sp_out hG hT 100000 0 1 (b, pl.2.1, pl.2.2.1, 1, pl.2.2.2.2.1, pl.2.2.2.2.2.1, pl.2.2.2.2.2.2) (fun _ => 1) (by omega) (by omega) (fun c hc => b2' c (by omega)) (fun c hc => ⟨show 1 < 2 ^ 61 by decide, fun s hs q => by rw [tb_1] at q; subst q; rfl⟩) (fun c hc s hs hs6 hf => by rw [tb_1]; omega) (Or.inr rfl) (fun q => absurd q (by decide))
    have r1' : f_X5_findSpans_25 100000 re (b, pl.2.1, pl.2.2.1, 1, pl.2.2.2.2.1, pl.2.2.2.2.2.1, pl.2.2.2.2.2.2) 1 0 = _ := r1
    rw [r1', Option.bind_some]
    refine ⟨sp', rfl, ⟨B', fun c hc => ⟨r2 c hc, (r3 c hc).1, fun s hs => ?_⟩⟩, fun q => by rw [h0] at q; exact absurd q (by decide)⟩
    cases hf : (fw g n s (Ds c)).isSome with
    | true => exact r4 c hc s hs hs hf
    | false =>
      cases hb : (B' c).testBit s with
      | false => rfl
      | true => rw [(r3 c hc).2 s hs hb] at hf; cases hf
  · rw [if_neg (by rw [h1]; decide)]
    exact ⟨pl.1, by rw [← h1], h2, fun _ => rfl⟩
theorem goesX {g : tG_} {n N : Nat} {Ds : Nat → tC} {pl : tPL} (hS : SPB g n N Ds pl.1) {c s : Nat} (hN : N ≤ 600) (hc : c < N) (hs : s ≤ 60) : f_X5_goesOn pl (nI c) (nI s) = some (b2 ((fw g n s (Ds c)).isSome)) := by
  obtain ⟨B, hB⟩ := hS
  obtain ⟨b1, b2', b3⟩ := hB c hc
  unfold f_X5_goesOn
  have hd : (((nI s).toInt64 &&& 63).toBitVec.smod 64).toNat = s := by
    rw [wb_c s (by omega), wb_tb, wb_sm s (by omega), BitVec.toNat_ofNat, Nat.mod_eq_of_lt (by omega)]
  have hq : B c / 2 ^ s ≤ B c := Nat.div_le_self _ _
  rw [if_pos (inb_t (by omega) (by omega)), nI_clamp (by omega), b1, pf_shr hd (by omega), show (1 : Int64) = lN (2 ^ 1 - 1) from rfl, wb_and (by omega) (by decide), Nat.and_two_pow_sub_one_eq_mod]
  have hm : B c / 2 ^ s % 2 ^ 1 < 2 := Nat.mod_lt _ (by decide)
  simp only [show (lg_cmp (lN (B c / 2 ^ s % 2 ^ 1)) 0 = 0) = (B c / 2 ^ s % 2 ^ 1 = 0) from cmp0 (show B c / 2 ^ s % 2 ^ 1 < 2 ^ 63 by omega) (show 0 < 2 ^ 63 by omega)]
  rw [← b3 s hs, Nat.testBit_eq_decide_div_mod_eq]
  by_cases h : B c / 2 ^ s % 2 ^ 1 = 0
  · rw [if_pos h, decide_eq_false (by omega)]; rfl
  · rw [if_neg h, decide_eq_true (by omega)]; rfl
