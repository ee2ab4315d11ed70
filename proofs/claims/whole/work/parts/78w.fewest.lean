/-! pure: fewest -/
abbrev setU (pl : tPL) (su : Nat → Int32) : tPL := (pl.1, su, pl.2.2)
theorem sh_nI {v : Nat} (h : v ≤ 10000) : vp_nar .short (nI v).toInt16.toInt32 = nI v := by
  rw [pk_vs]
  exact lg_i2s_small (by rw [tI_nI (by omega)]; omega) (by rw [tI_nI (by omega)]; omega)
theorem fs_row {g : tG_} {n : Nat} (hG : GOK g n) {re : tRE} {N : Nat} {Ds : Nat → tC} {ds ws : Nat → Nat} (hT : XT g n re N Ds ds ws) {pl : tPL} (hP : SPB g n N Ds pl.1) {s : Nat} (hs : s ≤ 60) (x1 : Int32) : ∀ (m c : Nat) (su : Nat → Int32), c ≤ N → N - c < m → SU g n su N Ds ds s → (∀ b, b < c → su (600 * s + b) = nI (sm g n Ds ds s b)) → ∃ su', f_X5_findSums_12 m re (setU pl su) x1 (nI s) (nI c) = some (nI N, setU pl su') ∧ SU g n su' N Ds ds (s + 1) := by
  have hN6 := hT.1.choose_spec.1
  intro m
  induction m with
  | zero => intro c su _ h; omega
  | succ m ih =>
    intro c su hc hm hS hb
    rw [f_X5_findSums_12]
    unfold f_X6_count
    rw [Option.bind_some, hT.2.1]
    by_cases he : c = N
    · subst he
      rw [if_pos (nI_le (Nat.le_refl _) (by omega))]
      refine ⟨su, rfl, fun s' hs' b hb' => ?_⟩
      by_cases hss : s' = s
      · subst hss; exact hb b hb'
      · exact hS s' (by omega) b hb'
    · rw [if_neg (nI_ge (by omega) (by omega)), sumFromX hG hT (pl := setU pl su) hP (by omega) hs hS, Option.bind_some, show nI s * (600 : Int32) = nI (s * 600) from pk_mul _ 600, nI_add, if_pos (inb_t (by omega) (by omega)), nI_clamp (by omega), sh_nI (sm_le hs), nI_1, show s * 600 + c = 600 * s + c by omega]
      refine ih (c + 1) (upd su (600 * s + c) (nI (sm g n Ds ds s c))) (by omega) (by omega) (fun s' hs' b hb' => ?_) (fun b hb' => ?_)
      · rw [upd_n (by omega)]; exact hS s' hs' b hb'
      · by_cases hbc : b = c
        · subst hbc; rw [upd_s]
        · rw [upd_n (by omega)]; exact hb b (by omega)
theorem fs_all {g : tG_} {n : Nat} (hG : GOK g n) {re : tRE} {N : Nat} {Ds : Nat → tC} {ds ws : Nat → Nat} (hT : XT g n re N Ds ds ws) {pl : tPL} (hP : SPB g n N Ds pl.1) {s : Nat} (hs : s ≤ 60) : ∀ (m k : Nat) (su : Nat → Int32), k ≤ 61 → s + 1 - k < m → SU g n su N Ds ds k → ∃ (x : Int32) (su' : Nat → Int32), f_X5_findSums_5 m re (setU pl su) (nI s) (nI k) = some (x, setU pl su') ∧ SU g n su' N Ds ds (max k (s + 1)) := by
  have hN6 := hT.1.choose_spec.1
  intro m
  induction m with
  | zero => intro k su _ h; omega
  | succ m ih =>
    intro k su hk hm hS
    rw [f_X5_findSums_5]
    by_cases he : s < k
    · rw [if_pos (nI_lt he (by omega))]
      exact ⟨_, su, rfl, by rw [show max k (s + 1) = k by omega]; exact hS⟩
    · rw [if_neg (nI_nlt (by omega) (by omega))]
      obtain ⟨su', r1, r2⟩ := fs_row hG hT hP (s := k) (by omega) (nI s) 100000 0 su (by omega) (by omega) hS (fun b h => by omega)
      have r1' : f_X5_findSums_12 100000 re (setU pl su) (nI s) (nI k) 0 = _ := r1
      rw [r1', Option.bind_some, nI_1]
      obtain ⟨x, su'', q1, q2⟩ := ih (k + 1) su' (by omega) (by omega) r2
      exact ⟨x, su'', q1, by rw [show max k (s + 1) = max (k + 1) (s + 1) by omega]; exact q2⟩
theorem sumsX {g : tG_} {n : Nat} (hG : GOK g n) {re : tRE} {N : Nat} {Ds : Nat → tC} {ds ws : Nat → Nat} (hT : XT g n re N Ds ds ws) {pl : tPL} (hP : SPB g n N Ds pl.1) {s S : Nat} (hs : s ≤ 60) (hS : S ≤ 61) (hk : pl.2.2.2.2.1 = nI S) (hU : SU g n pl.2.1 N Ds ds S) : ∃ su', f_X5_findSums re pl (nI s) = some (pl.1, su', pl.2.2.1, pl.2.2.2.1, nI (max S (s + 1)), pl.2.2.2.2.2) ∧ SU g n su' N Ds ds (max S (s + 1)) := by
  unfold f_X5_findSums
  obtain ⟨x, su', r1, r2⟩ := fs_all hG hT hP hs 100000 S pl.2.1 hS (by omega) hU
  have r1' : f_X5_findSums_5 100000 re pl (nI s) (nI S) = _ := r1
  rw [hk, r1', Option.bind_some]
  refine ⟨su', ?_, r2⟩
  dsimp only
  rw [hk, nI_1]
  by_cases h : S < s + 1
  · rw [if_pos (nI_lt h (by omega)), show max S (s + 1) = s + 1 by omega]
  · rw [if_neg (nI_nlt (by omega) (by omega)), show max S (s + 1) = S by omega]
/-- the class asked for plans of a span that there are -/
theorem isPureX {g : tG_} {n : Nat} (hG : GOK g n) {re : tRE} {N : Nat} {Ds : Nat → tC} {ds ws : Nat → Nat} (hT : XT g n re N Ds ds ws) {pl : tPL} (hP : PT g n pl N Ds ds) {s : Nat} (hs : s ≤ 60) : ∃ pl', f_X5_isPure re pl (nI s) = some (b2 (fw g n s c00).isSome, pl') ∧ PT g n pl' N Ds ds ∧ pl'.2.2.2.1 = 1 := by
  have hN6 := hT.1.choose_spec.1
  have hN1 := hT.2.2.1.1
  obtain ⟨sp, p1, p2, p3⟩ := spansX hG hT hP.sp
  unfold f_X5_isPure
  have hgo := goesX (pl := (sp, pl.2.1, pl.2.2.1, 1, pl.2.2.2.2)) p2 hN6 (show 0 < N by omega) hs
  have hgo' : f_X5_goesOn (sp, pl.2.1, pl.2.2.1, 1, pl.2.2.2.2) 0 (nI s) = _ := hgo
  rw [p1, Option.bind_some, hgo', Option.bind_some, hT.2.2.1.2, if_pos (show isb (b2 (fw g n s c00).isSome) = true by cases (fw g n s c00).isSome <;> decide)]
  exact ⟨_, rfl, PT_sp hP p2 p3, rfl⟩
theorem PT.got {g : tG_} {n : Nat} {pl : tPL} {N : Nat} {Ds : Nat → tC} {ds : Nat → Nat} (h : PT g n pl N Ds ds) (h1 : pl.2.2.2.1 = 1) : SPB g n N Ds pl.1 ∧ ∃ S, S ≤ 61 ∧ pl.2.2.2.2.1 = nI S ∧ SU g n pl.2.1 N Ds ds S := by
  rcases h with h | h
  · rw [h.1] at h1; exact absurd h1 (by decide)
  · exact ⟨h.2.1, h.2.2.1⟩
theorem PT_sums {g : tG_} {n : Nat} {pl : tPL} {N : Nat} {Ds : Nat → tC} {ds : Nat → Nat} {su : Nat → Int32} {S : Nat} (h : PT g n pl N Ds ds) (h1 : pl.2.2.2.1 = 1) (hS : S ≤ 61) (hU : SU g n su N Ds ds S) : PT g n (pl.1, su, pl.2.2.1, pl.2.2.2.1, nI S, pl.2.2.2.2.2) N Ds ds := by
  rcases h with h | h
  · rw [h.1] at h1; exact absurd h1 (by decide)
  · exact Or.inr ⟨h.1, h.2.1, ⟨S, hS, rfl, hU⟩, h.2.2.2⟩
theorem fewM {g : tG_} {n : Nat} {mn : tC} {mf : tMF} {mn' : tC} {mf' : tMF} {s N : Nat} {Cs : Nat → tC} (hw : f_X9_whyNot g mn mf (nI s) = some (0, mn', mf')) (hM : MTs g n mf' N Cs) (hN6 : N ≤ 600) (hs : s ≤ 60) : f_X9_fewest g mn mf (nI s) = some (enc7 (fw g n s c00), mn', mf') := by
  have hft := ft0 hM hN6 hs (show 0 < N from hM.1.1)
  rw [Nat.add_zero] at hft
  unfold f_X9_fewest
  rw [hw, Option.bind_some, if_pos rfl, e600, if_pos (inb_t (by omega) (by omega)), nI_clamp (by omega), hft, if_pos (inb_t (by omega) (by omega)), hM.1.2.2.2.1]
  simp only [fw_lt0 hs]
  cases hf : fw g n s c00 with
  | none => rw [if_pos rfl]
  | some v => rw [if_neg (fun q => by cases q)]
theorem pp_fewest {g : tG_} {n : Nat} (hG : GOK g n) {c mn : tC} (hz : Z4 c) (hz' : Z4 mn) {re : tRE} {pl : tPL} {mf : tMF} (hR : RelX g n re pl) (hF : RelM g n mf) (a : Int32) : ∃ (x : Int32 × tC × tRE × tPL) (y : Int32 × tMN × tMF), f_X8_fewest g c re pl a = some x ∧ f_X9_fewest g mn mf a = some y ∧ x.1 = y.1 ∧ Z4 x.2.1 ∧ Z4 y.2.1 ∧ RelX g n x.2.2.1 x.2.2.2 ∧ RelM g n y.2.2 := by
  obtain ⟨c', re', mn', mf', b1, b2', b3, b4, b5⟩ := askS hG hz hz' hR hF a
  rcases b5 with ⟨r, r1, r2, r3⟩ | ⟨r2, r3, s, N, Ds, ds, ws, Cs, s1, s2, s3, k1, k2, hT, hP, hM⟩
  · unfold f_X8_fewest f_X9_fewest
    have hr0 : ¬ r = 0 := by rcases r1 with q | q <;> rw [q] <;> decide
    rw [r2, r3, Option.bind_some, Option.bind_some, if_neg hr0, if_neg hr0]
    exact ⟨_, _, rfl, rfl, rfl, b1, b2', b3, b4⟩
  · obtain ⟨-, hN6, -, -⟩ := link hT hM
    have hN1 := hT.2.2.1.1
    subst s3
    obtain ⟨pl', p1, p2, p3⟩ := isPureX hG hT hP s2
    rw [fewM r3 hM hN6 s2]
    unfold f_X8_fewest
    rw [r2, Option.bind_some, if_pos rfl, p1, Option.bind_some]
    cases hf : fw g n s c00 with
    | none =>
      rw [if_pos (show b2 (none : Option Nat).isSome = 0 by decide)]
      exact ⟨_, _, rfl, rfl, rfl, b1, b2', Or.inr (Or.inr ⟨k1, k2, N, Ds, ds, ws, hT, p2⟩), b4⟩
    | some v =>
      rw [if_neg (show ¬ b2 (some v).isSome = 0 by rw [Option.isSome_some]; decide)]
      obtain ⟨g1, S, g2, g3, g4⟩ := p2.got p3
      obtain ⟨su, u1, u2⟩ := sumsX hG hT g1 s2 g2 g3 g4
      unfold f_X5_leastSum
      rw [u1, Option.bind_some, show nI s * (600 : Int32) = nI (s * 600) from pk_mul _ 600, show nI (s * 600) + (0 : Int32) = nI (s * 600 + 0) from nI_add _ 0, if_pos (inb_t (by omega) (by omega)), nI_clamp (by omega), Option.bind_some]
      refine ⟨_, _, rfl, rfl, ?_, b1, b2', Or.inr (Or.inr ⟨k1, k2, N, Ds, ds, ws, hT, PT_sums p2 p3 (by omega) u2⟩), b4⟩
      show su (s * 600 + 0) = nI v
      rw [show s * 600 + 0 = 600 * s + 0 by omega, u2 s (by omega) 0 (by omega)]
      unfold sm
      rw [hT.2.2.1.2, hf, hT.2.2.2.2.1.1]
      dsimp only
      rw [if_pos (by omega)]
