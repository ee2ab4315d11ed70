/-! pure: soonest -/
theorem minO_perm {f f' : Nat → Option Nat} {N : Nat} (h1 : ∀ a, a < N → ∃ b, b < N ∧ f' b = f a) (h2 : ∀ b, b < N → ∃ a, a < N ∧ f a = f' b) : minO N f = minO N f' := by
  cases h : minO N f with
  | none =>
    cases h' : minO N f' with
    | none => rfl
    | some w =>
      obtain ⟨b, b1, b2'⟩ := minO_some h'
      obtain ⟨a, a1, a2⟩ := h2 b b1
      rw [minO_none h a a1, b2'] at a2
      cases a2
  | some v =>
    obtain ⟨a, a1, a2⟩ := minO_some h
    obtain ⟨b, b1, b2'⟩ := h1 a a1
    obtain ⟨w, w1, w2⟩ := minO_le b1 (b2'.trans a2)
    obtain ⟨b', c1, c2⟩ := minO_some w1
    obtain ⟨a', d1, d2⟩ := h2 b' c1
    obtain ⟨v', e1, e2⟩ := minO_le d1 (d2.trans c2)
    rw [h] at e1
    injection e1 with e1
    rw [w1]
    congr 1
    omega
def endS (g : tG_) (n s : Nat) (Ds : Nat → tC) (ds : Nat → Nat) (c : Nat) : Option Nat := if (fw g n s (Ds c)).isSome = true then some (ds c + s) else none
theorem minO_s (f : Nat → Option Nat) (k : Nat) : minO (k + 1) f = omin (minO k f) (f k) := rfl
abbrev enc7 (o : Option Nat) : Int32 := match o with
  | none => -7
  | some v => nI v
theorem n7 {v : Nat} (h : v < 2 ^ 31) : ¬ nI v = -7 := by
  rw [i_eq, tI_nI h]
  have : (-7 : Int32).toInt = -7 := rfl
  omega
theorem se_loop {g : tG_} {n : Nat} {re : tRE} {N : Nat} {Ds : Nat → tC} {ds ws : Nat → Nat} (hT : XT g n re N Ds ds ws) {pl : tPL} (hS : SPB g n N Ds pl.1) {s : Nat} (hs : s ≤ 60) : ∀ (m i : Nat), i ≤ N → N - i < m → f_X5_soonestEnd_9 m re pl (nI s) (enc7 (minO i (endS g n s Ds ds))) (nI i) = some (enc7 (minO N (endS g n s Ds ds)), nI N) := by
  have hN6 := hT.1.choose_spec.1
  have hbd : ∀ c, c < N → ds c ≤ 39 * 600 := fun c hc => by have := hT.2.2.2.2.1.2.2.2 c hc; omega
  intro m
  induction m with
  | zero => intro i _ h; omega
  | succ m ih =>
    intro i hi hm
    rw [f_X5_soonestEnd_9]
    unfold f_X6_count f_X6_earliestOf
    rw [Option.bind_some, hT.2.1]
    by_cases he : i = N
    · subst he
      rw [if_pos (nI_le (Nat.le_refl _) (by omega))]
    · have hb := hbd i (by omega)
      rw [if_neg (nI_ge (by omega) (by omega)), if_pos (inb_t (by omega) (by omega)), Option.bind_some, nI_clamp (by omega), hT.2.2.2.1 i (by omega), goesX hS hN6 (by omega) hs, Option.bind_some, nI_add, nI_1]
      have hIH := ih (i + 1) (by omega) (by omega)
      rw [minO_s] at hIH
      unfold endS at hIH
      rw [show minO i (fun c => if (fw g n s (Ds c)).isSome = true then some (ds c + s) else none) = minO i (endS g n s Ds ds) from rfl] at hIH
      cases hf : (fw g n s (Ds i)).isSome with
      | false =>
        rw [if_pos (show b2 false = 0 by decide)]
        rw [hf, if_neg (by decide)] at hIH
        cases hm0 : minO i (endS g n s Ds ds) with
        | none => rw [hm0] at hIH; exact hIH
        | some v => rw [hm0] at hIH; exact hIH
      | true =>
        rw [if_neg (show ¬ b2 true = 0 by decide)]
        rw [hf, if_pos rfl] at hIH
        cases hm0 : minO i (endS g n s Ds ds) with
        | none =>
          rw [if_pos (show enc7 none = -7 from rfl)]
          rw [hm0] at hIH
          exact hIH
        | some v =>
          have hv : v ≤ 39 * 600 + 60 := by
            obtain ⟨x, x1, x2⟩ := minO_some hm0
            unfold endS at x2
            split at x2
            · injection x2 with x2
              have := hbd x (by omega)
              omega
            · cases x2
          rw [hm0] at hIH
          rw [if_neg (show ¬ enc7 (some v) = -7 from n7 (by omega))]
          by_cases hlt : ds i + s < v
          · rw [if_neg (show ¬ enc7 (some v) ≤ nI (ds i + s) from nI_ge hlt (by omega))]
            have : omin (some v) (some (ds i + s)) = some (ds i + s) := congrArg some (if_pos hlt)
            rw [this] at hIH
            exact hIH
          · rw [if_pos (show enc7 (some v) ≤ nI (ds i + s) from nI_le (by omega) (by omega))]
            have : omin (some v) (some (ds i + s)) = some v := congrArg some (if_neg hlt)
            rw [this] at hIH
            exact hIH
theorem sm_loop {g : tG_} {n : Nat} {mf : tMF} {N : Nat} {Cs : Nat → tC} (hM : MTs g n mf N Cs) (hN6 : N ≤ 600) {es : Nat → Nat} (hes : ∀ c, c < N → mf.2.2.2.2.2.2.1 c = nI (es c) ∧ es c ≤ 39 * 600) {s : Nat} (hs : s ≤ 60) (x2 : Int32) : ∀ (m i : Nat), i ≤ N → N - i < m → f_X9_soonest_17 m mf (nI s) x2 (enc (minO i (endS g n s Cs es))) (nI i) = some (enc (minO N (endS g n s Cs es)), nI N) := by
  have e3 := hM.1.2.2.1
  intro m
  induction m with
  | zero => intro i _ h; omega
  | succ m ih =>
    intro i hi hm
    rw [f_X9_soonest_17, e3]
    by_cases he : i = N
    · subst he
      rw [if_pos (nI_le (Nat.le_refl _) (by omega))]
    · obtain ⟨h1, hb⟩ := hes i (by omega)
      rw [if_neg (nI_ge (by omega) (by omega)), if_pos (inb_t (by omega) (by omega)), e600, nI_add, if_pos (inb_t (by omega) (by omega)), nI_clamp (by omega), nI_clamp (by omega), ft0 hM hN6 hs (by omega), h1, nI_add, nI_1]
      simp only [fw_lt0 hs]
      have hIH := ih (i + 1) (by omega) (by omega)
      rw [minO_s] at hIH
      unfold endS at hIH
      rw [show minO i (fun c => if (fw g n s (Cs c)).isSome = true then some (es c + s) else none) = minO i (endS g n s Cs es) from rfl] at hIH
      cases hf : fw g n s (Cs i) with
      | none =>
        rw [if_pos rfl]
        rw [hf, if_neg (by decide)] at hIH
        cases hm0 : minO i (endS g n s Cs es) with
        | none => rw [hm0] at hIH; exact hIH
        | some v => rw [hm0] at hIH; exact hIH
      | some fv =>
        rw [if_neg (fun q => by cases q)]
        rw [hf, if_pos (show (some fv).isSome = true from rfl)] at hIH
        cases hm0 : minO i (endS g n s Cs es) with
        | none =>
          rw [if_pos (show enc none < 0 by decide)]
          rw [hm0] at hIH
          exact hIH
        | some v =>
          have hv : v ≤ 39 * 600 + 60 := by
            obtain ⟨x, x1, x2⟩ := minO_some hm0
            unfold endS at x2
            split at x2
            · injection x2 with x2
              have := (hes x (by omega)).2
              omega
            · cases x2
          rw [hm0] at hIH
          rw [if_neg (show ¬ enc (some v) < 0 from nI_pos (by omega))]
          by_cases hlt : es i + s < v
          · rw [if_neg (show ¬ enc (some v) ≤ nI (es i + s) from nI_ge hlt (by omega))]
            have : omin (some v) (some (es i + s)) = some (es i + s) := congrArg some (if_pos hlt)
            rw [this] at hIH
            exact hIH
          · rw [if_pos (show enc (some v) ≤ nI (es i + s) from nI_le (by omega) (by omega))]
            have : omin (some v) (some (es i + s)) = some v := congrArg some (if_neg hlt)
            rw [this] at hIH
            exact hIH
theorem pp_soonest {g : tG_} {n : Nat} (hG : GOK g n) {c mn : tC} (hz : Z4 c) (hz' : Z4 mn) {re : tRE} {pl : tPL} {mf : tMF} (hR : RelX g n re pl) (hF : RelM g n mf) (a : Int32) : ∃ (x : Int32 × tC × tRE × tPL) (y : Int32 × tMN × tMF), f_X8_soonest g c re pl a = some x ∧ f_X9_soonest g mn mf a = some y ∧ x.1 = y.1 ∧ Z4 x.2.1 ∧ Z4 y.2.1 ∧ RelX g n x.2.2.1 x.2.2.2 ∧ RelM g n y.2.2 := by
  obtain ⟨c', re', mn', mf', b1, b2', b3, b4, b5⟩ := askS hG hz hz' hR hF a
  unfold f_X8_soonest f_X9_soonest
  rcases b5 with ⟨r, r1, r2, r3⟩ | ⟨r2, r3, s, N, Ds, ds, ws, Cs, s1, s2, s3, k1, k2, hT, hP, hM⟩
  · have hr0 : ¬ r = 0 := by rcases r1 with q | q <;> rw [q] <;> decide
    rw [r2, r3, Option.bind_some, Option.bind_some, if_neg hr0, if_neg hr0]
    exact ⟨_, _, rfl, rfl, rfl, b1, b2', b3, b4⟩
  · obtain ⟨-, hN6, l3, l4⟩ := link hT hM
    obtain ⟨sp, p1, p2, p3⟩ := spansX hG hT hP.sp
    have hR' : RelX g n re' (sp, pl.2.1, pl.2.2.1, 1, pl.2.2.2.2) := Or.inr (Or.inr ⟨k1, k2, N, Ds, ds, ws, hT, PT_sp hP p2 p3⟩)
    obtain ⟨-, -, es, q5, q6⟩ := hM.2 hN6
    have hes : ∀ c, c < N → mf'.2.2.2.2.2.2.1 c = nI (es c) ∧ es c ≤ 39 * 600 := fun c hc => ⟨q6 c hc, by have := q5.2.2.2 c hc; omega⟩
    have hds : ∀ c, c < N → ds c ≤ 39 * 600 := fun c hc => by have := hT.2.2.2.2.1.2.2.2 c hc; omega
    rw [r2, r3, Option.bind_some, Option.bind_some, if_pos rfl, if_pos rfl, s3]
    unfold f_X5_soonestEnd
    have x1 := se_loop hT (pl := (sp, pl.2.1, pl.2.2.1, 1, pl.2.2.2.2)) p2 s2 100000 0 (by omega) (by omega)
    have x1' : f_X5_soonestEnd_9 100000 re' (sp, pl.2.1, pl.2.2.1, 1, pl.2.2.2.2) (nI s) (-7) 0 = _ := x1
    have y1 := sm_loop hM hN6 hes s2 0 100000 0 (by omega) (by omega)
    have y1' : f_X9_soonest_17 100000 mf' (nI s) 0 (-1) 0 = _ := y1
    rw [p1, Option.bind_some, x1', Option.bind_some, y1', Option.bind_some, Option.bind_some]
    have hpm : minO N (endS g n s Ds ds) = minO N (endS g n s Cs es) := by
      refine minO_perm (fun a' ha => ?_) (fun b hb => ?_)
      · obtain ⟨b, h1, h2, h3⟩ := l3 a' ha
        refine ⟨b, h1, ?_⟩
        have h4 := (hes b h1)
        have h5 := hds a' ha
        rw [h4.1] at h3
        have := (nI_eq (by omega) (by omega)).mp h3
        unfold endS
        rw [h2, this]
      · obtain ⟨a', h1, h2, h3⟩ := l4 b hb
        refine ⟨a', h1, ?_⟩
        have h4 := (hes b hb)
        have h5 := hds a' h1
        rw [h4.1] at h3
        have := (nI_eq (by omega) (by omega)).mp h3
        unfold endS
        rw [h2, this]
    rw [hpm]
    cases hm0 : minO N (endS g n s Cs es) with
    | none =>
      rw [if_neg (show ¬ 0 ≤ enc none by decide)]
      exact ⟨_, _, rfl, rfl, rfl, b1, b2', hR', b4⟩
    | some v =>
      have hv : v ≤ 39 * 600 + 60 := by
        obtain ⟨x, x1, x2⟩ := minO_some hm0
        unfold endS at x2
        split at x2
        · injection x2 with x2
          have := (hes x x1).2
          omega
        · cases x2
      rw [if_pos (show 0 ≤ enc (some v) from nI_pos' (by omega))]
      exact ⟨_, _, rfl, rfl, rfl, b1, b2', hR', b4⟩
