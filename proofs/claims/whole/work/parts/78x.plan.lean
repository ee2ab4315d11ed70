/-! pure: plan, copy -/
theorem Fb_u {g : tG_} {n s : Nat} {c : tC} {h h' : Nat} (a : Fb g n s c h) (b : Fb g n s c h') : h = h' := by
  rcases Nat.lt_trichotomy h h' with q | q | q
  · exact absurd a.1 (b.2 h q)
  · exact q
  · exact absurd b.1 (a.2 h' q)
theorem Pln_u {g : tG_} {n : Nat} : ∀ (L L' : List Nat) (s : Nat) (c : tC), Pln g n L s c → Pln g n L' s c → L = L' := by
  intro L
  induction L with
  | nil =>
    intro L' s c h h'
    cases L' with
    | nil => rfl
    | cons x L' =>
      have h0 : s = 0 := h
      have h1 : 1 ≤ s := h'.1
      omega
  | cons x L ih =>
    intro L' s c h h'
    cases L' with
    | nil =>
      have h0 : s = 0 := h'
      have h1 : 1 ≤ s := h.1
      omega
    | cons y L' =>
      obtain ⟨-, -, a3, d, t, a4, a5, a6⟩ := h
      obtain ⟨-, -, c3, d', t', c4, c5, c6⟩ := h'
      have hxy := Fb_u a3 c3
      subst hxy
      rw [a4] at c4
      injection c4 with e
      injection e with e1 e2
      subst e1 e2
      rw [ih L' (s - t) d a6 c6]
theorem LA_cons {L : List Nat} {h p : Nat} {a : Nat → Int32} (h1 : a p = nI h) (hh : h < 256) (h2 : LA L (p + 1) a) : LA (h :: L) p a := by
  intro i hi
  cases i with
  | zero => exact ⟨h1, hh⟩
  | succ i =>
    have := h2 i (by rw [List.length_cons] at hi; omega)
    rw [show p + (i + 1) = p + 1 + i by omega]
    exact this
theorem mp_loop {g : tG_} {n : Nat} (hG : GOK g n) {re : tRE} {N : Nat} {Ds : Nat → tC} {ds ws : Nat → Nat} (hT : XT g n re N Ds ds ws) (x1 : Int32) : ∀ (k left c len m : Nat) (pl : tPL), left ≤ k → k < m → c < N → ds c + left ≤ 60 → (fw g n left (Ds c)).isSome = true → SU g n pl.2.1 N Ds ds left → pl.2.2.2.2.2.2 = nI len → len + left ≤ 60 → ∃ (x y : Int32) (L : List Nat) (hs : Nat → Int32), f_X5_makePlan_28 m re pl x1 (nI c) (nI left) = some (x, y, (pl.1, pl.2.1, hs, pl.2.2.2.1, pl.2.2.2.2.1, pl.2.2.2.2.2.1, nI (len + L.length))) ∧ Pln g n L left (Ds c) ∧ L.length ≤ left ∧ (∀ j, j < len → hs j = pl.2.2.1 j) ∧ LA L len hs := by
  have hN6 := hT.1.choose_spec.1
  intro k
  induction k with
  | zero =>
    intro left c len m pl hk hm hc hd hf hU hl hll
    obtain rfl : left = 0 := by omega
    obtain ⟨m, rfl⟩ : ∃ m', m = m' + 1 := ⟨m - 1, by omega⟩
    rw [f_X5_makePlan_28, if_pos (show nI 0 ≤ 0 by decide)]
    exact ⟨_, _, [], pl.2.2.1, by rw [List.length_nil, Nat.add_zero, ← hl], rfl, Nat.le_refl _, fun _ _ => rfl, fun i hi => by rw [List.length_nil] at hi; omega⟩
  | succ k ih =>
    intro left c len m pl hk hm hc hd hf hU hl hll
    obtain ⟨m, rfl⟩ : ∃ m', m = m' + 1 := ⟨m - 1, by omega⟩
    by_cases h0 : left = 0
    · subst h0
      rw [f_X5_makePlan_28, if_pos (show nI 0 ≤ 0 by decide)]
      exact ⟨_, _, [], pl.2.2.1, by rw [List.length_nil, Nat.add_zero, ← hl], rfl, Nat.le_refl _, fun _ _ => rfl, fun i hi => by rw [List.length_nil] at hi; omega⟩
    · obtain ⟨v, hv⟩ := Option.isSome_iff_exists.mp hf
      obtain ⟨h, t, b, q1, q2, q3, q4, q5, q6⟩ := bestX hG hT hc (by omega) (by omega) hU hd hv
      obtain ⟨k1, k2, k3⟩ := stp_ok hG (Rch_ok hG (hT.1.choose_spec.2.1 c hc).1) q3
      obtain ⟨d, t', w, z1, z2, z3, z4⟩ := byS_some q5
      rw [q3] at z1
      injection z1 with e
      injection e with e1 e2
      subst e1 e2
      have hdb := hT.2.2.2.2.1.2.1 c b h t hc q2 q1 q3
      have hcl := cnt_le h
      rw [f_X5_makePlan_28, if_neg (nI_nle (by omega) (by omega)), hl, if_neg (show ¬ (60 : Int32) ≤ nI len from nI_ge (b := 60) (by omega) (by omega)), q4, Option.bind_some, wv_hand hcl q1 (by omega) (by omega), Option.bind_some, if_pos (inb_t (by omega) (by omega)), wv_goal hcl q1 (by omega) (by omega), Option.bind_some, wv_pass hcl q1 (by omega) (by omega), Option.bind_some, nI_clamp (by omega), nI_1, pk_sub z2]
      obtain ⟨x, y, L, hs, r1, r2, r3, r4, r5⟩ := ih (left - t) b (len + 1) m (pl.1, pl.2.1, upd pl.2.2.1 len (nI h), pl.2.2.2.1, pl.2.2.2.2.1, pl.2.2.2.2.2.1, nI (len + 1)) (by omega) (by omega) q2 (by omega) (by rw [z3]; rfl) (fun s' hs' => hU s' (by omega)) rfl (by omega)
      refine ⟨x, y, h :: L, hs, ?_, ⟨by omega, q1, q6, Ds b, t, q3, z2, r2⟩, by rw [List.length_cons]; omega, fun j hj => ?_, LA_cons ?_ q1 r5⟩
      · rw [r1, List.length_cons, show len + 1 + L.length = len + (L.length + 1) by omega]
      · rw [r4 j (by omega)]
        show upd pl.2.2.1 len (nI h) j = _
        rw [upd_n (by omega)]
      · rw [r4 len (by omega)]
        show upd pl.2.2.1 len (nI h) len = _
        rw [upd_s]
/-- the class makes a plan -/
theorem makeX {g : tG_} {n : Nat} (hG : GOK g n) {re : tRE} {N : Nat} {Ds : Nat → tC} {ds ws : Nat → Nat} (hT : XT g n re N Ds ds ws) {pl : tPL} (hP : PT g n pl N Ds ds) (h1 : pl.2.2.2.1 = 1) {s : Nat} (hs1 : 1 ≤ s) (hs : s ≤ 60) (hf : (fw g n s c00).isSome = true) : ∃ (pl' : tPL) (L : List Nat), f_X5_makePlan re pl (nI s) = some pl' ∧ PT g n pl' N Ds ds ∧ Pln g n L s c00 ∧ L.length ≤ 60 ∧ pl'.2.2.2.2.2.2 = nI L.length ∧ LA L 0 pl'.2.2.1 := by
  unfold f_X5_makePlan
  by_cases he : pl.2.2.2.2.2.1 = nI s
  · rw [if_pos he]
    rcases hP with h | h
    · rw [h.1] at h1; exact absurd h1 (by decide)
    · have hP' : PT g n pl N Ds ds := Or.inr h
      rcases h.2.2.2 with h4 | ⟨s', L, q1, q2, q3, q4, q5, q6, q7⟩
      · rw [h4] at he
        exact absurd ((nI_eq (a := 0) (by omega) (by omega)).mp he) (by omega)
      · rw [q3] at he
        have := (nI_eq (by omega) (by omega)).mp he
        subst this
        exact ⟨pl, L, rfl, hP', q4, q5, q6, q7⟩
  · rw [if_neg he]
    obtain ⟨g1, S, g2, g3, g4⟩ := hP.got h1
    obtain ⟨su, u1, u2⟩ := sumsX hG hT g1 hs g2 g3 g4
    rw [u1, Option.bind_some]
    obtain ⟨x, y, L, hss, r1, r2, r3, r4, r5⟩ := mp_loop hG hT (nI s) s s 0 0 100000 (pl.1, su, pl.2.2.1, pl.2.2.2.1, nI (max S (s + 1)), nI s, 0) (Nat.le_refl _) (by omega) (by have := hT.2.2.1.1; omega) (by rw [hT.2.2.2.2.1.1]; omega) (by rw [hT.2.2.1.2]; exact hf) (fun s' hs' => u2 s' (by omega)) rfl (by omega)
    have r1' : f_X5_makePlan_28 100000 re (pl.1, su, pl.2.2.1, pl.2.2.2.1, nI (max S (s + 1)), nI s, 0) (nI s) 0 (nI s) = _ := r1
    rw [hT.2.2.1.2] at r2
    refine ⟨_, L, by rw [r1', Option.bind_some], ?_, r2, by omega, by rw [Nat.zero_add], r5⟩
    exact Or.inr ⟨h1, g1, ⟨max S (s + 1), by omega, rfl, u2⟩, Or.inr ⟨s, L, hs1, hs, rfl, r2, by omega, by rw [Nat.zero_add], r5⟩⟩
theorem enc_inj {o p : Option Nat} (ho : ∀ v, o = some v → v < 2 ^ 31) (hp : ∀ v, p = some v → v < 2 ^ 31) (h : enc o = enc p) : o = p := by
  cases o with
  | none =>
    cases p with
    | none => rfl
    | some w =>
      exfalso
      have h1 : (-1 : Int32) = nI w := h
      rw [i_eq, tI_nI (hp w rfl)] at h1
      have : (-1 : Int32).toInt = -1 := rfl
      omega
  | some v =>
    cases p with
    | none =>
      exfalso
      have h1 : nI v = (-1 : Int32) := h
      rw [i_eq, tI_nI (ho v rfl)] at h1
      have : (-1 : Int32).toInt = -1 := rfl
      omega
    | some w => rw [(nI_eq (ho v rfl) (hp w rfl)).mp h]
theorem fp_first {g : tG_} {n : Nat} (hG : GOK g n) {mf : tMF} {N : Nat} {Cs : Nat → tC} (hM : MTs g n mf N Cs) (hN6 : N ≤ 600) {c s h0 : Nat} (hc : c < N) (hs : s ≤ 60) (hh0 : h0 < 256) (hF : Fb g n s (Cs c) h0) (x1 x2 : Int32) : ∀ (k h m : Nat), h + k = h0 → k < m → f_X9_findPlan_15 m mf x1 x2 (nI c) (nI s) (nI h) = some (nI h0) := by
  obtain ⟨m3, m4, -⟩ := hM.2 hN6
  have hb : ∀ h, h < 256 → f_X9_by mf (nI c) (nI h) (nI s) = some (enc (byS g n s (Cs c) h)) := fun h hh => byM hG (hM.1.2.2.2.2.1 c hc).1 hN6 hc hh hs (m3 c hc h hh) (fun s' hs' => m4 s' (by omega))
  intro k
  induction k with
  | zero =>
    intro h m hk hm
    obtain ⟨m, rfl⟩ : ∃ m', m = m' + 1 := ⟨m - 1, by omega⟩
    obtain rfl : h = h0 := by omega
    rw [f_X9_findPlan_15, hb h hh0, Option.bind_some, e600, nI_add, if_pos (inb_t (by omega) (by omega)), nI_clamp (by omega), ft0 hM hN6 hs hc, if_pos (by rw [hF.1])]
  | succ k ih =>
    intro h m hk hm
    obtain ⟨m, rfl⟩ : ∃ m', m = m' + 1 := ⟨m - 1, by omega⟩
    rw [f_X9_findPlan_15, hb h (by omega), Option.bind_some, e600, nI_add, if_pos (inb_t (by omega) (by omega)), nI_clamp (by omega), ft0 hM hN6 hs hc, if_neg (fun q => hF.2 h (by omega) (enc_inj (fun v hv => by have := byS_bd _ _ hv; omega) (fun v hv => by have := fw_le _ _ _ hv; omega) q)), nI_1]
    exact ih (h + 1) m (by omega) (by omega)
theorem Fb_ex {g : tG_} {n s : Nat} {c : tC} (hs : 1 ≤ s) (hf : (fw g n s c).isSome = true) : ∃ h d t, h < 256 ∧ Fb g n s c h ∧ stp g n c h = some (d, t) ∧ t ≤ s ∧ (fw g n (s - t) d).isSome = true := by
  obtain ⟨v, hv⟩ := Option.isSome_iff_exists.mp hf
  have hv' := hv
  rw [fw_s hs] at hv'
  obtain ⟨hx, x1, x2⟩ := minO_some hv'
  obtain ⟨h, h1, h2⟩ := pk_least (fun h => byS g n s c h = some v) ⟨hx, x2⟩
  have hlt : h ≤ hx := Nat.le_of_not_lt (fun q => h2 hx q x2)
  obtain ⟨d, t, w, z1, z2, z3, z4⟩ := byS_some h1
  exact ⟨h, d, t, by omega, ⟨by rw [h1, hv], fun h' hh' q => h2 h' hh' (by rw [q, hv])⟩, z1, z2, by rw [z3]; rfl⟩
theorem fp_loop {g : tG_} {n : Nat} (hG : GOK g n) {mf : tMF} {N : Nat} {Cs : Nat → tC} (hM : MTs g n mf N Cs) (hN6 : N ≤ 600) (x1 : Int32) : ∀ (k left c len m : Nat) (mp : tMP), left ≤ k → k < m → c < N → (fw g n left (Cs c)).isSome = true → len + left ≤ 60 → ∃ (x y : Int32) (L : List Nat) (mp' : tMP), f_X9_findPlan_7 m mf mp x1 (nI len) (nI c) (nI left) = some (nI (len + L.length), x, y, mp') ∧ Pln g n L left (Cs c) ∧ L.length ≤ left ∧ (∀ j, j < len → mp' j = mp j) ∧ LA L len mp' := by
  obtain ⟨m3, m4, -⟩ := hM.2 hN6
  intro k
  induction k with
  | zero =>
    intro left c len m mp hk hm hc hf hll
    obtain rfl : left = 0 := by omega
    obtain ⟨m, rfl⟩ : ∃ m', m = m' + 1 := ⟨m - 1, by omega⟩
    rw [f_X9_findPlan_7, if_pos (show nI 0 ≤ 0 by decide)]
    exact ⟨_, _, [], mp, by rw [List.length_nil, Nat.add_zero], rfl, Nat.le_refl _, fun _ _ => rfl, fun i hi => by rw [List.length_nil] at hi; omega⟩
  | succ k ih =>
    intro left c len m mp hk hm hc hf hll
    obtain ⟨m, rfl⟩ : ∃ m', m = m' + 1 := ⟨m - 1, by omega⟩
    by_cases h0 : left = 0
    · subst h0
      rw [f_X9_findPlan_7, if_pos (show nI 0 ≤ 0 by decide)]
      exact ⟨_, _, [], mp, by rw [List.length_nil, Nat.add_zero], rfl, Nat.le_refl _, fun _ _ => rfl, fun i hi => by rw [List.length_nil] at hi; omega⟩
    · obtain ⟨h, d, t, q1, q2, q3, q4, q5⟩ := Fb_ex (show 1 ≤ left by omega) hf
      have ht := stp_pos q3
      have f1 := fp_first hG hM hN6 hc (show left ≤ 60 by omega) q1 q2 x1 (nI len) h 0 100000 (by omega) (by omega)
      have f1' : f_X9_findPlan_15 100000 mf x1 (nI len) (nI c) (nI left) 0 = _ := f1
      rcases m3 c hc h q1 with ⟨e1, -⟩ | ⟨b, t', z1, z2, z3, z4⟩
      · rw [q3] at e1; cases e1
      · rw [q3] at z2
        injection z2 with e
        injection e with e1 e2
        subst e1 e2
        have ea : (256 : Int32) * nI c + nI h = nI (256 * c + h) := by rw [show (256 : Int32) = nI 256 from rfl, pk_mul, nI_add]
        rw [f_X9_findPlan_7, if_neg (nI_nle (by omega) (by omega)), f1', Option.bind_some, if_pos (inb_t (by omega) (by omega)), ea, if_pos (inb_t (by omega) (by omega)), if_pos (inb_t (by omega) (by omega)), nI_clamp (by omega), nI_clamp (by omega), z3, z4, nI_1, pk_sub q4]
        obtain ⟨x, y, L, mp', r1, r2, r3, r4, r5⟩ := ih (left - t) b (len + 1) m (upd mp len (nI h)) (by omega) (by omega) z1 q5 (by omega)
        refine ⟨x, y, h :: L, mp', ?_, ⟨by omega, q1, q2, Cs b, t, q3, q4, r2⟩, by rw [List.length_cons]; omega, fun j hj => ?_, LA_cons ?_ q1 r5⟩
        · rw [r1, List.length_cons, show len + 1 + L.length = len + (L.length + 1) by omega]
        · rw [r4 j (by omega), upd_n (by omega)]
        · rw [r4 len (by omega), upd_s]
theorem findPlanM {g : tG_} {n : Nat} (hG : GOK g n) {mf : tMF} {N : Nat} {Cs : Nat → tC} (hM : MTs g n mf N Cs) (hN6 : N ≤ 600) {s : Nat} (hs : s ≤ 60) (hf : (fw g n s c00).isSome = true) (mp : tMP) : ∃ (L : List Nat) (mp' : tMP), f_X9_findPlan mf mp (nI s) = some (nI L.length, mp') ∧ Pln g n L s c00 ∧ L.length ≤ 60 ∧ LA L 0 mp' := by
  obtain ⟨x, y, L, mp', r1, r2, r3, r4, r5⟩ := fp_loop hG hM hN6 (nI s) s s 0 0 100000 mp (Nat.le_refl _) (by omega) (by have := hM.1.1; omega) (by rw [hM.1.2.2.2.1]; exact hf) (by omega)
  have r1' : f_X9_findPlan_7 100000 mf mp (nI s) 0 0 (nI s) = _ := r1
  unfold f_X9_findPlan
  rw [hM.1.2.2.2.1] at r2
  rw [r1', Option.bind_some, Nat.zero_add]
  exact ⟨L, mp', rfl, r2, by omega, r5⟩
theorem n70 : ¬ (0 : Int32) ≤ -7 ∧ ¬ (0 : Int32) ≤ -1 ∧ ¬ (0 : Int32) ≤ -8 := by decide
theorem fewR {g : tG_} {mn : tC} {mf : tMF} {a r : Int32} {mn' : tC} {mf' : tMF} (h : f_X9_whyNot g mn mf a = some (r, mn', mf')) (hr : ¬ r = 0) : f_X9_fewest g mn mf a = some (r, mn', mf') := by
  unfold f_X9_fewest
  rw [h, Option.bind_some, if_neg hr]
theorem pp_plan {g : tG_} {n : Nat} (hG : GOK g n) {c mn : tC} (hz : Z4 c) (hz' : Z4 mn) {re : tRE} {pl : tPL} {mf : tMF} (hR : RelX g n re pl) (hF : RelM g n mf) (mp : tMP) (a a2 : Int32) : ∃ (x : Int32 × tC × tRE × tPL) (y : Int32 × tMN × tMF × tMP), f_X8_plan g c re pl a a2 = some x ∧ f_X9_plan g mn mf mp a a2 = some y ∧ x.1 = y.1 ∧ Z4 x.2.1 ∧ Z4 y.2.1 ∧ RelX g n x.2.2.1 x.2.2.2 ∧ RelM g n y.2.2.1 := by
  obtain ⟨c', re', mn', mf', b1, b2', b3, b4, b5⟩ := askS hG hz hz' hR hF a
  unfold f_X8_plan f_X9_plan
  rcases b5 with ⟨r, r1, r2, r3⟩ | ⟨r2, r3, s, N, Ds, ds, ws, Cs, s1, s2, s3, k1, k2, hT, hP, hM⟩
  · have hr0 : ¬ r = 0 := by rcases r1 with q | q <;> rw [q] <;> decide
    have hr1 : ¬ 0 ≤ r := by rcases r1 with q | q <;> rw [q] <;> decide
    rw [r2, fewR r3 hr0, Option.bind_some, Option.bind_some, if_neg hr0, if_neg hr1]
    exact ⟨_, _, rfl, rfl, rfl, b1, b2', b3, b4⟩
  · obtain ⟨-, hN6, -, -⟩ := link hT hM
    subst s3
    obtain ⟨pl', p1, p2, p3⟩ := isPureX hG hT hP s2
    rw [fewM r3 hM hN6 s2, r2, Option.bind_some, Option.bind_some, if_pos rfl, p1, Option.bind_some]
    cases hf : fw g n s c00 with
    | none =>
      rw [if_pos (show b2 (none : Option Nat).isSome = 0 by decide), if_neg (show ¬ 0 ≤ enc7 none by decide)]
      exact ⟨_, _, rfl, rfl, rfl, b1, b2', Or.inr (Or.inr ⟨k1, k2, N, Ds, ds, ws, hT, p2⟩), b4⟩
    | some v =>
      have hv := fw_le _ _ _ hf
      have hfs : (fw g n s c00).isSome = true := by rw [hf]; rfl
      rw [if_neg (show ¬ b2 (some v).isSome = 0 by rw [Option.isSome_some]; decide), if_pos (show 0 ≤ enc7 (some v) from nI_pos' (by omega))]
      obtain ⟨pl'', L, m1, m2, m3, m4, m5, m6⟩ := makeX hG hT p2 p3 s1 s2 hfs
      obtain ⟨L', mp', f1, f2, f3, f4⟩ := findPlanM hG hM hN6 s2 hfs mp
      have hLL := Pln_u L L' s c00 m3 f2
      subst hLL
      have hR' : RelX g n re' pl'' := Or.inr (Or.inr ⟨k1, k2, N, Ds, ds, ws, hT, m2⟩)
      rw [m1, Option.bind_some, f1, Option.bind_some]
      unfold f_X5_planLength
      rw [Option.bind_some, m5]
      have hL1 : 1 ≤ L.length := by
        cases L with
        | nil => have : s = 0 := m3; omega
        | cons x L => rw [List.length_cons]; omega
      have hsub : nI L.length - (1 : Int32) = nI (L.length - 1) := pk_sub (b := 1) hL1
      rw [hsub]
      rcases pk_ix a2 (show L.length < 2 ^ 31 by omega) with h1 | h1 | ⟨i, i1, i2⟩
      · rw [if_pos h1, in_f (Or.inl h1), Option.bind_some, if_pos rfl]
        exact ⟨_, _, rfl, rfl, rfl, b1, b2', hR', b4⟩
      · have hz2 : nI (L.length - 1) < a2 := by
          rw [i_le, tI_nI (by omega)] at h1; rw [i_lt, tI_nI (by omega)]; omega
        have hz0 : ¬ a2 < 0 := by
          rw [i_le, tI_nI (by omega)] at h1; rw [i_lt]
          have e0 : (0 : Int32).toInt = 0 := rfl
          omega
        rw [if_neg hz0, if_pos h1, in_f (Or.inr hz2), Option.bind_some, if_pos rfl]
        exact ⟨_, _, rfl, rfl, rfl, b1, b2', hR', b4⟩
      · subst i2
        have h6 := (m6 i i1).1
        have h4 := (f4 i i1).1
        rw [Nat.zero_add] at h6 h4
        rw [if_neg (nI_pos (by omega)), if_neg (nI_ge i1 (by omega)), in_t (nI_pos' (by omega)) (nI_le (by omega) (by omega)), Option.bind_some, if_neg (show ¬ (1 : Int32) = 0 by decide), if_pos (inb_t (by omega) (by omega)), nI_clamp (by omega)]
        unfold f_X5_handlingAt
        rw [if_pos (inb_t (by omega) (by omega)), nI_clamp (by omega), Option.bind_some, h6]
        exact ⟨_, _, rfl, rfl, h4.symm, b1, b2', hR', b4⟩
theorem cx_loop {pl : tPL} {len : Nat} (hl : len ≤ 60) (hp : pl.2.2.2.2.2.2 = nI len) (x1 x2 : Int32) : ∀ (m i : Nat) (cl : tCL), i ≤ len → len - i < m → cl.2 = nI i → (∀ k, k < i → cl.1 k = pl.2.2.1 k) → ∃ cl', f_X8_copy_43 m pl cl x1 x2 (nI i) = some (nI len, cl') ∧ cl'.2 = nI len ∧ ∀ k, k < len → cl'.1 k = pl.2.2.1 k := by
  intro m
  induction m with
  | zero => intro i cl _ h; omega
  | succ m ih =>
    intro i cl hi hm hc hk
    rw [f_X8_copy_43]
    unfold f_X5_planLength
    rw [Option.bind_some, hp]
    by_cases he : i = len
    · subst he
      rw [if_pos (nI_le (Nat.le_refl _) (by omega))]
      exact ⟨cl, rfl, hc, hk⟩
    · rw [if_neg (nI_ge (by omega) (by omega))]
      unfold f_X5_handlingAt f_X1_add
      rw [if_pos (inb_t (by omega) (by omega)), Option.bind_some, nI_clamp (by omega), hc, if_neg (show ¬ (60 : Int32) ≤ nI i from nI_ge (b := 60) (by omega) (by omega)), if_pos (inb_t (by omega) (by omega)), Option.bind_some, nI_clamp (by omega), nI_1]
      refine ih (i + 1) (upd cl.1 i (pl.2.2.1 i), nI (i + 1)) (by omega) (by omega) rfl (fun k hk' => ?_)
      show upd cl.1 i (pl.2.2.1 i) k = _
      by_cases hki : k = i
      · subst hki; rw [upd_s]
      · rw [upd_n hki]; exact hk k (by omega)
theorem cm_loop {mp : tMP} {len : Nat} (hl : len ≤ 60) (x1 x2 : Int32) : ∀ (m i : Nat) (mc : tMC), i ≤ len → len - i < m → mc.2 = nI len → (∀ k, k < i → mc.1 k = mp k) → ∃ mc', f_X9_copy_23 m mc mp x1 x2 (nI i) = some (nI len, mc') ∧ mc'.2 = nI len ∧ ∀ k, k < len → mc'.1 k = mp k := by
  intro m
  induction m with
  | zero => intro i mc _ h; omega
  | succ m ih =>
    intro i mc hi hm hc hk
    rw [f_X9_copy_23, hc]
    by_cases he : i = len
    · subst he
      rw [if_pos (nI_le (Nat.le_refl _) (by omega))]
      exact ⟨mc, rfl, hc, hk⟩
    · rw [if_neg (nI_ge (by omega) (by omega)), if_pos (inb_t (by omega) (by omega)), if_pos (inb_t (by omega) (by omega)), nI_clamp (by omega), nI_1]
      refine ih (i + 1) (upd mc.1 i (mp i), nI len) (by omega) (by omega) rfl (fun k hk' => ?_)
      show upd mc.1 i (mp i) k = _
      by_cases hki : k = i
      · subst hki; rw [upd_s]
      · rw [upd_n hki]; exact hk k (by omega)
theorem pp_copy {g : tG_} {n : Nat} (hG : GOK g n) {c mn : tC} (hz : Z4 c) (hz' : Z4 mn) {re : tRE} {pl : tPL} {mf : tMF} (hR : RelX g n re pl) (hF : RelM g n mf) {cl : tCL} {mc : tMC} (hC : RelC cl mc) (mp : tMP) (a : Int32) : ∃ (x : Int32 × tC × tRE × tPL × tCL) (y : Int32 × tMC × tMN × tMF × tMP), f_X8_copy g c re pl cl a = some x ∧ f_X9_copy g mc mn mf mp a = some y ∧ x.1 = y.1 ∧ Z4 x.2.1 ∧ Z4 y.2.2.1 ∧ RelX g n x.2.2.1 x.2.2.2.1 ∧ RelM g n y.2.2.2.1 ∧ RelC x.2.2.2.2 y.2.1 := by
  obtain ⟨c', re', mn', mf', b1, b2', b3, b4, b5⟩ := askS hG hz hz' hR hF a
  unfold f_X8_copy f_X9_copy
  rcases b5 with ⟨r, r1, r2, r3⟩ | ⟨r2, r3, s, N, Ds, ds, ws, Cs, s1, s2, s3, k1, k2, hT, hP, hM⟩
  · have hr0 : ¬ r = 0 := by rcases r1 with q | q <;> rw [q] <;> decide
    have hr1 : ¬ 0 ≤ r := by rcases r1 with q | q <;> rw [q] <;> decide
    rw [r2, fewR r3 hr0, Option.bind_some, Option.bind_some, if_neg hr0, if_neg hr1]
    exact ⟨_, _, rfl, rfl, rfl, b1, b2', b3, b4, hC⟩
  · obtain ⟨-, hN6, -, -⟩ := link hT hM
    subst s3
    obtain ⟨pl', p1, p2, p3⟩ := isPureX hG hT hP s2
    rw [fewM r3 hM hN6 s2, r2, Option.bind_some, Option.bind_some, if_pos rfl, p1, Option.bind_some]
    cases hf : fw g n s c00 with
    | none =>
      rw [if_pos (show b2 (none : Option Nat).isSome = 0 by decide), if_neg (show ¬ 0 ≤ enc7 none by decide)]
      exact ⟨_, _, rfl, rfl, rfl, b1, b2', Or.inr (Or.inr ⟨k1, k2, N, Ds, ds, ws, hT, p2⟩), b4, hC⟩
    | some v =>
      have hv := fw_le _ _ _ hf
      have hfs : (fw g n s c00).isSome = true := by rw [hf]; rfl
      rw [if_neg (show ¬ b2 (some v).isSome = 0 by rw [Option.isSome_some]; decide), if_pos (show 0 ≤ enc7 (some v) from nI_pos' (by omega))]
      obtain ⟨pl'', L, m1, m2, m3, m4, m5, m6⟩ := makeX hG hT p2 p3 s1 s2 hfs
      obtain ⟨L', mp', f1, f2, f3, f4⟩ := findPlanM hG hM hN6 s2 hfs mp
      have hLL := Pln_u L L' s c00 m3 f2
      subst hLL
      have hR' : RelX g n re' pl'' := Or.inr (Or.inr ⟨k1, k2, N, Ds, ds, ws, hT, m2⟩)
      obtain ⟨cl', x1, x2, x3⟩ := cx_loop m4 m5 (nI s) 0 100000 0 (cl.1, 0) (by omega) (by omega) rfl (fun k q => by omega)
      obtain ⟨mc', y1, y2, y3⟩ := cm_loop (mp := mp') m4 (nI s) (enc7 (some v)) 100000 0 (mc.1, nI L.length) (by omega) (by omega) rfl (fun k q => by omega)
      have x1' : f_X8_copy_43 100000 pl'' (cl.1, 0) (nI s) 0 0 = _ := x1
      have y1' : f_X9_copy_23 100000 (mc.1, nI L.length) mp' (nI s) (enc7 (some v)) 0 = _ := y1
      unfold f_X1_removeAll f_X1_count
      rw [m1, Option.bind_some, Option.bind_some, x1', Option.bind_some, Option.bind_some, f1, Option.bind_some, y1', Option.bind_some]
      refine ⟨_, _, rfl, rfl, ?_, b1, b2', hR', b4, ⟨L.length, m4, x2, y2, fun k hk => ?_⟩⟩
      · show cl'.2 = mc'.2
        rw [x2, y2]
      · have h6 := m6 k hk
        have h4 := (f4 k hk).1
        rw [Nat.zero_add] at h6 h4
        show cl'.1 k = mc'.1 k ∧ ∃ h, h < 256 ∧ cl'.1 k = nI h
        rw [x3 k hk, y3 k hk, h6.1, h4]
        exact ⟨rfl, _, h6.2, rfl⟩
