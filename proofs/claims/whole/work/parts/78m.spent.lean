/-! pure: the class's tables, whole -/
theorem left_loop {re : tRE} {N : Nat} (hN : N ≤ 600) (hc : re.2.2.2.2.2.2.2.1 = nI N) : ∀ (m i : Nat) (b : Option Nat), i ≤ N → N - i < m → (∀ v, b = some v → v < N ∧ re.2.2.2.1 v = 0 ∧ ∀ c, c < i → re.2.2.2.1 c = 0 → re.2.2.1 v ≤ re.2.2.1 c) → (b = none → ∀ c, c < i → re.2.2.2.1 c ≠ 0) → ∃ b', f_X6_soonestLeft_4 m re (enc b) (nI i) = some (enc b', nI N) ∧ (∀ v, b' = some v → v < N ∧ re.2.2.2.1 v = 0 ∧ ∀ c, c < N → re.2.2.2.1 c = 0 → re.2.2.1 v ≤ re.2.2.1 c) ∧ (b' = none → ∀ c, c < N → re.2.2.2.1 c ≠ 0) := by
  intro m
  induction m with
  | zero => intro i b _ h; omega
  | succ m ih =>
    intro i b hi hm hs hn
    rw [f_X6_soonestLeft_4, hc]
    by_cases he : i = N
    · subst he
      rw [if_pos (nI_le (Nat.le_refl _) (by omega))]
      exact ⟨b, rfl, hs, hn⟩
    · rw [if_neg (nI_ge (by omega) (by omega)), if_pos (inb_t (by omega) (by omega)), nI_clamp (by omega), nI_1]
      have ext : ∀ (P : Nat → Prop), (∀ c, c < i → P c) → P i → ∀ c, c < i + 1 → P c := fun P h1 h2 c hc => by
        by_cases hci : c = i
        · subst hci; exact h2
        · exact h1 c (by omega)
      by_cases hd : re.2.2.2.1 i = 0
      · rw [if_pos hd]
        cases b with
        | none =>
          rw [if_pos (show enc none < 0 by decide)]
          exact ih (i + 1) (some i) (by omega) (by omega) (fun v hv => by
            cases hv
            exact ⟨by omega, hd, ext _ (fun c hc q => absurd q (hn rfl c hc)) (fun _ => Int32.le_refl _)⟩) (fun q => by cases q)
        | some v =>
          obtain ⟨v1, v2, v3⟩ := hs v rfl
          rw [if_neg (show ¬ enc (some v) < 0 from nI_pos (by omega)), if_pos (inb_t (by omega) (by omega)), if_pos (show inb (enc (some v)) 600 = true from inb_t (by omega) (by omega)), show (enc (some v)).toNatClampNeg = v from nI_clamp (by omega)]
          by_cases hle : re.2.2.1 v ≤ re.2.2.1 i
          · rw [if_pos hle]
            exact ih (i + 1) (some v) (by omega) (by omega) (fun w hw => by
              cases hw
              exact ⟨v1, v2, ext _ v3 (fun _ => hle)⟩) (fun q => by cases q)
          · rw [if_neg hle]
            have hlt : re.2.2.1 i ≤ re.2.2.1 v := by
              rw [i_le] at hle ⊢; omega
            exact ih (i + 1) (some i) (by omega) (by omega) (fun w hw => by
              cases hw
              exact ⟨by omega, hd, ext _ (fun c hc q => Int32.le_trans hlt (v3 c hc q)) (fun _ => Int32.le_refl _)⟩) (fun q => by cases q)
      · rw [if_neg hd]
        exact ih (i + 1) b (by omega) (by omega) (fun v hv => by
          obtain ⟨v1, v2, v3⟩ := hs v hv
          exact ⟨v1, v2, ext _ v3 (fun q => absurd q hd)⟩) (fun q => ext _ (hn q) hd)
theorem leftX {re : tRE} {N : Nat} (hN : N ≤ 600) (hc : re.2.2.2.2.2.2.2.1 = nI N) : ∃ b, f_X6_soonestLeft re = some (enc b) ∧ (∀ v, b = some v → v < N ∧ re.2.2.2.1 v = 0 ∧ ∀ c, c < N → re.2.2.2.1 c = 0 → re.2.2.1 v ≤ re.2.2.1 c) ∧ (b = none → ∀ c, c < N → re.2.2.2.1 c ≠ 0) := by
  unfold f_X6_soonestLeft
  obtain ⟨b, h1, h2, h3⟩ := left_loop hN hc 100000 0 none (by omega) (by omega) (fun v hv => by cases hv) (fun _ c hc => by omega)
  have h1' : f_X6_soonestLeft_4 100000 re (-1) 0 = _ := h1
  rw [h1']
  exact ⟨b, rfl, h2, h3⟩
theorem spent_loop {g : tG_} {n : Nat} (hG : GOK g n) : ∀ (m : Nat) (re : tRE) (N : Nat) (Ds : Nat → tC) (sN : Nat → Nat) (L : List Nat) (ws : Nat → Nat) (W u : Nat) (c : tC), XI g n re N Ds sN L ws W → u < N → u ∉ L → (∀ c, c < N → c ∉ L → sN u ≤ sN c) → Z4 c → 600 - L.length < m → ∃ (y1 y2 : Int32) (c' : tC) (re' : tRE), f_X6_isSpent_38 m g c re (nI u) (nI L.length) = some (y1, y2, c', re') ∧ Z4 c' ∧ (Sp g n re' ∨ ∃ N' Ds' sN' L' ws' W', XI g n re' N' Ds' sN' L' ws' W' ∧ ∀ c, c < N' → c ∈ L') := by
  intro m
  induction m with
  | zero => intro re N Ds sN L ws W u c _ _ _ _ _ h; omega
  | succ m ih =>
    intro re N Ds sN L ws W u c hI hu huL hmin hz hm
    obtain ⟨c', re', r1, r2, r3⟩ := goFromX hG hI hu huL hmin hz
    obtain ⟨⟨o, i1⟩, i2, ⟨i3, i3'⟩, i4, i5, ⟨i6, i6'⟩, ⟨i7, i7'⟩, i8, i9, i10, i11, i12, i13, i14⟩ := hI
    have hN6 := i1.1
    have hlen : L.length + 1 ≤ N := by
      have := nd_len (u :: L) (List.range N) (List.nodup_cons.mpr ⟨huL, i8⟩) (fun x hx => by
        rcases List.mem_cons.mp hx with rfl | h
        · exact List.mem_range.mpr hu
        · exact List.mem_range.mpr (i9 x h))
      rwa [List.length_range, List.length_cons] at this
    rw [f_X6_isSpent_38, if_neg (show ¬ (600 : Int32) ≤ nI L.length from nI_ge (b := 600) (by omega) (by omega)), if_neg (nI_pos (by omega)), if_pos i7', r1, Option.bind_some]
    obtain ⟨m, rfl⟩ : ∃ m', m = m' + 1 := ⟨m - 1, by omega⟩
    rcases r3 with r3 | ⟨N', Ds', sN', ws', W', r3⟩
    · obtain ⟨b, b1, -, -⟩ := leftX (Nat.le_refl 600) r3.2.2.1
      rw [b1, Option.bind_some, nI_1]
      refine ⟨enc b, nI (L.length + 1), c', re', ?_, r2, Or.inl r3⟩
      rw [f_X6_isSpent_38]
      by_cases q1 : (600 : Int32) ≤ nI (L.length + 1)
      · rw [if_pos q1]
      · rw [if_neg q1]
        by_cases q2 : enc b < 0
        · rw [if_pos q2]
        · rw [if_neg q2, if_neg (by rw [r3.2.1]; decide)]
    · have r3' := r3
      obtain ⟨⟨o', j1⟩, j2, j3, j4, j5, j6, j7, j8, j9, j10, j11, j12, j13, j14⟩ := r3
      have hN6' := j1.1
      obtain ⟨b, b1, b2', b3⟩ := leftX j1.1 j2
      rw [b1, Option.bind_some, nI_1]
      have isd : ∀ c, c < N' → (re'.2.2.2.1 c = 0 ↔ c ∉ u :: L) := fun c hc => by
        rw [j5 c hc]
        by_cases hcL : c ∈ u :: L
        · rw [decide_eq_true hcL]; exact ⟨fun q => absurd q (by decide), fun q => absurd hcL q⟩
        · rw [decide_eq_false hcL]; exact ⟨fun _ => hcL, fun _ => rfl⟩
      cases b with
      | none =>
        refine ⟨enc none, nI (L.length + 1), c', re', ?_, r2, Or.inr ⟨N', Ds', sN', _, ws', W', r3', fun c hc => Classical.byContradiction fun q => b3 rfl c hc ((isd c hc).mpr q)⟩⟩
        rw [f_X6_isSpent_38]
        by_cases q1 : (600 : Int32) ≤ nI (L.length + 1)
        · rw [if_pos q1]
        · rw [if_neg q1, if_pos (show enc none < 0 by decide)]
      | some v =>
        obtain ⟨v1, v2, v3⟩ := b2' v rfl
        have hlen2 : (u :: L).length + 1 ≤ N' := by
          have := nd_len (v :: u :: L) (List.range N') (List.nodup_cons.mpr ⟨(isd v v1).mp v2, j8⟩) (fun x hx => by
            rcases List.mem_cons.mp hx with rfl | h
            · exact List.mem_range.mpr v1
            · exact List.mem_range.mpr (j9 x h))
          rwa [List.length_range, List.length_cons] at this
        have := ih re' N' Ds' sN' (u :: L) ws' W' v c' r3' v1 ((isd v v1).mp v2) (fun c hc hcL => by
          have h := v3 c hc ((isd c hc).mpr hcL)
          have k1 := j11 v v1
          have k2 := j11 c hc
          rw [j4 v v1, j4 c hc] at h
          exact Nat.le_of_not_lt (fun q => nI_ge q (by omega) h)) r2 (by rw [List.length_cons]; omega)
        rwa [List.length_cons] at this
/-- the class's tables: configs Ds, moments ds, where ways begin ws -/
def XT (g : tG_) (n : Nat) (re : tRE) (N : Nat) (Ds : Nat → tC) (ds ws : Nat → Nat) : Prop :=
  (∃ o, XO g n re.1 re.2.1 N Ds o) ∧ re.2.2.2.2.2.2.2.1 = nI N ∧ (1 ≤ N ∧ Ds 0 = c00) ∧ (∀ c, c < N → re.2.2.1 c = nI (ds c)) ∧ Dist g n N Ds ds ∧ ∀ a, a < N → re.2.2.2.2.1 a = nI (ws a) ∧ re.2.2.2.2.2.1 a = nI (ws a + rkW g n (Ds a) 256) ∧ ws a + rkW g n (Ds a) 256 ≤ 48600 ∧ ∀ h, h < 256 → ∀ d t, stp g n (Ds a) h = some (d, t) → ∃ b, b < N ∧ Ds b = d ∧ re.2.2.2.2.2.2.1 (ws a + rkW g n (Ds a) h) = nI (wv (cnt h) h t b)
theorem XI_XT {g : tG_} {n : Nat} {re : tRE} {N : Nat} {Ds : Nat → tC} {sN : Nat → Nat} {L : List Nat} {ws : Nat → Nat} {W : Nat} (hI : XI g n re N Ds sN L ws W) (hall : ∀ c, c < N → c ∈ L) : XT g n re N Ds sN ws := by
  obtain ⟨⟨o, i1⟩, i2, i3, i4, i5, ⟨i6, i6'⟩, ⟨i7, i7'⟩, i8, i9, i10, i11, i12, i13, i14⟩ := hI
  have hN6 := i1.1
  have hlen : L.length ≤ N := by
    have := nd_len L (List.range N) i8 (fun x hx => List.mem_range.mpr (i9 x hx))
    rwa [List.length_range] at this
  refine ⟨⟨o, i1⟩, i2, i3, i4, ⟨i10, fun a b h t ha hb hh hst => ?_, fun b hb hb0 => ?_, fun c hc => ?_⟩, fun a ha => ?_⟩
  · obtain ⟨b', q1, q2, q3, -⟩ := (i13 a (hall a ha)).2.2.2 h hh _ _ hst
    rw [← i1.2.2.1 b' b q1 hb q2]; exact q3
  · obtain ⟨a, h, t, q1, q2, q3, q4⟩ := i14 b hb hb0
    exact ⟨a, h, t, i9 a q1, q2, q3, q4⟩
  · have := i11 c hc
    omega
  · obtain ⟨w1, w2, w3, w4⟩ := i13 a (hall a ha)
    exact ⟨w1, w2, by omega, fun h hh d t hst => by
      obtain ⟨b, q1, q2, -, q4⟩ := w4 h hh d t hst
      exact ⟨b, q1, q2, q4⟩⟩
/-- what the class knows of all plans' configs -/
def KnX (g : tG_) (n : Nat) (re : tRE) : Prop := Sp g n re ∨ (re.2.2.2.2.2.2.2.2.2.1 = 1 ∧ re.2.2.2.2.2.2.2.2.2.2 = 0 ∧ ∃ N Ds ds ws, XT g n re N Ds ds ws)
theorem spentX {g : tG_} {n : Nat} (hG : GOK g n) {c : tC} (hz : Z4 c) (re : tRE) (hR : re.2.2.2.2.2.2.2.2.2.1 = 0 ∨ KnX g n re) : ∃ (c' : tC) (re' : tRE), f_X6_isSpent g c re = some (re'.2.2.2.2.2.2.2.2.2.2, c', re') ∧ Z4 c' ∧ KnX g n re' ∧ (KnX g n re → re' = re) := by
  unfold f_X6_isSpent
  have known : KnX g n re → ∃ (c' : tC) (re' : tRE), (if re.2.2.2.2.2.2.2.2.2.1 = 0 then ((f_X6_numberOf (re.1, re.2.1, re.2.2.1, re.2.2.2.1, re.2.2.2.2.1, re.2.2.2.2.2.1, re.2.2.2.2.2.2.1, (0 : Int32), (0 : Int32), (1 : Int32), (0 : Int32)) (0 : Int64) (0 : Int32)).bind fun v3 => ((f_X6_isSpent_38 100000 g c v3.2 (0 : Int32) (0 : Int32)).bind fun y10 => (if isb y10.2.2.2.2.2.2.2.2.2.2.2.2.2 = true then some (y10.2.2.2.2.2.2.2.2.2.2.2.2.2, y10.2.2.1, y10.2.2.2) else none))) else (if isb re.2.2.2.2.2.2.2.2.2.2 = true then some (re.2.2.2.2.2.2.2.2.2.2, c, re) else none)) = some (re'.2.2.2.2.2.2.2.2.2.2, c', re') ∧ Z4 c' ∧ KnX g n re' ∧ (KnX g n re → re' = re) := fun hk => by
    have h1 : ¬ re.2.2.2.2.2.2.2.2.2.1 = 0 := by
      rcases hk with h | h
      · rw [h.1]; decide
      · rw [h.1]; decide
    have h2 : isb re.2.2.2.2.2.2.2.2.2.2 = true := by
      rcases hk with h | h
      · rw [h.2.1]; decide
      · rw [h.2.1]; decide
    rw [if_neg h1, if_pos h2]
    exact ⟨c, re, rfl, hz, hk, fun _ => rfl⟩
  rcases hR with h0 | hk
  · rw [if_pos h0]
    have hO : XO g n re.1 re.2.1 0 (fun _ => c00) (fun i => i) := ⟨by omega, fun a ha => by omega, fun a b ha => by omega, fun i hi => by omega, fun i j _ hj => by omega, fun a ha => by omega⟩
    rcases numX hG (re := (re.1, re.2.1, re.2.2.1, re.2.2.2.1, re.2.2.2.2.1, re.2.2.2.2.2.1, re.2.2.2.2.2.2.1, (0 : Int32), (0 : Int32), (1 : Int32), (0 : Int32))) hO rfl (Rch0 (g := g) (n := n)) 0 with ⟨b, b1, -⟩ | ⟨-, ⟨h6, -⟩ | ⟨-, P, o', hx, hO'⟩⟩
    · omega
    · omega
    · have hx' : f_X6_numberOf (re.1, re.2.1, re.2.2.1, re.2.2.2.1, re.2.2.2.2.1, re.2.2.2.2.2.1, re.2.2.2.2.2.2.1, (0 : Int32), (0 : Int32), (1 : Int32), (0 : Int32)) (0 : Int64) (0 : Int32) = _ := hx
      rw [hx', Option.bind_some]
      have hI0 : XI g n (addX (re.1, re.2.1, re.2.2.1, re.2.2.2.1, re.2.2.2.2.1, re.2.2.2.2.2.1, re.2.2.2.2.2.2.1, (0 : Int32), (0 : Int32), (1 : Int32), (0 : Int32)) 0 P (lN (keyN c00)) 0) 1 (va_up (fun _ => c00) 0 c00) (fun _ => 0) [] (fun _ => 0) 0 := by
        refine ⟨⟨o', hO'⟩, rfl, ⟨Nat.le_refl _, vup_s⟩, fun c hc => ?_, fun c hc => ?_, ⟨rfl, Nat.zero_le _⟩, ⟨rfl, rfl⟩, List.nodup_nil, fun c hc => absurd hc List.not_mem_nil, rfl, fun c _ => Nat.zero_le _, fun a b ha => absurd ha List.not_mem_nil, fun a ha => absurd ha List.not_mem_nil, fun b hb hb0 => by omega⟩
        · show upd re.2.2.1 0 0 c = _
          rw [show c = 0 by omega, upd_s]; rfl
        · show upd re.2.2.2.1 0 0 c = _
          rw [show c = 0 by omega, upd_s, decide_eq_false List.not_mem_nil]; rfl
      obtain ⟨y1, y2, c', re', r1, r2, r3⟩ := spent_loop hG 100000 _ 1 _ _ [] _ 0 0 c hI0 (by omega) List.not_mem_nil (fun _ _ _ => Nat.le_refl _) hz (by rw [List.length_nil]; omega)
      have r1' : f_X6_isSpent_38 100000 g c (addX (re.1, re.2.1, re.2.2.1, re.2.2.2.1, re.2.2.2.2.1, re.2.2.2.2.2.1, re.2.2.2.2.2.2.1, (0 : Int32), (0 : Int32), (1 : Int32), (0 : Int32)) 0 P (lN (keyN c00)) 0) 0 0 = _ := r1
      rw [r1', Option.bind_some]
      have hk : KnX g n re' := by
        rcases r3 with r3 | ⟨N', Ds', sN', L', ws', W', r3, r4⟩
        · exact Or.inl r3
        · exact Or.inr ⟨r3.2.2.2.2.2.2.1.1, r3.2.2.2.2.2.2.1.2, N', Ds', sN', ws', XI_XT r3 r4⟩
      have h2 : isb re'.2.2.2.2.2.2.2.2.2.2 = true := by
        rcases hk with h | h
        · rw [h.2.1]; decide
        · rw [h.2.1]; decide
      rw [if_pos h2]
      refine ⟨c', re', rfl, r2, hk, fun hq => ?_⟩
      rcases hq with h | h
      · rw [h.1] at h0; exact absurd h0 (by decide)
      · rw [h.1] at h0; exact absurd h0 (by decide)
  · exact known hk
