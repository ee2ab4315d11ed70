/-! pure: both have the same configs and moments -/
theorem all_in {g : tG_} {n N : Nat} {Ds : Nat → tC} (h0 : ∃ a, a < N ∧ Ds a = c00) (hs : ∀ a, a < N → ∀ h, h < 256 → ∀ d t, stp g n (Ds a) h = some (d, t) → ∃ b, b < N ∧ Ds b = d) : ∀ c, Rch g n c → ∃ a, a < N ∧ Ds a = c := by
  rintro c ⟨k, hk⟩
  induction k generalizing c with
  | zero =>
    obtain ⟨a, a1, a2⟩ := h0
    exact ⟨a, a1, by rw [a2]; exact (show c = c00 from hk).symm⟩
  | succ k ih =>
    obtain ⟨c', h, t, h1, h2, h3⟩ := hk
    obtain ⟨a, a1, a2⟩ := ih c' h1
    exact hs a a1 h h2 c t (by rw [a2]; exact h3)
theorem XT_all {g : tG_} {n : Nat} {re : tRE} {N : Nat} {Ds : Nat → tC} {ds ws : Nat → Nat} (hT : XT g n re N Ds ds ws) : ∀ c, Rch g n c → ∃ a, a < N ∧ Ds a = c := by
  obtain ⟨t1, t2, t3, t4, t5, t6⟩ := hT
  refine all_in ⟨0, by omega, t3.2⟩ (fun a ha h hh d t hst => ?_)
  obtain ⟨b, b1, b2', -⟩ := (t6 a ha).2.2.2 h hh d t hst
  exact ⟨b, b1, b2'⟩
theorem MT_all {g : tG_} {n : Nat} {mf : tMF} {N : Nat} {Cs : Nat → tC} (hM : ME g n mf N Cs) (hE : MEall g n mf N Cs N) : ∀ c, Rch g n c → ∃ a, a < N ∧ Cs a = c := by
  refine all_in ⟨0, hM.1, hM.2.2.2.1⟩ (fun a ha h hh d t hst => ?_)
  rcases hE a ha h hh with ⟨e1, -⟩ | ⟨b, t', b1, b2', -, -⟩
  · rw [hst] at e1; cases e1
  · rw [hst] at b2'
    exact ⟨b, b1, (congrArg Prod.fst (Option.some.inj b2')).symm⟩
theorem inj_le {N M : Nat} {Cs Ds : Nat → tC} (hi : ∀ a b, a < N → b < N → Cs a = Cs b → a = b) (hs : ∀ a, a < N → ∃ b, b < M ∧ Ds b = Cs a) : N ≤ M := by
  have hf : ∃ f : Nat → Nat, ∀ a, a < N → f a < M ∧ Ds (f a) = Cs a := by
    refine ⟨fun a => if h : a < N then Classical.choose (hs a h) else 0, fun a ha => ?_⟩
    dsimp only
    rw [dif_pos ha]
    exact Classical.choose_spec (hs a ha)
  obtain ⟨f, hf⟩ := hf
  have := nd_len ((List.range N).map f) (List.range M) (by
    refine List.pairwise_map.mpr (List.Pairwise.imp_of_mem ?_ List.nodup_range)
    intro a b ha hb hne q
    have ha' := List.mem_range.mp ha
    have hb' := List.mem_range.mp hb
    exact hne (hi a b ha' hb' (by rw [← (hf a ha').2, ← (hf b hb').2, q]))) (fun x hx => by
    obtain ⟨a, a1, a2⟩ := List.mem_map.mp hx
    subst a2
    exact List.mem_range.mpr (hf a (List.mem_range.mp a1)).1)
  rwa [List.length_map, List.length_range, List.length_range] at this
theorem dist_le {g : tG_} {n N M : Nat} {Cs Ds : Nat → tC} {ds es : Nat → Nat} (hD : Dist g n N Ds ds) (hE : Dist g n M Cs es) (h0 : Cs 0 = c00) (h0' : Ds 0 = c00) (hM : 0 < M) (hi : ∀ a b, a < M → b < M → Cs a = Cs b → a = b) (hs : ∀ a, a < N → ∃ b, b < M ∧ Cs b = Ds a) : ∀ k a b, ds a ≤ k → a < N → b < M → Cs b = Ds a → es b ≤ ds a := by
  intro k
  induction k with
  | zero =>
    intro a b hk ha hb hab
    by_cases ha0 : a = 0
    · subst ha0
      have : b = 0 := hi b 0 hb hM (by rw [hab, h0, h0'])
      subst this
      rw [hE.1]; exact Nat.zero_le _
    · obtain ⟨a', h, t, q1, q2, q3, q4⟩ := hD.2.2.1 a ha ha0
      have := stp_pos q3
      omega
  | succ k ih =>
    intro a b hk ha hb hab
    by_cases ha0 : a = 0
    · subst ha0
      have : b = 0 := hi b 0 hb hM (by rw [hab, h0, h0'])
      subst this
      rw [hE.1]; exact Nat.zero_le _
    · obtain ⟨a', h, t, q1, q2, q3, q4⟩ := hD.2.2.1 a ha ha0
      have := stp_pos q3
      obtain ⟨b', r1, r2⟩ := hs a' q1
      have e1 := ih a' b' (by omega) q1 r1 r2
      have e2 := hE.2.1 b' b h t r1 hb q2 (by rw [r2, hab]; exact q3)
      omega
/-- the class's tables and the reference's tell the same -/
theorem link {g : tG_} {n : Nat} {re : tRE} {N : Nat} {Ds : Nat → tC} {ds ws : Nat → Nat} {mf : tMF} {M : Nat} {Cs : Nat → tC} (hT : XT g n re N Ds ds ws) (hM : MTs g n mf M Cs) : M = N ∧ N ≤ 600 ∧ (∀ a, a < N → ∃ b, b < N ∧ Cs b = Ds a ∧ mf.2.2.2.2.2.2.1 b = nI (ds a)) ∧ ∀ b, b < N → ∃ a, a < N ∧ Ds a = Cs b ∧ mf.2.2.2.2.2.2.1 b = nI (ds a) := by
  have hall := XT_all hT
  obtain ⟨⟨o, t1⟩, t2, t3, t4, t5, t6⟩ := hT
  obtain ⟨m1, m2⟩ := hM
  have hN6 := t1.1
  have hMN : M ≤ N := inj_le (Ds := Ds) m1.2.2.2.2.2 (fun a ha => hall (Cs a) (m1.2.2.2.2.1 a ha).1)
  obtain ⟨m3, m4, es, m5, m6⟩ := m2 (by omega)
  have hall' := MT_all m1 m3
  have hNM : N ≤ M := inj_le (Ds := Cs) t1.2.2.1 (fun a ha => hall' (Ds a) (t1.2.1 a ha).1)
  have hEq : M = N := by omega
  subst hEq
  have eqv : ∀ a b, a < M → b < M → Cs b = Ds a → es b = ds a := fun a b ha hb hab =>
    Nat.le_antisymm (dist_le t5 m5 m1.2.2.2.1 t3.2 m1.1 m1.2.2.2.2.2 (fun a ha => hall' (Ds a) (t1.2.1 a ha).1) _ a b (Nat.le_refl _) ha hb hab) (dist_le m5 t5 t3.2 m1.2.2.2.1 t3.1 t1.2.2.1 (fun a ha => hall (Cs a) (m1.2.2.2.2.1 a ha).1) _ b a (Nat.le_refl _) hb ha hab.symm)
  refine ⟨rfl, hN6, fun a ha => ?_, fun b hb => ?_⟩
  · obtain ⟨b, b1, b2'⟩ := hall' (Ds a) (t1.2.1 a ha).1
    exact ⟨b, b1, b2', by rw [m6 b b1, eqv a b ha b1 b2']⟩
  · obtain ⟨a, a1, a2⟩ := hall (Cs b) (m1.2.2.2.2.1 b hb).1
    exact ⟨a, a1, a2, by rw [m6 b hb, eqv a b a1 hb a2.symm]⟩
theorem linkS {g : tG_} {n : Nat} {re : tRE} {mf : tMF} {M : Nat} {Cs : Nat → tC} (hS : Sp g n re) (hM : MTs g n mf M Cs) : ¬ M ≤ 600 := by
  intro hM6
  obtain ⟨m1, m2⟩ := hM
  obtain ⟨m3, -⟩ := m2 hM6
  have hall' := MT_all m1 m3
  obtain ⟨s1, s2, s3, Ds, d, d1, d2, d3, d4⟩ := hS
  have := inj_le (N := 601) (M := M) (Cs := va_up Ds 600 d) (Ds := Cs) (fun a b ha hb hab => by
    by_cases h1 : a = 600 <;> by_cases h2 : b = 600
    · omega
    · subst h1; rw [vup_s, vup_n h2] at hab; exact absurd hab.symm (d4 b (by omega))
    · subst h2; rw [vup_s, vup_n h1] at hab; exact absurd hab (d4 a (by omega))
    · rw [vup_n h1, vup_n h2] at hab; exact d2 a b (by omega) (by omega) hab) (fun a ha => by
    by_cases h1 : a = 600
    · subst h1; rw [vup_s]; exact hall' d d3
    · rw [vup_n h1]; exact hall' (Ds a) (d1 a (by omega)))
  omega
/-- both are asked for all: both are spent, or both have their tables -/
theorem askAll {g : tG_} {n : Nat} (hG : GOK g n) {c mn : tC} (hz : Z4 c) (hz' : Z4 mn) {re : tRE} {mf : tMF} (hR : re.2.2.2.2.2.2.2.2.2.1 = 0 ∨ KnX g n re) (hF : RelM g n mf) : ∃ (c' : tC) (re' : tRE) (mn' : tC) (mf' : tMF), Z4 c' ∧ Z4 mn' ∧ (KnX g n re → re' = re) ∧ KnX g n re' ∧ RelM g n mf' ∧ ((f_X6_isSpent g c re = some (1, c', re') ∧ f_X9_findAll g mn mf = some (0, mn', mf')) ∨ (f_X6_isSpent g c re = some (0, c', re') ∧ f_X9_findAll g mn mf = some (1, mn', mf') ∧ ∃ N Ds ds ws Cs, XT g n re' N Ds ds ws ∧ MTs g n mf' N Cs)) := by
  obtain ⟨c', re', r1, r2, r3, r4⟩ := spentX hG hz re hR
  obtain ⟨mn', mf', M, Cs, f1, f2, f3, f4⟩ := findAllM hG hF hz'
  refine ⟨c', re', mn', mf', r2, f2, r4, r3, Or.inr ⟨f3, M, Cs, f4⟩, ?_⟩
  rcases r3 with r3 | ⟨q1, q2, N, Ds, ds, ws, hT⟩
  · left
    rw [r1, f1, r3.2.1, decide_eq_false (linkS r3 f4)]
    exact ⟨rfl, rfl⟩
  · right
    have hl := link hT f4
    have hMN := hl.1
    subst hMN
    rw [r1, f1, q2, decide_eq_true hl.2.1]
    exact ⟨rfl, rfl, M, Ds, ds, ws, Cs, hT, f4⟩
theorem pp_reach {g : tG_} {n : Nat} (hG : GOK g n) {c mn : tC} (hz : Z4 c) (hz' : Z4 mn) {re : tRE} {mf : tMF} (hR : re.2.2.2.2.2.2.2.2.2.1 = 0 ∨ KnX g n re) (hF : RelM g n mf) : ∃ (x : Int32 × tC × tRE) (y : Int32 × tMN × tMF), f_X8_reach g c re = some x ∧ f_X9_reach g mn mf = some y ∧ x.1 = y.1 ∧ Z4 x.2.1 ∧ Z4 y.2.1 ∧ (KnX g n re → x.2.2 = re) ∧ KnX g n x.2.2 ∧ RelM g n y.2.2 := by
  obtain ⟨c', re', mn', mf', a1, a2, a3, a4, a5, a6⟩ := askAll hG hz hz' hR hF
  unfold f_X8_reach f_X9_reach
  rcases a6 with ⟨b1, b2'⟩ | ⟨b1, b2', N, Ds, ds, ws, Cs, hT, hM⟩
  · rw [b1, b2', Option.bind_some, Option.bind_some, if_neg (show ¬ (1 : Int32) = 0 by decide), if_pos rfl]
    exact ⟨_, _, rfl, rfl, rfl, a1, a2, a3, a4, a5⟩
  · rw [b1, b2', Option.bind_some, Option.bind_some, if_pos rfl, if_neg (show ¬ (1 : Int32) = 0 by decide)]
    unfold f_X6_count
    rw [Option.bind_some]
    refine ⟨_, _, rfl, rfl, ?_, a1, a2, a3, a4, a5⟩
    show re'.2.2.2.2.2.2.2.1 = mf'.2.2.1
    rw [hT.2.1, hM.1.2.2.1]
