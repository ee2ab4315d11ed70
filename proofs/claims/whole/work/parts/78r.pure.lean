/-! pure: pure, soonest -/
/-- the least sums that the class keeps -/
def sm (g : tG_) (n : Nat) (Ds : Nat → tC) (ds : Nat → Nat) (s c : Nat) : Nat := match fw g n s (Ds c) with
  | some v => if s = 0 ∨ ds c + s ≤ 60 then v else 10000
  | none => 10000
/-- h is the first of the best -/
def Fb (g : tG_) (n s : Nat) (c : tC) (h : Nat) : Prop := byS g n s c h = fw g n s c ∧ ∀ h', h' < h → byS g n s c h' ≠ fw g n s c
def Pln (g : tG_) (n : Nat) : List Nat → Nat → tC → Prop
  | [], s, _ => s = 0
  | h :: L, s, c => 1 ≤ s ∧ h < 256 ∧ Fb g n s c h ∧ ∃ d t, stp g n c h = some (d, t) ∧ t ≤ s ∧ Pln g n L (s - t) d
def LA (L : List Nat) (p : Nat) (a : Nat → Int32) : Prop := ∀ i (h : i < L.length), a (p + i) = nI (L[i]) ∧ L[i] < 256
/-- what the class keeps of plans -/
def PT (g : tG_) (n : Nat) (pl : tPL) (N : Nat) (Ds : Nat → tC) (ds : Nat → Nat) : Prop :=
  (pl.2.2.2.1 = 0 ∧ pl.2.2.2.2.1 = 0 ∧ pl.2.2.2.2.2.1 = 0) ∨ (pl.2.2.2.1 = 1 ∧ SPB g n N Ds pl.1 ∧ (∃ S, S ≤ 61 ∧ pl.2.2.2.2.1 = nI S ∧ ∀ s, s < S → ∀ c, c < N → pl.2.1 (600 * s + c) = nI (sm g n Ds ds s c)) ∧ (pl.2.2.2.2.2.1 = 0 ∨ ∃ s L, 1 ≤ s ∧ s ≤ 60 ∧ pl.2.2.2.2.2.1 = nI s ∧ Pln g n L s c00 ∧ L.length ≤ 60 ∧ pl.2.2.2.2.2.2 = nI L.length ∧ LA L 0 pl.2.2.1))
def RelX (g : tG_) (n : Nat) (re : tRE) (pl : tPL) : Prop :=
  (re.2.2.2.2.2.2.2.2.2.1 = 0 ∧ pl.2.2.2.1 = 0 ∧ pl.2.2.2.2.1 = 0 ∧ pl.2.2.2.2.2.1 = 0) ∨ Sp g n re ∨ (re.2.2.2.2.2.2.2.2.2.1 = 1 ∧ re.2.2.2.2.2.2.2.2.2.2 = 0 ∧ ∃ N Ds ds ws, XT g n re N Ds ds ws ∧ PT g n pl N Ds ds)
theorem RelX.kn {g : tG_} {n : Nat} {re : tRE} {pl : tPL} (h : RelX g n re pl) : re.2.2.2.2.2.2.2.2.2.1 = 0 ∨ KnX g n re := by
  rcases h with h | h | ⟨h1, h2, N, Ds, ds, ws, h3, -⟩
  · exact Or.inl h.1
  · exact Or.inr (Or.inl h)
  · exact Or.inr (Or.inr ⟨h1, h2, N, Ds, ds, ws, h3⟩)
theorem RelX.re {g : tG_} {n : Nat} {re re' : tRE} {pl : tPL} (h : RelX g n re pl) (h1 : KnX g n re → re' = re) (h2 : re' = re ∨ KnX g n re') : RelX g n re' pl := by
  rcases h2 with h2 | h2
  · rw [h2]; exact h
  · rcases h.kn with hk | hk
    · rcases h with h | h | ⟨q, -⟩
      · rcases h2 with h2 | ⟨q1, q2, N, Ds, ds, ws, q3⟩
        · exact Or.inr (Or.inl h2)
        · exact Or.inr (Or.inr ⟨q1, q2, N, Ds, ds, ws, q3, Or.inl h.2⟩)
      · rw [h.1] at hk; exact absurd hk (by decide)
      · rw [q] at hk; exact absurd hk (by decide)
    · rw [h1 hk]; exact h
theorem ix60 (a : Int32) : (a < 1 ∨ ¬ a ≤ 60) ∧ f_X9_in a 1 60 = some 0 ∨ ∃ s : Nat, 1 ≤ s ∧ s ≤ 60 ∧ a = nI s ∧ ¬ a < 1 ∧ a ≤ 60 ∧ f_X9_in a 1 60 = some 1 := by
  have e1 : (1 : Int32).toInt = 1 := rfl
  have e60 : (60 : Int32).toInt = 60 := rfl
  by_cases h1 : a < 1
  · exact Or.inl ⟨Or.inl h1, in_f (Or.inl h1)⟩
  · by_cases h2 : a ≤ 60
    · right
      rw [i_lt] at h1
      have h2' := h2
      rw [i_le] at h2'
      refine ⟨a.toInt.toNat, by omega, by omega, ?_, by rw [i_lt]; exact h1, h2, in_t (by rw [i_le]; omega) h2⟩
      rw [i_eq, tI_nI (by omega)]
      omega
    · exact Or.inl ⟨Or.inr h2, in_f (Or.inr (by rw [i_le] at h2; rw [i_lt]; omega))⟩
/-- both are asked for a span: both refuse alike, or both have their tables -/
theorem askS {g : tG_} {n : Nat} (hG : GOK g n) {c mn : tC} (hz : Z4 c) (hz' : Z4 mn) {re : tRE} {pl : tPL} {mf : tMF} (hR : RelX g n re pl) (hF : RelM g n mf) (a : Int32) : ∃ (c' : tC) (re' : tRE) (mn' : tC) (mf' : tMF), Z4 c' ∧ Z4 mn' ∧ RelX g n re' pl ∧ RelM g n mf' ∧ ((∃ r : Int32, (r = -1 ∨ r = -8) ∧ f_X8_refusalOf g c re a = some (r, c', re') ∧ f_X9_whyNot g mn mf a = some (r, mn', mf')) ∨ (f_X8_refusalOf g c re a = some (0, c', re') ∧ f_X9_whyNot g mn mf a = some (0, mn', mf') ∧ ∃ s N Ds ds ws Cs, 1 ≤ s ∧ s ≤ 60 ∧ a = nI s ∧ re'.2.2.2.2.2.2.2.2.2.1 = 1 ∧ re'.2.2.2.2.2.2.2.2.2.2 = 0 ∧ XT g n re' N Ds ds ws ∧ PT g n pl N Ds ds ∧ MTs g n mf' N Cs)) := by
  unfold f_X8_refusalOf f_X9_whyNot
  rcases ix60 a with ⟨h1, h2⟩ | ⟨s, s1, s2, s3, s4, s5, s6⟩
  · refine ⟨c, re, mn, mf, hz, hz', hR, hF, Or.inl ⟨-1, Or.inl rfl, ?_, ?_⟩⟩
    · by_cases h3 : a < 1
      · rw [if_pos h3]
      · rw [if_neg h3, if_neg]
        rcases h1 with h1 | h1
        · exact absurd h1 h3
        · exact h1
    · rw [h2, Option.bind_some, if_pos rfl]
  · obtain ⟨c', re', mn', mf', b1, b2', b3, b4, b5, b6⟩ := askAll hG hz hz' hR.kn hF
    have hR' := hR.re b3 (Or.inr b4)
    refine ⟨c', re', mn', mf', b1, b2', hR', b5, ?_⟩
    rw [if_neg s4, if_pos s5, s6, Option.bind_some, if_neg (show ¬ (1 : Int32) = 0 by decide)]
    rcases b6 with ⟨d1, d2⟩ | ⟨d1, d2, N, Ds, ds, ws, Cs, hT, hM⟩
    · left
      rw [d1, d2, Option.bind_some, Option.bind_some, if_neg (show ¬ (1 : Int32) = 0 by decide), if_pos rfl]
      exact ⟨-8, Or.inr rfl, rfl, rfl⟩
    · right
      rw [d1, d2, Option.bind_some, Option.bind_some, if_pos rfl, if_neg (show ¬ (1 : Int32) = 0 by decide)]
      refine ⟨rfl, rfl, ?_⟩
      rcases hR' with h | h | ⟨q1, q2, N', Ds', ds', ws', hT', hP⟩
      · exfalso
        rcases b4 with h' | h'
        · rw [h'.1] at h; exact absurd h.1 (by decide)
        · rw [h'.1] at h; exact absurd h.1 (by decide)
      · exact absurd ((link hT hM).2.1) (linkS h hM)
      · have hNN := (link hT' hM).1
        subst hNN
        exact ⟨s, N, Ds', ds', ws', Cs, s1, s2, s3, q1, q2, hT', hP, hM⟩
theorem PT.sp {g : tG_} {n : Nat} {pl : tPL} {N : Nat} {Ds : Nat → tC} {ds : Nat → Nat} (h : PT g n pl N Ds ds) : pl.2.2.2.1 = 0 ∨ (pl.2.2.2.1 = 1 ∧ SPB g n N Ds pl.1) := by
  rcases h with h | h
  · exact Or.inl h.1
  · exact Or.inr ⟨h.1, h.2.1⟩
/-- after the spans are found -/
theorem PT_sp {g : tG_} {n : Nat} {pl : tPL} {N : Nat} {Ds : Nat → tC} {ds : Nat → Nat} {sp : Nat → Int64} (h : PT g n pl N Ds ds) (hs : SPB g n N Ds sp) (he : pl.2.2.2.1 = 1 → sp = pl.1) : PT g n (sp, pl.2.1, pl.2.2.1, 1, pl.2.2.2.2) N Ds ds := by
  rcases h with h | ⟨h1, h2, h3, h4⟩
  · exact Or.inr ⟨rfl, hs, ⟨0, by omega, h.2.1, fun s q => by omega⟩, Or.inl h.2.2⟩
  · exact Or.inr ⟨rfl, hs, h3, h4⟩
theorem ft0 {g : tG_} {n : Nat} {mf : tMF} {N : Nat} {Cs : Nat → tC} (hM : MTs g n mf N Cs) (hN : N ≤ 600) {s b : Nat} (hs : s ≤ 60) (hb : b < N) : mf.2.2.2.2.2.1 (600 * s + b) = enc (fw g n s (Cs b)) := (hM.2 hN).2.1 s (by omega) b hb
theorem fw_lt0 {g : tG_} {n s : Nat} {c : tC} (hs : s ≤ 60) : (enc (fw g n s c) < 0) = (fw g n s c = none) := enc_lt (fun v hv => by have := fw_le s c v hv; omega)
theorem e600 {s : Nat} : (600 : Int32) * nI s = nI (600 * s) := by rw [show (600 : Int32) = nI 600 from rfl, pk_mul]
theorem pp_pure {g : tG_} {n : Nat} (hG : GOK g n) {c mn : tC} (hz : Z4 c) (hz' : Z4 mn) {re : tRE} {pl : tPL} {mf : tMF} (hR : RelX g n re pl) (hF : RelM g n mf) (a : Int32) : ∃ (x : Int32 × tC × tRE × tPL) (y : Int32 × tMN × tMF), f_X8_pure g c re pl a = some x ∧ f_X9_pure g mn mf a = some y ∧ x.1 = y.1 ∧ Z4 x.2.1 ∧ Z4 y.2.1 ∧ RelX g n x.2.2.1 x.2.2.2 ∧ RelM g n y.2.2 := by
  obtain ⟨c', re', mn', mf', b1, b2', b3, b4, b5⟩ := askS hG hz hz' hR hF a
  unfold f_X8_pure f_X9_pure
  rcases b5 with ⟨r, r1, r2, r3⟩ | ⟨r2, r3, s, N, Ds, ds, ws, Cs, s1, s2, s3, k1, k2, hT, hP, hM⟩
  · have hr0 : ¬ r = 0 := by rcases r1 with q | q <;> rw [q] <;> decide
    rw [r2, r3, Option.bind_some, Option.bind_some, if_neg hr0, if_neg hr0]
    exact ⟨_, _, rfl, rfl, rfl, b1, b2', b3, b4⟩
  · obtain ⟨-, hN6, -, -⟩ := link hT hM
    have hN1 := hT.2.2.1.1
    obtain ⟨sp, p1, p2, p3⟩ := spansX hG hT hP.sp
    rw [r2, r3, Option.bind_some, Option.bind_some, if_pos rfl, if_pos rfl]
    unfold f_X5_isPure
    have hgo := goesX (pl := (sp, pl.2.1, pl.2.2.1, 1, pl.2.2.2.2)) p2 hN6 (show 0 < N by omega) s2
    have hgo' : f_X5_goesOn (sp, pl.2.1, pl.2.2.1, 1, pl.2.2.2.2) 0 (nI s) = _ := hgo
    have hft := ft0 hM hN6 s2 (show 0 < N by omega)
    rw [Nat.add_zero] at hft
    have hR' : RelX g n re' (sp, pl.2.1, pl.2.2.1, 1, pl.2.2.2.2) := Or.inr (Or.inr ⟨k1, k2, N, Ds, ds, ws, hT, PT_sp hP p2 p3⟩)
    rw [p1, Option.bind_some, s3, hgo', Option.bind_some, e600, if_pos (inb_t (by omega) (by omega)), nI_clamp (by omega), hft, hT.2.2.1.2]
    simp only [fw_lt0 s2]
    rw [hM.1.2.2.2.1]
    cases hf : fw g n s c00 with
    | none =>
      simp only [Option.isSome_none]
      rw [if_pos (show isb (b2 false) = true by decide), Option.bind_some, if_pos (show b2 false = 0 by decide), if_pos trivial]
      exact ⟨_, _, rfl, rfl, rfl, b1, b2', hR', b4⟩
    | some v =>
      simp only [Option.isSome_some]
      rw [if_pos (show isb (b2 true) = true by decide), Option.bind_some, if_neg (show ¬ b2 true = 0 by decide), if_neg (fun q => by cases q)]
      exact ⟨_, _, rfl, rfl, rfl, b1, b2', hR', b4⟩
