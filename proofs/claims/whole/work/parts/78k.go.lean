/-! pure: the class goes on from a config -/
abbrev putW (re : tRE) (W : Nat) (w : Int32) : tRE := (re.1, re.2.1, re.2.2.1, re.2.2.2.1, re.2.2.2.2.1, re.2.2.2.2.2.1, upd re.2.2.2.2.2.2.1 W w, re.2.2.2.2.2.2.2.1, nI (W + 1), re.2.2.2.2.2.2.2.2.2.1, re.2.2.2.2.2.2.2.2.2.2)
abbrev spX (re : tRE) : tRE := (re.1, re.2.1, re.2.2.1, re.2.2.2.1, re.2.2.2.2.1, re.2.2.2.2.2.1, re.2.2.2.2.2.2.1, re.2.2.2.2.2.2.2.1, re.2.2.2.2.2.2.2.2.1, re.2.2.2.2.2.2.2.2.2.1, 1)
theorem stp_some {g : tG_} {n : Nat} {c d : tC} {h t : Nat} (hs : stp g n c h = some (d, t)) : alw g n c h = true ∧ unt n (hnd g n c h) = t ∧ adv n t (hnd g n c h) = d ∧ 1 ≤ t := by
  unfold stp at hs
  split at hs
  · rename_i q
    injection hs with e
    injection e with e1 e2
    subst e2
    exact ⟨q.1, rfl, e1, by omega⟩
  · cases hs
theorem stp_nob {g : tG_} {n : Nat} {c : tC} {h : Nat} (hs : stp g n c h = none) (ha : alw g n c h = true) : unt n (hnd g n c h) = 0 := by
  unfold stp at hs
  split at hs
  · cases hs
  · rename_i q
    exact Classical.byContradiction fun z => q ⟨ha, z⟩
theorem goBy_n {g : tG_} {n : Nat} (hG : GOK g n) {c : tC} (hC : Cok g n c) {h : Nat} (hh : h < 256) (hs : stp g n c h = none) (ha : alw g n c h = true) (re : tRE) (a : Int32) : f_X6_goBy g c re a (nI h) = some (hnd g n c h, re) := by
  unfold f_X6_goBy
  rw [hX hG hC hh, Option.bind_some, untX hG (Cok_hnd hG hC), Option.bind_some, stp_nob hs ha, if_pos (show nI 0 = (0 : Int32) from rfl)]
theorem goBy_s {g : tG_} {n : Nat} (hG : GOK g n) {c d : tC} (hC : Cok g n c) {h t : Nat} (hh : h < 256) (hs : stp g n c h = some (d, t)) {re re1 : tRE} {u b W : Nat} (hu : u < 600) (hb : b < 1024) (hn : f_X6_numberOf re (lN (keyN d)) (re.2.2.1 u + nI t) = some (nI b, re1)) (hW : re1.2.2.2.2.2.2.2.2.1 = nI W) (hW2 : W < 48600) : f_X6_goBy g c re (nI u) (nI h) = some (d, putW re1 W (nI (wv (cnt h) h t b))) := by
  obtain ⟨s1, s2, s3, s4⟩ := stp_some hs
  obtain ⟨k1, k2, k3⟩ := stp_ok hG hC hs
  unfold f_X6_goBy
  rw [hX hG hC hh, Option.bind_some, untX hG (Cok_hnd hG hC), Option.bind_some, s2, if_neg (fun q => by have := (nI_eq (a := t) (b := 0) (by omega) (by omega)).mp q; omega), letX hG (Cok_hnd hG hC) (by omega), Option.bind_some, s3, keyX (k1.cb hG), Option.bind_some, if_pos (inb_t (by omega) hu), nI_clamp (by omega), hn, Option.bind_some, if_neg (nI_pos (by omega))]
  simp only [hW]
  rw [if_pos (show nI W < (48600 : Int32) from nI_lt (b := 48600) hW2 (by omega)), cntX h hh, Option.bind_some, if_pos (inb_t (by omega) hW2), nI_clamp (by omega), nI_1]
  rw [wv_mk (cnt_le h) hh (by omega) hb]
theorem goBy_x {g : tG_} {n : Nat} (hG : GOK g n) {c d : tC} (hC : Cok g n c) {h t : Nat} (hh : h < 256) (hs : stp g n c h = some (d, t)) {re re1 : tRE} {u : Nat} (hu : u < 600) (hn : f_X6_numberOf re (lN (keyN d)) (re.2.2.1 u + nI t) = some (-1, re1)) : f_X6_goBy g c re (nI u) (nI h) = some (d, spX re1) := by
  obtain ⟨s1, s2, s3, s4⟩ := stp_some hs
  obtain ⟨k1, k2, k3⟩ := stp_ok hG hC hs
  unfold f_X6_goBy
  rw [hX hG hC hh, Option.bind_some, untX hG (Cok_hnd hG hC), Option.bind_some, s2, if_neg (fun q => by have := (nI_eq (a := t) (b := 0) (by omega) (by omega)).mp q; omega), letX hG (Cok_hnd hG hC) (by omega), Option.bind_some, s3, keyX (k1.cb hG), Option.bind_some, if_pos (inb_t (by omega) hu), nI_clamp (by omega), hn, Option.bind_some, if_pos (show (-1 : Int32) < 0 by decide)]
/-- the state within goFrom: what was there before it (0), and what there is now -/
def IN (g : tG_) (n : Nat) (re0 : tRE) (N0 : Nat) (Ds0 : Nat → tC) (sN0 : Nat → Nat) (u W0 h : Nat) (re : tRE) (N : Nat) (Ds : Nat → tC) (sN : Nat → Nat) : Prop :=
  (∃ o, XO g n re.1 re.2.1 N Ds o) ∧ re.2.2.2.2.2.2.2.1 = nI N ∧ N0 ≤ N ∧ (∀ a, a < N0 → Ds a = Ds0 a) ∧ (∀ c, c < N → re.2.2.1 c = nI (sN c)) ∧ (∀ c, c < N → re.2.2.2.1 c = if c < N0 then re0.2.2.2.1 c else 0) ∧ (re.2.2.2.2.1 = re0.2.2.2.2.1 ∧ re.2.2.2.2.2.1 = re0.2.2.2.2.2.1 ∧ (∀ p, p < W0 → re.2.2.2.2.2.2.1 p = re0.2.2.2.2.2.2.1 p)) ∧ re.2.2.2.2.2.2.2.2.1 = nI (W0 + rkW g n (Ds0 u) h) ∧ (re.2.2.2.2.2.2.2.2.2.1 = 1 ∧ re.2.2.2.2.2.2.2.2.2.2 = 0) ∧ (∀ h', h' < h → ∀ d t, stp g n (Ds0 u) h' = some (d, t) → ∃ b, b < N ∧ Ds b = d ∧ sN b ≤ sN0 u + t ∧ re.2.2.2.2.2.2.1 (W0 + rkW g n (Ds0 u) h') = nI (wv (cnt h') h' t b)) ∧ (∀ b, b < N0 → sN b ≤ sN0 b) ∧ ∀ b, b < N → (b < N0 ∧ sN b = sN0 b) ∨ ∃ h' t, h' < 256 ∧ stp g n (Ds0 u) h' = some (Ds b, t) ∧ sN b = sN0 u + t ∧ (b < N0 → sN0 u + t < sN0 b)
/-- too many -/
def Sp (g : tG_) (n : Nat) (re : tRE) : Prop := re.2.2.2.2.2.2.2.2.2.1 = 1 ∧ re.2.2.2.2.2.2.2.2.2.2 = 1 ∧ re.2.2.2.2.2.2.2.1 = nI 600 ∧ ∃ (Ds : Nat → tC) (d : tC), (∀ a, a < 600 → Rch g n (Ds a)) ∧ (∀ a b, a < 600 → b < 600 → Ds a = Ds b → a = b) ∧ Rch g n d ∧ ∀ a, a < 600 → Ds a ≠ d
theorem rkW_s1 {g : tG_} {n : Nat} {c : tC} {h : Nat} {x : tC × Nat} (hs : stp g n c h = some x) : rkW g n c (h + 1) = rkW g n c h + 1 := by
  show rkW g n c h + (if (stp g n c h).isSome = true then 1 else 0) = _
  rw [hs]; rfl
theorem rkW_s0 {g : tG_} {n : Nat} {c : tC} {h : Nat} (hs : stp g n c h = none) : rkW g n c (h + 1) = rkW g n c h := by
  show rkW g n c h + (if (stp g n c h).isSome = true then 1 else 0) = _
  rw [hs]; rfl
theorem IN_skip {g : tG_} {n : Nat} {re0 : tRE} {N0 : Nat} {Ds0 : Nat → tC} {sN0 : Nat → Nat} {u W0 h : Nat} {re : tRE} {N : Nat} {Ds : Nat → tC} {sN : Nat → Nat} (hI : IN g n re0 N0 Ds0 sN0 u W0 h re N Ds sN) (hs : stp g n (Ds0 u) h = none) : IN g n re0 N0 Ds0 sN0 u W0 (h + 1) re N Ds sN := by
  obtain ⟨i1, i2, i3, i4, i5, i6, i7, i8, i9, i10, i11, i12⟩ := hI
  refine ⟨i1, i2, i3, i4, i5, i6, i7, by rw [rkW_s0 hs]; exact i8, i9, fun h' hh' d t hst => ?_, i11, i12⟩
  by_cases he : h' = h
  · subst he; rw [hs] at hst; cases hst
  · exact i10 h' (by omega) d t hst
theorem IN_step {g : tG_} {n : Nat} (hG : GOK g n) {re0 : tRE} {N0 : Nat} {Ds0 : Nat → tC} {sN0 : Nat → Nat} {u W0 h : Nat} {re : tRE} {N : Nat} {Ds : Nat → tC} {sN : Nat → Nat} (hu : u < N0) (hs0 : ∀ c, c < N0 → sN0 c ≤ 39 * 600) (hW : W0 + 81 ≤ 48600) (hI : IN g n re0 N0 Ds0 sN0 u W0 h re N Ds sN) (hh : h < 256) {d : tC} {t : Nat} (hs : stp g n (Ds0 u) h = some (d, t)) : ∃ re', f_X6_goBy g (Ds0 u) re (nI u) (nI h) = some (d, re') ∧ re'.1 u = lN (keyN (Ds0 u)) ∧ (Sp g n re' ∨ ∃ N' Ds' sN', IN g n re0 N0 Ds0 sN0 u W0 (h + 1) re' N' Ds' sN') := by
  obtain ⟨⟨o, i1⟩, i2, i3, i4, i5, i6, i7, i8, i9, i10, i11, i12⟩ := hI
  have hRu : Rch g n (Ds0 u) := by rw [← i4 u hu]; exact (i1.2.1 u (by omega)).1
  have hCu := Rch_ok hG hRu
  have hRd : Rch g n d := Rch_s hRu hh hs
  obtain ⟨k1, k2, k3⟩ := stp_ok hG hCu hs
  have hN6 := i1.1
  have hsu : sN u = sN0 u := by
    rcases i12 u (by omega) with ⟨-, q⟩ | ⟨h', t', q1, q2, q3, q4⟩
    · exact q
    · have := q4 hu; omega
  have hsb : ∀ c, c < N → sN c ≤ 39 * 601 := by
    intro c hc
    rcases i12 c hc with ⟨q1, q⟩ | ⟨h', t', q1, q2, q3, q4⟩
    · have := hs0 c q1; omega
    · have := (stp_ok hG hCu q2).2.2
      have := hs0 u hu; omega
  have hmo : re.2.2.1 u + nI t = nI (sN0 u + t) := by rw [i5 u (by omega), hsu, nI_add]
  have hr81 : rkW g n (Ds0 u) (h + 1) ≤ 81 := Nat.le_trans (rkW_le (by omega)) rkW_81
  have hrs := rkW_s1 hs
  have hku : re.1 u = lN (keyN (Ds0 u)) := by rw [(i1.2.1 u (by omega)).2, i4 u hu]
  have hs0u := hs0 u hu
  rcases numX hG i1 i2 hRd (re.2.2.1 u + nI t) with ⟨b, b1, b2', b3⟩ | ⟨hno, ⟨h6, hx⟩ | ⟨h6, P, o', hx, hO'⟩⟩
  · refine ⟨_, goBy_s hG hCu hh hs (by omega) (show b < 1024 by omega) b3 i8 (by omega), hku, Or.inr ⟨N, Ds, va_up sN b (if sN0 u + t < sN b then sN0 u + t else sN b), ⟨o, i1⟩, i2, i3, i4, fun c hc => ?_, i6, ⟨i7.1, i7.2.1, fun p hp => ?_⟩, ?_, i9, fun h' hh' d' t' hst => ?_, fun c hc => ?_, fun c hc => ?_⟩⟩
    · show upd re.2.2.1 b (if re.2.2.1 u + nI t < re.2.2.1 b then re.2.2.1 u + nI t else re.2.2.1 b) c = _
      by_cases hcb : c = b
      · subst hcb
        rw [upd_s, hmo, i5 c hc, vup_s]
        have := hsb c hc
        by_cases hlt : sN0 u + t < sN c
        · rw [if_pos hlt, if_pos (nI_lt hlt (by omega))]
        · rw [if_neg hlt, if_neg (nI_nlt (by omega) (by omega))]
      · rw [upd_n hcb, vup_n hcb]; exact i5 c hc
    · show upd re.2.2.2.2.2.2.1 _ _ p = _
      rw [upd_n (by omega)]; exact i7.2.2 p hp
    · show nI (W0 + rkW g n (Ds0 u) h + 1) = _
      rw [hrs]; rfl
    · show ∃ b', b' < N ∧ Ds b' = d' ∧ _ ≤ _ ∧ upd re.2.2.2.2.2.2.1 (W0 + rkW g n (Ds0 u) h) (nI (wv (cnt h) h t b)) (W0 + rkW g n (Ds0 u) h') = _
      by_cases he : h' = h
      · subst he
        rw [hs] at hst
        cases hst
        refine ⟨b, b1, b2', ?_, by rw [upd_s]⟩
        rw [vup_s]
        split <;> omega
      · obtain ⟨b', q1, q2, q3, q4⟩ := i10 h' (by omega) d' t' hst
        have hlt : rkW g n (Ds0 u) h' < rkW g n (Ds0 u) h := by
          have := rkW_s1 hst
          have := rkW_le (g := g) (n := n) (c := Ds0 u) (show h' + 1 ≤ h by omega)
          omega
        refine ⟨b', q1, q2, ?_, by rw [upd_n (by omega)]; exact q4⟩
        by_cases hbb : b' = b
        · subst hbb; rw [vup_s]; split <;> omega
        · rw [vup_n hbb]; exact q3
    · have := i11 c hc
      by_cases hcb : c = b
      · subst hcb; rw [vup_s]; split <;> omega
      · rw [vup_n hcb]; exact this
    · by_cases hcb : c = b
      · subst hcb
        rw [vup_s]
        by_cases hlt : sN0 u + t < sN c
        · rw [if_pos hlt]
          exact Or.inr ⟨h, t, hh, by rw [b2']; exact hs, rfl, fun q => by have := i11 c q; omega⟩
        · rw [if_neg hlt]; exact i12 c hc
      · rw [vup_n hcb]; exact i12 c hc
  · refine ⟨_, goBy_x hG hCu hh hs (by omega) hx, hku, Or.inl ⟨i9.1, rfl, by rw [← h6]; exact i2, Ds, d, fun a ha => (i1.2.1 a (by omega)).1, fun a b ha hb => i1.2.2.1 a b (by omega) (by omega), hRd, fun a ha => hno a (by omega)⟩⟩
  · refine ⟨_, goBy_s hG hCu hh hs (by omega) (show N < 1024 by omega) hx i8 (by omega), ?_, Or.inr ⟨N + 1, va_up Ds N d, va_up sN N (sN0 u + t), ⟨o', hO'⟩, rfl, by omega, fun a ha => ?_, fun c hc => ?_, fun c hc => ?_, ⟨i7.1, i7.2.1, fun p hp => ?_⟩, ?_, i9, fun h' hh' d' t' hst => ?_, fun c hc => ?_, fun c hc => ?_⟩⟩
    · show vp_updL re.1 N _ u = _
      rw [updL_n (by omega)]; exact hku
    · rw [vup_n (by omega)]; exact i4 a ha
    · show upd re.2.2.1 N (re.2.2.1 u + nI t) c = _
      by_cases hcb : c = N
      · subst hcb; rw [upd_s, hmo, vup_s]
      · rw [upd_n hcb, vup_n hcb]; exact i5 c (by omega)
    · show upd re.2.2.2.1 N 0 c = _
      by_cases hcb : c = N
      · subst hcb; rw [upd_s, if_neg (by omega)]
      · rw [upd_n hcb]; exact i6 c (by omega)
    · show upd re.2.2.2.2.2.2.1 _ _ p = _
      rw [upd_n (by omega)]; exact i7.2.2 p hp
    · show nI (W0 + rkW g n (Ds0 u) h + 1) = _
      rw [hrs]; rfl
    · show ∃ b', b' < N + 1 ∧ va_up Ds N d b' = d' ∧ _ ≤ _ ∧ upd re.2.2.2.2.2.2.1 (W0 + rkW g n (Ds0 u) h) (nI (wv (cnt h) h t N)) (W0 + rkW g n (Ds0 u) h') = _
      by_cases he : h' = h
      · subst he
        rw [hs] at hst
        cases hst
        refine ⟨N, by omega, vup_s, ?_, by rw [upd_s]⟩
        rw [vup_s]
        exact Nat.le_refl _
      · obtain ⟨b', q1, q2, q3, q4⟩ := i10 h' (by omega) d' t' hst
        have hlt : rkW g n (Ds0 u) h' < rkW g n (Ds0 u) h := by
          have := rkW_s1 hst
          have := rkW_le (g := g) (n := n) (c := Ds0 u) (show h' + 1 ≤ h by omega)
          omega
        refine ⟨b', by omega, by rw [vup_n (by omega)]; exact q2, ?_, by rw [upd_n (by omega)]; exact q4⟩
        rw [vup_n (by omega)]; exact q3
    · rw [vup_n (by omega)]; exact i11 c hc
    · by_cases hcb : c = N
      · subst hcb
        rw [vup_s, vup_s]
        exact Or.inr ⟨h, t, hh, hs, rfl, fun q => by omega⟩
      · rw [vup_n hcb, vup_n hcb]; exact i12 c (by omega)
