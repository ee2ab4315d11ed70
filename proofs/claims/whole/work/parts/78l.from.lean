/-! pure: the class goes through all that plans come to -/
theorem p4le {n : Nat} (h : n ≤ 4) : 4 ^ n ≤ 256 ∧ 1 ≤ 4 ^ n ∧ (1 : Int32) <<< (((2 : Int32) * nI n) &&& 31) = nI (4 ^ n) := by
  match n, h with
  | 0, _ => decide
  | 1, _ => decide
  | 2, _ => decide
  | 3, _ => decide
  | 4, _ => decide
theorem go_x {g : tG_} {n : Nat} (hG : GOK g n) {re0 : tRE} {N0 : Nat} {Ds0 : Nat → tC} {sN0 : Nat → Nat} {u W0 : Nat} (hu : u < N0) (hN0 : N0 ≤ 600) (hCu : Cok g n (Ds0 u)) (hs0 : ∀ c, c < N0 → sN0 c ≤ 39 * 600) (hW : W0 + 81 ≤ 48600) : ∀ (m h : Nat) (re : tRE) (N : Nat) (Ds : Nat → tC) (sN : Nat → Nat), IN g n re0 N0 Ds0 sN0 u W0 h re N Ds sN → h ≤ 4 ^ n → 4 ^ n - h < m → ∃ (h' : Int32) (c' : tC) (re' : tRE), f_X6_goFrom_44 m g (Ds0 u) re (nI u) (nI (4 ^ n)) (nI h) = some (h', c', re') ∧ Z4 c' ∧ (Sp g n re' ∨ ∃ N' Ds' sN', IN g n re0 N0 Ds0 sN0 u W0 (4 ^ n) re' N' Ds' sN') := by
  have h4 := p4le hG.1
  intro m
  induction m with
  | zero => intro h re N Ds sN _ _ q; omega
  | succ m ih =>
    intro h re N Ds sN hI hh hm
    have hI' := hI
    obtain ⟨⟨o, i1⟩, i2, i3, i4, i5, i6, i7, i8, i9, i10, i11, i12⟩ := hI
    have hku : re.1 u = lN (keyN (Ds0 u)) := by rw [(i1.2.1 u (by omega)).2, i4 u hu]
    rw [f_X6_goFrom_44]
    by_cases he : h = 4 ^ n
    · rw [if_pos (nI_le (by omega) (by omega))]
      exact ⟨_, _, _, rfl, hCu.z hG, Or.inr ⟨N, Ds, sN, he ▸ hI'⟩⟩
    · rw [if_neg (nI_ge (by omega) (by omega)), if_pos i9.2, alwX hG hCu (by omega), Option.bind_some, nI_1]
      by_cases ha : alw g n (Ds0 u) h = true
      · rw [ha, if_neg (show ¬ b2 true = 0 by decide)]
        cases hs : stp g n (Ds0 u) h with
        | none =>
          rw [goBy_n hG hCu (by omega) hs ha, Option.bind_some, if_pos (inb_t (by omega) (by omega))]
          simp only [nI_clamp (show u < 2 ^ 31 by omega), hku, takeX (hCu.cb hG) (hCu.z hG) ((Cok_hnd hG hCu).z hG), Option.bind_some]
          exact ih (h + 1) re N Ds sN (IN_skip hI' hs) (by omega) (by omega)
        | some x =>
          obtain ⟨d, t⟩ := x
          obtain ⟨re', r1, r2, r3⟩ := IN_step hG hu hs0 hW hI' (by omega) hs
          have hd := (stp_ok hG hCu hs).1
          rw [r1, Option.bind_some, if_pos (inb_t (by omega) (by omega))]
          simp only [nI_clamp (show u < 2 ^ 31 by omega), r2, takeX (hCu.cb hG) (hCu.z hG) (hd.z hG), Option.bind_some]
          rcases r3 with r3 | ⟨N', Ds', sN', r3⟩
          · obtain ⟨m, rfl⟩ : ∃ m', m = m' + 1 := ⟨m - 1, by omega⟩
            refine ⟨nI (h + 1), Ds0 u, re', ?_, hCu.z hG, Or.inl r3⟩
            rw [f_X6_goFrom_44]
            by_cases hl : nI (4 ^ n) ≤ nI (h + 1)
            · rw [if_pos hl]
            · rw [if_neg hl, if_neg (by rw [r3.2.1]; decide)]
          · exact ih (h + 1) re' N' Ds' sN' r3 (by omega) (by omega)
      · have hs : stp g n (Ds0 u) h = none := by
          unfold stp
          rw [if_neg (fun q => ha q.1)]
        rw [show alw g n (Ds0 u) h = false by simpa using ha, if_pos (show b2 false = 0 by decide)]
        exact ih (h + 1) re N Ds sN (IN_skip hI' hs) (by omega) (by omega)
theorem IN_far {g : tG_} {n : Nat} (hn : n ≤ 4) {re0 : tRE} {N0 : Nat} {Ds0 : Nat → tC} {sN0 : Nat → Nat} {u W0 : Nat} {re : tRE} {N : Nat} {Ds : Nat → tC} {sN : Nat → Nat} (hI : IN g n re0 N0 Ds0 sN0 u W0 (4 ^ n) re N Ds sN) : IN g n re0 N0 Ds0 sN0 u W0 256 re N Ds sN := by
  obtain ⟨i1, i2, i3, i4, i5, i6, i7, i8, i9, i10, i11, i12⟩ := hI
  have h4 := p4le hn
  have hr : rkW g n (Ds0 u) 256 = rkW g n (Ds0 u) (4 ^ n) := by
    have := rkW_far (g := g) (n := n) (c := Ds0 u) hn (256 - 4 ^ n) (by omega)
    rwa [show 4 ^ n + (256 - 4 ^ n) = 256 by omega] at this
  refine ⟨i1, i2, i3, i4, i5, i6, i7, by rw [hr]; exact i8, i9, fun h' hh' d t hst => ?_, i11, i12⟩
  by_cases he : h' < 4 ^ n
  · exact i10 h' he d t hst
  · rw [stp_far hn hh' (by omega)] at hst; cases hst
/-- the state between: done ones L, moments sN, where ways begin ws, how many W -/
def XI (g : tG_) (n : Nat) (re : tRE) (N : Nat) (Ds : Nat → tC) (sN : Nat → Nat) (L : List Nat) (ws : Nat → Nat) (W : Nat) : Prop :=
  (∃ o, XO g n re.1 re.2.1 N Ds o) ∧ re.2.2.2.2.2.2.2.1 = nI N ∧ (1 ≤ N ∧ Ds 0 = c00) ∧ (∀ c, c < N → re.2.2.1 c = nI (sN c)) ∧ (∀ c, c < N → re.2.2.2.1 c = b2 (decide (c ∈ L))) ∧ (re.2.2.2.2.2.2.2.2.1 = nI W ∧ W ≤ 81 * L.length) ∧ (re.2.2.2.2.2.2.2.2.2.1 = 1 ∧ re.2.2.2.2.2.2.2.2.2.2 = 0) ∧ L.Nodup ∧ (∀ c, c ∈ L → c < N) ∧ sN 0 = 0 ∧ (∀ c, c < N → sN c ≤ 39 * L.length) ∧ (∀ a b, a ∈ L → b < N → b ∉ L → sN a ≤ sN b) ∧ (∀ a, a ∈ L → re.2.2.2.2.1 a = nI (ws a) ∧ re.2.2.2.2.2.1 a = nI (ws a + rkW g n (Ds a) 256) ∧ ws a + rkW g n (Ds a) 256 ≤ W ∧ ∀ h, h < 256 → ∀ d t, stp g n (Ds a) h = some (d, t) → ∃ b, b < N ∧ Ds b = d ∧ sN b ≤ sN a + t ∧ re.2.2.2.2.2.2.1 (ws a + rkW g n (Ds a) h) = nI (wv (cnt h) h t b)) ∧ ∀ b, b < N → b ≠ 0 → ∃ a h t, a ∈ L ∧ h < 256 ∧ stp g n (Ds a) h = some (Ds b, t) ∧ sN b = sN a + t
theorem goFromX {g : tG_} {n : Nat} (hG : GOK g n) {re : tRE} {N : Nat} {Ds : Nat → tC} {sN : Nat → Nat} {L : List Nat} {ws : Nat → Nat} {W : Nat} (hI : XI g n re N Ds sN L ws W) {u : Nat} (hu : u < N) (huL : u ∉ L) (hmin : ∀ c, c < N → c ∉ L → sN u ≤ sN c) {c : tC} (hz : Z4 c) : ∃ (c' : tC) (re' : tRE), f_X6_goFrom g c re (nI u) = some (c', re') ∧ Z4 c' ∧ (Sp g n re' ∨ ∃ N' Ds' sN' ws' W', XI g n re' N' Ds' sN' (u :: L) ws' W') := by
  obtain ⟨⟨o, i1⟩, i2, ⟨i3, i3'⟩, i4, i5, ⟨i6, i6'⟩, ⟨i7, i7'⟩, i8, i9, i10, i11, i12, i13, i14⟩ := hI
  have hN6 := i1.1
  have hlen : L.length + 1 ≤ N := by
    have := nd_len (u :: L) (List.range N) (List.nodup_cons.mpr ⟨huL, i8⟩) (fun x hx => by
      rcases List.mem_cons.mp hx with rfl | h
      · exact List.mem_range.mpr hu
      · exact List.mem_range.mpr (i9 x h))
    rwa [List.length_range, List.length_cons] at this
  have hRu := (i1.2.1 u hu).1
  have hCu := Rch_ok hG hRu
  have hku := (i1.2.1 u hu).2
  have h4 := p4le hG.1
  unfold f_X6_goFrom
  have hcnt : f_X3_count g = some (nI n) := by unfold f_X3_count; rw [hG.2.1]
  rw [if_pos (inb_t (by omega) (by omega)), if_pos (inb_t (by omega) (by omega)), hcnt, Option.bind_some, if_pos (inb_t (by omega) (by omega)), nI_clamp (by omega), hku, takeX (hCu.cb hG) (hCu.z hG) hz, Option.bind_some, h4.2.2, nar1]
  have hI0 : IN g n (re.1, re.2.1, re.2.2.1, upd re.2.2.2.1 u 1, upd re.2.2.2.2.1 u re.2.2.2.2.2.2.2.2.1, re.2.2.2.2.2.1, re.2.2.2.2.2.2.1, re.2.2.2.2.2.2.2.1, re.2.2.2.2.2.2.2.2.1, re.2.2.2.2.2.2.2.2.2.1, re.2.2.2.2.2.2.2.2.2.2) N Ds sN u W 0 (re.1, re.2.1, re.2.2.1, upd re.2.2.2.1 u 1, upd re.2.2.2.2.1 u re.2.2.2.2.2.2.2.2.1, re.2.2.2.2.2.1, re.2.2.2.2.2.2.1, re.2.2.2.2.2.2.2.1, re.2.2.2.2.2.2.2.2.1, re.2.2.2.2.2.2.2.2.2.1, re.2.2.2.2.2.2.2.2.2.2) N Ds sN :=
    ⟨⟨o, i1⟩, i2, Nat.le_refl _, fun _ _ => rfl, i4, fun c hc => by rw [if_pos hc], ⟨rfl, rfl, fun _ _ => rfl⟩, i6, ⟨i7, i7'⟩, fun h' hh' => by omega, fun _ _ => Nat.le_refl _, fun b hb => Or.inl ⟨hb, rfl⟩⟩
  obtain ⟨h', c', re', r1, r2, r3⟩ := go_x hG hu hN6 hCu (fun c hc => by have := i11 c hc; omega) (by omega) 100000 0 _ N Ds sN hI0 (by omega) (by omega)
  have r1' : f_X6_goFrom_44 100000 g (Ds u) (re.1, re.2.1, re.2.2.1, upd re.2.2.2.1 u 1, upd re.2.2.2.2.1 u re.2.2.2.2.2.2.2.2.1, re.2.2.2.2.2.1, re.2.2.2.2.2.2.1, re.2.2.2.2.2.2.2.1, re.2.2.2.2.2.2.2.2.1, re.2.2.2.2.2.2.2.2.2.1, re.2.2.2.2.2.2.2.2.2.2) (nI u) (nI (4 ^ n)) 0 = _ := r1
  rw [r1', Option.bind_some, if_pos (inb_t (by omega) (by omega))]
  refine ⟨_, _, rfl, r2, ?_⟩
  rcases r3 with r3 | ⟨N', Ds', sN', r3⟩
  · exact Or.inl r3
  · right
    obtain ⟨⟨o', j1⟩, j2, j3, j4, j5, j6, ⟨j7, j7', j7''⟩, j8, j9, j10, j11, j12⟩ := IN_far hG.1 r3
    have hN6' := j1.1
    have keepL : ∀ a, a ∈ L → sN' a = sN a := by
      intro a ha
      have haN := i9 a ha
      rcases j12 a (by omega) with ⟨-, q⟩ | ⟨h', t, q1, q2, q3, q4⟩
      · exact q
      · have := q4 haN
        have := i12 a u ha hu huL
        omega
    have keepU : sN' u = sN u := by
      rcases j12 u (by omega) with ⟨-, q⟩ | ⟨h', t, q1, q2, q3, q4⟩
      · exact q
      · have := q4 hu; omega
    have hr81 : rkW g n (Ds u) 256 ≤ 81 := rkW_81
    have hsu := i11 u hu
    refine ⟨N', Ds', sN', va_up ws u W, W + rkW g n (Ds u) 256, ⟨o', j1⟩, j2, ⟨by omega, by rw [j4 0 (by omega)]; exact i3'⟩, j5, fun c hc => ?_, ⟨j8, by rw [List.length_cons]; omega⟩, j9, List.nodup_cons.mpr ⟨huL, i8⟩, fun c hc => ?_, ?_, fun c hc => ?_, fun a b ha hb hbL => ?_, fun a ha => ?_, fun b hb hb0 => ?_⟩
    · show re'.2.2.2.1 c = _
      rw [j6 c hc]
      by_cases hcN : c < N
      · rw [if_pos hcN]
        show upd re.2.2.2.1 u 1 c = _
        by_cases hcu : c = u
        · subst hcu
          rw [upd_s, decide_eq_true List.mem_cons_self]; rfl
        · rw [upd_n hcu, i5 c hcN]
          congr 2
          exact propext ⟨fun q => List.mem_cons_of_mem _ q, fun q => by
            rcases List.mem_cons.mp q with rfl | q
            · exact absurd rfl hcu
            · exact q⟩
      · rw [if_neg hcN, decide_eq_false (fun q => by
          rcases List.mem_cons.mp q with rfl | q
          · exact hcN hu
          · exact hcN (i9 c q))]
        rfl
    · rcases List.mem_cons.mp hc with rfl | hc
      · omega
      · have := i9 c hc; omega
    · have := j11 0 (by omega); omega
    · rw [List.length_cons]
      rcases j12 c hc with ⟨q1, q⟩ | ⟨h', t, q1, q2, q3, q4⟩
      · have := i11 c q1; omega
      · have := (stp_ok hG hCu q2).2.2; omega
    · have hbu : b ≠ u := fun q => hbL (by rw [q]; exact List.mem_cons_self)
      have hbL2 : b ∉ L := fun q => hbL (List.mem_cons_of_mem _ q)
      have hau : sN' a ≤ sN u := by
        rcases List.mem_cons.mp ha with rfl | ha
        · omega
        · rw [keepL a ha]; exact i12 a u ha hu huL
      rcases j12 b hb with ⟨q1, q⟩ | ⟨h', t, q1, q2, q3, q4⟩
      · have := hmin b q1 hbL2; omega
      · omega
    · by_cases hau : a = u
      · subst hau
        refine ⟨?_, ?_, ?_, ?_⟩
        · show re'.2.2.2.2.1 a = _
          rw [j7, vup_s]
          show upd re.2.2.2.2.1 a re.2.2.2.2.2.2.2.2.1 a = _
          rw [upd_s]; exact i6
        · show upd re'.2.2.2.2.2.1 a re'.2.2.2.2.2.2.2.2.1 a = _
          rw [upd_s, vup_s, j4 a hu]; exact j8
        · rw [vup_s, j4 a hu]; omega
        · intro h hh d t hst
          rw [j4 a hu] at hst
          obtain ⟨b, q1, q2, q3, q4⟩ := j10 h hh d t hst
          refine ⟨b, q1, q2, by omega, ?_⟩
          rw [vup_s, j4 a hu]; exact q4
      · have haL : a ∈ L := by
          rcases List.mem_cons.mp ha with h | h
          · exact absurd h hau
          · exact h
        have haN := i9 a haL
        obtain ⟨w1, w2, w3, w4⟩ := i13 a haL
        refine ⟨?_, ?_, ?_, ?_⟩
        · show re'.2.2.2.2.1 a = _
          rw [j7, vup_n hau]
          show upd re.2.2.2.2.1 u re.2.2.2.2.2.2.2.2.1 a = _
          rw [upd_n hau]; exact w1
        · show upd re'.2.2.2.2.2.1 u re'.2.2.2.2.2.2.2.2.1 a = _
          rw [upd_n hau, vup_n hau, j4 a haN, j7']; exact w2
        · rw [vup_n hau, j4 a haN]; omega
        · intro h hh d t hst
          rw [j4 a haN] at hst
          obtain ⟨b, q1, q2, q3, q4⟩ := w4 h hh d t hst
          have hlt : rkW g n (Ds a) h < rkW g n (Ds a) 256 := by
            have := rkW_s1 hst
            have := rkW_le (g := g) (n := n) (c := Ds a) (show h + 1 ≤ 256 by omega)
            omega
          refine ⟨b, by omega, by rw [j4 b q1]; exact q2, ?_, ?_⟩
          · have := j11 b q1
            rw [keepL a haL]; omega
          · show re'.2.2.2.2.2.2.1 _ = _
            rw [vup_n hau, j4 a haN, j7'' _ (by omega)]; exact q4
    · rcases j12 b hb with ⟨q1, q⟩ | ⟨h', t, q1, q2, q3, q4⟩
      · obtain ⟨a, h, t, z1, z2, z3, z4⟩ := i14 b q1 hb0
        exact ⟨a, h, t, List.mem_cons_of_mem _ z1, z2, by rw [j4 a (i9 a z1), j4 b q1]; exact z3, by rw [q, keepL a z1]; exact z4⟩
      · exact ⟨u, h', t, List.mem_cons_self, q1, by rw [j4 u hu]; exact q2, by rw [keepU]; exact q3⟩
