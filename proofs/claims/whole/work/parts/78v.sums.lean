/-! pure: the class's sums -/
theorem sm_le {g : tG_} {n : Nat} {Ds : Nat → tC} {ds : Nat → Nat} {s c : Nat} (hs : s ≤ 60) : sm g n Ds ds s c ≤ 10000 := by
  unfold sm
  split
  · rename_i v hv
    have := fw_le _ _ _ hv
    split <;> omega
  · omega
/-- sums up to S are there -/
def SU (g : tG_) (n : Nat) (su : Nat → Int32) (N : Nat) (Ds : Nat → tC) (ds : Nat → Nat) (S : Nat) : Prop := ∀ s, s < S → ∀ c, c < N → su (600 * s + c) = nI (sm g n Ds ds s c)
/-- a way's sum -/
def wS (g : tG_) (n : Nat) (Ds : Nat → tC) (ds : Nat → Nat) (s h t b : Nat) : Nat := if t ≤ s then cnt h + sm g n Ds ds (s - t) b else 10000
theorem sumByX {g : tG_} {n : Nat} {pl : tPL} {N : Nat} {Ds : Nat → tC} {ds : Nat → Nat} {s h t b : Nat} (hN : N ≤ 600) (hs : s ≤ 60) (hS : SU g n pl.2.1 N Ds ds s) (hh : h < 256) (ht1 : 1 ≤ t) (ht : t ≤ 39) (hb : b < N) : f_X5_sumBy pl (nI (wv (cnt h) h t b)) (nI s) = some (nI (wS g n Ds ds s h t b)) := by
  have hcl := cnt_le h
  unfold f_X5_sumBy wS
  rw [wv_pass hcl hh (by omega) (by omega), Option.bind_some]
  by_cases hts : t ≤ s
  · have em : nI s - nI t = nI (s - t) := pk_sub hts
    rw [em, if_pos (nI_pos' (by omega)), wv_cnt hcl hh (by omega) (by omega), Option.bind_some, wv_goal hcl hh (by omega) (by omega), Option.bind_some, show nI (s - t) * (600 : Int32) = nI ((s - t) * 600) from pk_mul _ 600, nI_add, if_pos (inb_t (by omega) (by omega)), nI_clamp (by omega), if_pos hts, show (s - t) * 600 + b = 600 * (s - t) + b by omega, hS (s - t) (by omega) b hb, nI_add]
  · have hneg : nI s - nI t < 0 := pk_sneg (by omega) (by omega)
    rw [if_neg (fun q => by rw [i_le] at q; rw [i_lt] at hneg; omega), if_neg hts]
    rfl
/-- the best way so far -/
def BI (g : tG_) (n N : Nat) (Ds : Nat → tC) (c s h : Nat) (best least : Int32) : Prop :=
  (least = 10000 ∧ ∀ h', h' < h → byS g n s (Ds c) h' = none) ∨ ∃ v h0 t0 b0, least = nI v ∧ v ≤ 4 * s ∧ h0 < h ∧ b0 < N ∧ stp g n (Ds c) h0 = some (Ds b0, t0) ∧ best = nI (wv (cnt h0) h0 t0 b0) ∧ byS g n s (Ds c) h0 = some v ∧ (∀ h', h' < h0 → ∀ w, byS g n s (Ds c) h' = some w → v < w) ∧ ∀ h', h' < h → ∀ w, byS g n s (Ds c) h' = some w → v ≤ w
theorem byS_wS {g : tG_} {n : Nat} {re : tRE} {N : Nat} {Ds : Nat → tC} {ds ws : Nat → Nat} (hT : XT g n re N Ds ds ws) {c s h t b : Nat} (hc : c < N) (hb : b < N) (hh : h < 256) (hs : stp g n (Ds c) h = some (Ds b, t)) (hd : ds c + s ≤ 60) : (∀ w, byS g n s (Ds c) h = some w → wS g n Ds ds s h t b = w) ∧ (byS g n s (Ds c) h = none → 10000 ≤ wS g n Ds ds s h t b) := by
  have hdb := hT.2.2.2.2.1.2.1 c b h t hc hb hh hs
  unfold wS byS
  rw [hs]
  dsimp only
  by_cases hts : t ≤ s
  · rw [if_pos hts, if_pos hts]
    unfold sm
    cases hf : fw g n (s - t) (Ds b) with
    | none => exact ⟨fun w hw => (by cases hw), fun _ => (by dsimp only; omega)⟩
    | some v =>
      dsimp only
      rw [if_pos (by omega)]
      exact ⟨fun w hw => (by have hw' : some (v + cnt h) = some w := hw
                             injection hw' with hw'; omega), fun q => (by cases q)⟩
  · rw [if_neg hts, if_neg hts]
    exact ⟨fun w hw => (by cases hw), fun _ => Nat.le_refl _⟩
theorem best_x {g : tG_} {n : Nat} (hG : GOK g n) {re : tRE} {N : Nat} {Ds : Nat → tC} {ds ws : Nat → Nat} (hT : XT g n re N Ds ds ws) {pl : tPL} {c s : Nat} (hc : c < N) (hs : s ≤ 60) (hS : SU g n pl.2.1 N Ds ds s) (hd : ds c + s ≤ 60) (x1 : Int32) : ∀ (k h m : Nat) (best least : Int32), h + k = 256 → k < m → BI g n N Ds c s h best least → ∃ best' least', f_X5_bestWay_27 m re pl x1 (nI s) best least (nI (ws c + rkW g n (Ds c) 256)) (nI (ws c + rkW g n (Ds c) h)) = some (best', least', nI (ws c + rkW g n (Ds c) 256)) ∧ BI g n N Ds c s 256 best' least' := by
  have hT' := hT
  obtain ⟨⟨o, t1⟩, t2, t3, t4, t5, t6⟩ := hT
  have hN6 := t1.1
  obtain ⟨w1, w2, w3, w4⟩ := t6 c hc
  intro k
  induction k with
  | zero =>
    intro h m best least hk hm hI
    obtain ⟨m, rfl⟩ : ∃ m', m = m' + 1 := ⟨m - 1, by omega⟩
    obtain rfl : h = 256 := by omega
    rw [f_X5_bestWay_27, if_pos (nI_le (Nat.le_refl _) (by omega))]
    exact ⟨_, _, rfl, hI⟩
  | succ k ih =>
    intro h m best least hk hm hI
    have keep : (∀ w, byS g n s (Ds c) h = some w → least ≤ nI w) → BI g n N Ds c s (h + 1) best least := fun hq => by
      rcases hI with ⟨i1, i2⟩ | ⟨v, h0, t0, b0, i1, i2, i3, i4, i5, i6, i7, i8, i9⟩
      · left
        refine ⟨i1, fun h' hh' => ?_⟩
        by_cases he : h' = h
        · subst he
          cases hb : byS g n s (Ds c) h' with
          | none => rfl
          | some w =>
            exfalso
            have h1 := hq w hb
            have h2 := byS_bd _ _ hb
            rw [i1, show (10000 : Int32) = nI 10000 from rfl] at h1
            exact nI_ge (a := w) (b := 10000) (by omega) (by omega) h1
        · exact i2 h' (by omega)
      · right
        refine ⟨v, h0, t0, b0, i1, i2, by omega, i4, i5, i6, i7, i8, fun h' hh' w hw => ?_⟩
        by_cases he : h' = h
        · subst he
          have h1 := hq w hw
          have h2 := byS_bd _ _ hw
          rw [i1] at h1
          exact (nI_leI (by omega) (by omega)).mp h1
        · exact i9 h' (by omega) w hw
    cases hst : stp g n (Ds c) h with
    | none =>
      have hnb : byS g n s (Ds c) h = none := by unfold byS; rw [hst]
      obtain ⟨best', least', r1, r2⟩ := ih (h + 1) m best least (by omega) (by omega) (keep (fun w hw => by rw [hnb] at hw; cases hw))
      rw [rkW_s0 hst] at r1
      exact ⟨best', least', r1, r2⟩
    | some x =>
      obtain ⟨d, t⟩ := x
      obtain ⟨m, rfl⟩ : ∃ m', m = m' + 1 := ⟨m - 1, by omega⟩
      obtain ⟨b, b1, b2', b3⟩ := w4 h (by omega) d t hst
      obtain ⟨k1, k2, k3⟩ := stp_ok hG (Rch_ok hG (t1.2.1 c hc).1) hst
      have hlt : rkW g n (Ds c) h < rkW g n (Ds c) 256 := by
        have := rkW_s1 hst
        have := rkW_le (g := g) (n := n) (c := Ds c) (show h + 1 ≤ 256 by omega)
        omega
      have hway : f_X6_way re (nI (ws c + rkW g n (Ds c) h)) = some (nI (wv (cnt h) h t b)) := by
        unfold f_X6_way
        rw [if_pos (inb_t (by omega) (by omega)), nI_clamp (by omega), b3]
      have hstb : stp g n (Ds c) h = some (Ds b, t) := by rw [b2']; exact hst
      obtain ⟨v1, v2⟩ := byS_wS hT' hc b1 (show h < 256 by omega) hstb hd
      have hwS : wS g n Ds ds s h t b < 2 ^ 20 := by
        unfold wS
        have := cnt_le h
        have := sm_le (g := g) (n := n) (Ds := Ds) (ds := ds) (s := s - t) (c := b) (by omega)
        split <;> omega
      rw [f_X5_bestWay_27, if_neg (nI_ge (by omega) (by omega)), hway, Option.bind_some, sumByX hN6 hs hS (by omega) k2 k3 b1, Option.bind_some, nI_1]
      by_cases hle : least ≤ nI (wS g n Ds ds s h t b)
      · rw [if_pos hle]
        obtain ⟨best', least', r1, r2⟩ := ih (h + 1) m best least (by omega) (by omega) (keep (fun w hw => by rw [← v1 w hw]; exact hle))
        rw [rkW_s1 hst] at r1
        exact ⟨best', least', r1, r2⟩
      · rw [if_neg hle]
        have hsome : ∃ w, byS g n s (Ds c) h = some w := by
          cases hb : byS g n s (Ds c) h with
          | some w => exact ⟨w, rfl⟩
          | none =>
            exfalso
            have := v2 hb
            apply hle
            rcases hI with ⟨i1, -⟩ | ⟨v, h0, t0, b0, i1, i2, -⟩
            · rw [i1]; exact nI_le (a := 10000) this (by omega)
            · rw [i1]; exact nI_le (by omega) (by omega)
        obtain ⟨w, hw⟩ := hsome
        have hw2 := v1 w hw
        have hwb := byS_bd _ _ hw
        rw [hw2] at hle ⊢
        obtain ⟨best', least', r1, r2⟩ := ih (h + 1) m (nI (wv (cnt h) h t b)) (nI w) (by omega) (by omega) (Or.inr ⟨w, h, t, b, rfl, hwb, by omega, b1, hstb, rfl, hw, fun h' hh' w' hw' => by
          rcases hI with ⟨i1, i2⟩ | ⟨v, h0, t0, b0, i1, i2, i3, i4, i5, i6, i7, i8, i9⟩
          · rw [i2 h' hh'] at hw'; cases hw'
          · have := i9 h' hh' w' hw'
            rw [i1] at hle
            exact Classical.byContradiction fun q => hle (nI_le (by omega) (by omega)), fun h' hh' w' hw' => by
          by_cases he : h' = h
          · subst he; rw [hw] at hw'; injection hw' with hw'; omega
          · rcases hI with ⟨i1, i2⟩ | ⟨v, h0, t0, b0, i1, i2, i3, i4, i5, i6, i7, i8, i9⟩
            · rw [i2 h' (by omega)] at hw'; cases hw'
            · have := i9 h' (by omega) w' hw'
              rw [i1] at hle
              exact Classical.byContradiction fun q => hle (nI_le (by omega) (by omega))⟩)
        rw [rkW_s1 hst] at r1
        exact ⟨best', least', r1, r2⟩
/-- the best way, where there is one -/
theorem bestX {g : tG_} {n : Nat} (hG : GOK g n) {re : tRE} {N : Nat} {Ds : Nat → tC} {ds ws : Nat → Nat} (hT : XT g n re N Ds ds ws) {pl : tPL} {c s v : Nat} (hc : c < N) (hs : s ≤ 60) (hs1 : 1 ≤ s) (hS : SU g n pl.2.1 N Ds ds s) (hd : ds c + s ≤ 60) (hv : fw g n s (Ds c) = some v) : ∃ h t b, h < 256 ∧ b < N ∧ stp g n (Ds c) h = some (Ds b, t) ∧ f_X5_bestWay re pl (nI c) (nI s) = some (nI (wv (cnt h) h t b)) ∧ byS g n s (Ds c) h = some v ∧ Fb g n s (Ds c) h := by
  have hN6 := hT.1.choose_spec.1
  obtain ⟨best, least, r1, r2⟩ := best_x hG hT hc hs hS hd (nI c) 256 0 100000 0 10000 (by omega) (by omega) (Or.inl ⟨rfl, fun h' q => by omega⟩)
  have hst : f_X6_startOfWays re (nI c) = some (nI (ws c)) := by
    unfold f_X6_startOfWays
    rw [if_pos (inb_t (by omega) (by omega)), nI_clamp (by omega), (hT.2.2.2.2.2 c hc).1]
  have hend : f_X6_endOfWays re (nI c) = some (nI (ws c + rkW g n (Ds c) 256)) := by
    unfold f_X6_endOfWays
    rw [if_pos (inb_t (by omega) (by omega)), nI_clamp (by omega), (hT.2.2.2.2.2 c hc).2.1]
  have r1' : f_X5_bestWay_27 100000 re pl (nI c) (nI s) 0 10000 (nI (ws c + rkW g n (Ds c) 256)) (nI (ws c)) = _ := r1
  have hv' := hv
  rw [fw_s hs1] at hv'
  obtain ⟨hx, x1, x2⟩ := minO_some hv'
  unfold f_X5_bestWay
  rw [hend, Option.bind_some, hst, Option.bind_some, r1', Option.bind_some]
  rcases r2 with ⟨i1, i2⟩ | ⟨v', h0, t0, b0, i1, i2, i3, i4, i5, i6, i7, i8, i9⟩
  · rw [i2 hx x1] at x2; cases x2
  · obtain ⟨v'', y1, y2⟩ := minO_le i3 i7
    rw [hv'] at y1
    injection y1 with y1
    have := i9 hx x1 v x2
    have hvv : v' = v := by omega
    subst hvv
    exact ⟨h0, t0, b0, i3, i4, i5, by rw [i6], i7, by rw [i7, hv], fun h' hh' q => by
      rw [hv] at q
      have := i8 h' hh' v' q
      omega⟩
theorem sumFromX {g : tG_} {n : Nat} (hG : GOK g n) {re : tRE} {N : Nat} {Ds : Nat → tC} {ds ws : Nat → Nat} (hT : XT g n re N Ds ds ws) {pl : tPL} (hP : SPB g n N Ds pl.1) {c s : Nat} (hc : c < N) (hs : s ≤ 60) (hS : SU g n pl.2.1 N Ds ds s) : f_X5_sumFrom re pl (nI c) (nI s) = some (nI (sm g n Ds ds s c)) := by
  have hN6 := hT.1.choose_spec.1
  have hdb : ds c ≤ 39 * 600 := by have := hT.2.2.2.2.1.2.2.2 c hc; omega
  unfold f_X5_sumFrom
  by_cases h0 : s = 0
  · subst h0
    rw [if_pos (show nI 0 = 0 from rfl)]
    unfold sm
    rw [fw_0]
    rfl
  · rw [if_neg (nI_ne0 (by omega) (by omega)), goesX hP hN6 hc hs, Option.bind_some]
    cases hf : fw g n s (Ds c) with
    | none =>
      rw [if_pos (show b2 (none : Option Nat).isSome = 0 by decide)]
      unfold sm
      rw [hf]
      rfl
    | some v =>
      rw [if_neg (show ¬ b2 (some v).isSome = 0 by rw [Option.isSome_some]; decide)]
      unfold f_X6_earliestOf
      rw [if_pos (inb_t (by omega) (by omega)), Option.bind_some, nI_clamp (by omega), hT.2.2.2.1 c hc, nI_add]
      by_cases h6 : ds c + s ≤ 60
      · obtain ⟨h, t, b, q1, q2, q3, q4, q5, q6⟩ := bestX hG hT hc hs (by omega) hS h6 hf
        obtain ⟨k1, k2, k3⟩ := stp_ok hG (Rch_ok hG (hT.1.choose_spec.2.1 c hc).1) q3
        rw [if_pos (show nI (ds c + s) ≤ (60 : Int32) from nI_le (b := 60) h6 (by omega)), q4, Option.bind_some, sumByX hN6 hs hS q1 k2 k3 q2, Option.bind_some]
        have := (byS_wS hT hc q2 q1 q3 h6).1 v q5
        rw [this]
        unfold sm
        rw [hf]
        dsimp only
        rw [if_pos (Or.inr h6)]
      · rw [if_neg (show ¬ nI (ds c + s) ≤ (60 : Int32) from nI_ge (a := 60) (by omega) (by omega))]
        unfold sm
        rw [hf]
        dsimp only
        rw [if_neg (by omega)]
        rfl
