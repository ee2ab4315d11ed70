/-! pure: what is kept of the run by hand -/
theorem nar_b {x : Int32} (h : isb x = true) : vp_nar .boolean x = x := by
  rcases of_decide_eq_true h with rfl | rfl <;> rfl
def Ent (g : tG_) (n : Nat) (mo : Nat → Int32) (kk : Nat → Int64) (ke kh : Nat → Int32) (kr : Nat → Int64) (km ke' kh' : Nat → Int32) (p i ev : Nat) : Prop :=
  (∃ c, Cok g n c ∧ kk p = lN (keyN c) ∧ kr i = lN (codeN c)) ∧ ke p = nI ev ∧ ke' i = nI ev ∧ km i = mo (ev - 1) ∧ kh p = kh' i ∧ isb (kh p) = true
def KP (g : tG_) (n : Nat) (mo : Nat → Int32) (kk : Nat → Int64) (ke kh : Nat → Int32) (kp rg : Int32) (kr : Nat → Int64) (km ke' kh' : Nat → Int32) (kp' : Int32) (e : Nat) : Prop :=
  ∃ (k r : Nat) (ev : Nat → Nat), k ≤ 100 ∧ r < 100 ∧ kp = nI k ∧ rg = nI r ∧ kp' = nI k ∧ ev k = e ∧ (∀ i, i < k → 1 ≤ ev i ∧ ev i ≤ ev (i + 1)) ∧ ∀ i, i < k → Ent g n mo kk ke kh kr km ke' kh' ((r + 100 - k + i) % 100) i (ev i)
theorem ev_le {ev : Nat → Nat} {k : Nat} (h : ∀ i, i < k → 1 ≤ ev i ∧ ev i ≤ ev (i + 1)) : ∀ d i, i + d = k → ev i ≤ ev k := by
  intro d
  induction d with
  | zero => intro i hi; rw [show i = k by omega]; exact Nat.le_refl _
  | succ d ih =>
    intro i hi
    have h1 := (h i (by omega)).2
    have h2 := ih (i + 1) (by omega)
    omega
theorem KP_mono {g : tG_} {n : Nat} {mo mo' : Nat → Int32} {kk : Nat → Int64} {ke kh : Nat → Int32} {kp rg : Int32} {kr : Nat → Int64} {km ke' kh' : Nat → Int32} {kp' : Int32} {e e' : Nat} (h : KP g n mo kk ke kh kp rg kr km ke' kh' kp' e) (he : e ≤ e') (hm : ∀ j, j < e → mo' j = mo j) : KP g n mo' kk ke kh kp rg kr km ke' kh' kp' e' := by
  obtain ⟨k, r, ev, h1, h2, h3, h4, h5, h6, h7, h8⟩ := h
  refine ⟨k, r, fun i => if i = k then e' else ev i, h1, h2, h3, h4, h5, by simp, fun i hi => ?_, fun i hi => ?_⟩
  · have := h7 i hi
    simp only [if_neg (show ¬ i = k by omega)]
    refine ⟨this.1, ?_⟩
    by_cases hk : i + 1 = k
    · rw [if_pos hk]; rw [hk, h6] at this; omega
    · rw [if_neg hk]; exact this.2
  · obtain ⟨a, b, c, d, x, y⟩ := h8 i hi
    simp only [if_neg (show ¬ i = k by omega)]
    have h9 := ev_le h7 (k - i) i (by omega)
    have h10 := h7 i hi
    exact ⟨a, b, c, by rw [hm _ (by omega)]; exact d, x, y⟩
theorem updL_s {f : Nat → Int64} {k : Nat} {x : Int64} : vp_updL f k x k = x := pk_uLs
theorem updL_n {f : Nat → Int64} {k j : Nat} {x : Int64} (h : j ≠ k) : vp_updL f k x j = f j := pk_uLn h
theorem keepX {bh : tBH} {c : tC} {k r : Nat} (hc : CB c) (hk : k ≤ 100) (hr : r < 100) (h1 : bh.2.2.2.2.2.2.1 = nI k) (h2 : bh.2.2.2.2.2.2.2 = nI r) (hb : isb bh.2.2.1 = true) : f_X0_keep bh c = some (bh.1, bh.2.1, bh.2.2.1, vp_updL bh.2.2.2.1 r (lN (keyN c)), upd bh.2.2.2.2.1 r bh.2.1, upd bh.2.2.2.2.2.1 r bh.2.2.1, nI (min (k + 1) 100), nI ((r + 1) % 100)) := by
  unfold f_X0_keep
  rw [keyX hc]
  simp only [Option.bind_some, h1, h2, inb_t (show r < 2 ^ 31 by omega) hr, nI_clamp (show r < 2 ^ 31 by omega), if_true, nar_b hb, nI_1]
  have e1 : (if (100 : Int32) < nI (k + 1) then (100 : Int32) else nI (k + 1)) = nI (min (k + 1) 100) := by
    by_cases h : k = 100
    · subst h; rfl
    · rw [if_neg (show ¬ (100 : Int32) < nI (k + 1) by rw [i_lt, tI_nI (by omega)]; show ¬ (100 : Int) < ((k + 1 : Nat) : Int); omega), Nat.min_eq_left (by omega)]
  have e2 : nI (r + 1) - nI (r + 1) / (100 : Int32) * (100 : Int32) = nI ((r + 1) % 100) := pk_rem (d := 100) (by omega) (by omega) (by omega)
  rw [e1, e2]
theorem kM_loop : ∀ (m i : Nat) (run : Int64) (mom hd : Int32) (ea : Nat → Int32) (en : Int32) (kr : Nat → Int64) (km ke kh : Nat → Int32) (kp : Int32), 1 ≤ i → i ≤ 100 → 100 - i < m → ∃ (kr1 : Nat → Int64) (km1 ke1 kh1 : Nat → Int32), f_X9_keep_11 m (run, mom, hd, ea, en, kr, km, ke, kh, kp) (nI i) = some (nI 100, (run, mom, hd, ea, en, kr1, km1, ke1, kh1, kp)) ∧ ∀ j, kr1 j = (if i - 1 ≤ j ∧ j < 99 then kr (j + 1) else kr j) ∧ km1 j = (if i - 1 ≤ j ∧ j < 99 then km (j + 1) else km j) ∧ ke1 j = (if i - 1 ≤ j ∧ j < 99 then ke (j + 1) else ke j) ∧ kh1 j = (if i - 1 ≤ j ∧ j < 99 then vp_nar .boolean (kh (j + 1)) else kh j) := by
  intro m
  induction m with
  | zero => intros; omega
  | succ m ih =>
    intro i run mom hd ea en kr km ke kh kp h1 h2 hm
    rw [f_X9_keep_11]
    by_cases he : i = 100
    · subst he
      rw [if_pos (show (100 : Int32) ≤ nI 100 by decide)]
      refine ⟨kr, km, ke, kh, rfl, fun j => ?_⟩
      rw [if_neg (by omega), if_neg (by omega), if_neg (by omega), if_neg (by omega)]
      exact ⟨rfl, rfl, rfl, rfl⟩
    · have es : nI i - (1 : Int32) = nI (i - 1) := pk_sub (b := 1) h1
      rw [if_neg (show ¬ (100 : Int32) ≤ nI i from nI_ge (b := 100) (by omega) (by omega))]
      simp only [es, inb_t (show i < 2 ^ 31 by omega) (show i < 100 by omega), inb_t (show i - 1 < 2 ^ 31 by omega) (show i - 1 < 100 by omega), nI_clamp (show i < 2 ^ 31 by omega), nI_clamp (show i - 1 < 2 ^ 31 by omega), if_true, nI_1]
      obtain ⟨kr1, km1, ke1, kh1, h3, h4⟩ := ih (i + 1) run mom hd ea en (vp_updL kr (i - 1) (kr i)) (upd km (i - 1) (km i)) (upd ke (i - 1) (ke i)) (upd kh (i - 1) (vp_nar .boolean (kh i))) kp (by omega) (by omega) (by omega)
      refine ⟨kr1, km1, ke1, kh1, h3, fun j => ?_⟩
      obtain ⟨a, b, c, d⟩ := h4 j
      rw [a, b, c, d]
      by_cases hj : j = i - 1
      · subst hj
        have c1 : ¬ (i + 1 - 1 ≤ i - 1 ∧ i - 1 < 99) := by omega
        have c2 : i - 1 ≤ i - 1 ∧ i - 1 < 99 := by omega
        simp only [if_neg c1, if_pos c2, updL_s, upd_s, show i - 1 + 1 = i by omega, and_self]
      · by_cases hj2 : i + 1 - 1 ≤ j ∧ j < 99
        · rw [if_pos hj2, if_pos hj2, if_pos hj2, if_pos hj2, if_pos (by omega), if_pos (by omega), if_pos (by omega), if_pos (by omega), updL_n (by omega), upd_n (by omega), upd_n (by omega), upd_n (by omega)]
          exact ⟨rfl, rfl, rfl, rfl⟩
        · rw [if_neg hj2, if_neg hj2, if_neg hj2, if_neg hj2, if_neg (by omega), if_neg (by omega), if_neg (by omega), if_neg (by omega), updL_n hj, upd_n hj, upd_n hj, upd_n hj]
          exact ⟨rfl, rfl, rfl, rfl⟩
theorem keepM {run : Int64} {mom hd : Int32} {ea : Nat → Int32} {en : Int32} {kr : Nat → Int64} {km ke kh : Nat → Int32} {k : Nat} (hk : k ≤ 100) (hb : isb hd = true) (hh : k = 100 → ∀ j, j < 100 → isb (kh j) = true) : ∃ (kr1 : Nat → Int64) (km1 ke1 kh1 : Nat → Int32), f_X9_keep (run, mom, hd, ea, en, kr, km, ke, kh, nI k) = some (run, mom, hd, ea, en, kr1, km1, ke1, kh1, nI (min (k + 1) 100)) ∧ (∀ j, j + 1 = min (k + 1) 100 → kr1 j = run ∧ km1 j = mom ∧ ke1 j = en ∧ kh1 j = hd) ∧ ∀ j, j + 1 < min (k + 1) 100 → kr1 j = kr (k + 1 - min (k + 1) 100 + j) ∧ km1 j = km (k + 1 - min (k + 1) 100 + j) ∧ ke1 j = ke (k + 1 - min (k + 1) 100 + j) ∧ kh1 j = kh (k + 1 - min (k + 1) 100 + j) := by
  unfold f_X9_keep
  by_cases h100 : k = 100
  · subst h100
    obtain ⟨kr1, km1, ke1, kh1, h3, h4⟩ := kM_loop 100000 1 run mom hd ea en kr km ke kh (nI 100) (by omega) (by omega) (by omega)
    have h3' : f_X9_keep_11 100000 (run, mom, hd, ea, en, kr, km, ke, kh, nI 100) 1 = _ := h3
    simp only [if_pos (show nI 100 = (100 : Int32) from rfl), h3', Option.bind_some]
    have es : nI 100 - (1 : Int32) = nI 99 := by decide
    simp only [es, inb_t (show 99 < 2 ^ 31 by omega) (show 99 < 100 by omega), nI_clamp (show 99 < 2 ^ 31 by omega), if_true, nI_1, nar_b hb]
    refine ⟨_, _, _, _, rfl, fun j hj => ?_, fun j hj => ?_⟩
    · have : j = 99 := by omega
      subst this
      exact ⟨updL_s, upd_s, upd_s, upd_s⟩
    · obtain ⟨a, b, c, d⟩ := h4 j
      have hj9 : j < 99 := by omega
      rw [updL_n (by omega), upd_n (by omega), upd_n (by omega), upd_n (by omega), a, b, c, d, if_pos (by omega), if_pos (by omega), if_pos (by omega), if_pos (by omega), nar_b (hh rfl (j + 1) (by omega)), show 100 + 1 - min (100 + 1) 100 + j = j + 1 by omega]
      exact ⟨rfl, rfl, rfl, rfl⟩
  · simp only [if_neg (show ¬ nI k = (100 : Int32) from fun q => h100 ((nI_eq (b := 100) (by omega) (by omega)).mp q)), inb_t (show k < 2 ^ 31 by omega) (show k < 100 by omega), nI_clamp (show k < 2 ^ 31 by omega), if_true, nI_1, nar_b hb]
    rw [Nat.min_eq_left (show k + 1 ≤ 100 by omega)]
    refine ⟨_, _, _, _, rfl, fun j hj => ?_, fun j hj => ?_⟩
    · have : j = k := by omega
      subst this
      exact ⟨updL_s, upd_s, upd_s, upd_s⟩
    · rw [updL_n (by omega), upd_n (by omega), upd_n (by omega), upd_n (by omega), show k + 1 - (k + 1) + j = j by omega]
      exact ⟨rfl, rfl, rfl, rfl⟩
/-- both keep -/
theorem keep2 {g : tG_} {n : Nat} {bh : tBH} {c : tC} {mh : tMH} {e : Nat} (hG : GOK g n) (hC : Cok g n c) (he : 1 ≤ e) (h1 : bh.2.1 = nI e) (h2 : mh.2.2.2.2.1 = nI e) (h3 : bh.2.2.1 = mh.2.2.1) (hb : isb bh.2.2.1 = true) (h4 : mh.1 = lN (codeN c)) (h5 : mh.2.1 = bh.1 (e - 1)) (hK : KP g n bh.1 bh.2.2.2.1 bh.2.2.2.2.1 bh.2.2.2.2.2.1 bh.2.2.2.2.2.2.1 bh.2.2.2.2.2.2.2 mh.2.2.2.2.2.1 mh.2.2.2.2.2.2.1 mh.2.2.2.2.2.2.2.1 mh.2.2.2.2.2.2.2.2.1 mh.2.2.2.2.2.2.2.2.2 e) :
    ∃ (kk : Nat → Int64) (ke kh : Nat → Int32) (kp rg : Int32) (kr : Nat → Int64) (km ke' kh' : Nat → Int32) (kp' : Int32), f_X0_keep bh c = some (bh.1, bh.2.1, bh.2.2.1, kk, ke, kh, kp, rg) ∧ f_X9_keep mh = some (mh.1, mh.2.1, mh.2.2.1, mh.2.2.2.1, mh.2.2.2.2.1, kr, km, ke', kh', kp') ∧ KP g n bh.1 kk ke kh kp rg kr km ke' kh' kp' e := by
  obtain ⟨k, r, ev, k1, k2, k3, k4, k5, k6, k7, k8⟩ := hK
  have hX := keepX (bh := bh) (c := c) (hC.cb hG) k1 k2 k3 k4 hb
  obtain ⟨run, mom, hd, ea, en, kr, km, ke', kh', kp'⟩ := mh
  dsimp only at *
  subst k5
  have hbM : isb hd = true := by rw [← h3]; exact hb
  obtain ⟨kr1, km1, ke1, kh1, m1, m2, m3⟩ := keepM (run := run) (mom := mom) (hd := hd) (ea := ea) (en := en) (kr := kr) (km := km) (ke := ke') (kh := kh') k1 hbM (fun h100 j hj => by
    obtain ⟨-, -, -, -, x, y⟩ := k8 j (by omega)
    rw [← x]; exact y)
  refine ⟨_, _, _, _, _, _, _, _, _, _, hX, m1, min (k + 1) 100, (r + 1) % 100, fun i => if i = min (k + 1) 100 then e else ev (k + 1 - min (k + 1) 100 + i), by omega, by omega, rfl, rfl, rfl, by simp, fun i hi => ?_, fun i hi => ?_⟩
  · simp only [if_neg (show ¬ i = min (k + 1) 100 by omega)]
    by_cases hk : k + 1 - min (k + 1) 100 + i = k
    · rw [hk, k6, if_pos (show i + 1 = min (k + 1) 100 by omega)]
      exact ⟨he, Nat.le_refl _⟩
    · rw [if_neg (show ¬ i + 1 = min (k + 1) 100 by omega), ← Nat.add_assoc]
      exact k7 _ (by omega)
  · simp only [if_neg (show ¬ i = min (k + 1) 100 by omega)]
    by_cases hl : i + 1 = min (k + 1) 100
    · obtain ⟨x1, x2, x3, x4⟩ := m2 i hl
      have hp : ((r + 1) % 100 + 100 - min (k + 1) 100 + i) % 100 = r := by omega
      rw [hp, show k + 1 - min (k + 1) 100 + i = k by omega, k6]
      exact ⟨⟨c, hC, updL_s, x1.trans h4⟩, upd_s.trans h1, x3.trans h2, x2.trans h5, by rw [upd_s, x4]; exact h3, by rw [upd_s]; exact hb⟩
    · obtain ⟨x1, x2, x3, x4⟩ := m3 i (by omega)
      have hp : ((r + 1) % 100 + 100 - min (k + 1) 100 + i) % 100 = (r + 100 - k + (k + 1 - min (k + 1) 100 + i)) % 100 := by omega
      have hpr : (r + 100 - k + (k + 1 - min (k + 1) 100 + i)) % 100 ≠ r := by omega
      obtain ⟨⟨cc, y1, y2, y3⟩, y4, y5, y6, y7, y8⟩ := k8 (k + 1 - min (k + 1) 100 + i) (by omega)
      rw [hp]
      exact ⟨⟨cc, y1, by rw [updL_n hpr]; exact y2, by rw [x1]; exact y3⟩, by rw [upd_n hpr]; exact y4, by rw [x3]; exact y5, by rw [x2]; exact y6, by rw [upd_n hpr, x4]; exact y7, by rw [upd_n hpr]; exact y8⟩
