/-! pure: config -/
theorem pXM {c d : tC} (hc : CB c) (hd : CB d) (j : Nat) : (pX c j < pX d j ↔ pM c j < pM d j) ∧ (pX c j = pX d j ↔ pM c j = pM d j) := by
  obtain ⟨⟨-, a1⟩, ⟨-, a2⟩, -, a3⟩ := hc j
  obtain ⟨⟨-, b1⟩, ⟨-, b2'⟩, -, b3⟩ := hd j
  unfold pX pM
  omega
theorem lex2 {p q x y P : Nat} (h1 : x < P) (h2 : y < P) : (p * P + x < q * P + y ↔ p < q ∨ (p = q ∧ x < y)) ∧ (p * P + x = q * P + y ↔ p = q ∧ x = y) := by
  rcases Nat.lt_trichotomy p q with h | h | h
  · have : (p + 1) * P ≤ q * P := Nat.mul_le_mul_right P h
    rw [Nat.add_mul] at this
    omega
  · subst h; omega
  · have : (q + 1) * P ≤ p * P := Nat.mul_le_mul_right P h
    rw [Nat.add_mul] at this
    omega
theorem key_code {c d : tC} (hc : CB c) (hd : CB d) : keyN c < keyN d ↔ codeN c < codeN d := by
  have k0 := pXM hc hd 0
  have k1 := pXM hc hd 1
  have k2 := pXM hc hd 2
  have k3 := pXM hc hd 3
  unfold keyN codeN
  rw [(lex2 (pX_lt hc 3) (pX_lt hd 3)).1, (lex2 (pX_lt hc 2) (pX_lt hd 2)).1, (lex2 (pX_lt hc 2) (pX_lt hd 2)).2, (lex2 (pX_lt hc 1) (pX_lt hd 1)).1, (lex2 (pX_lt hc 1) (pX_lt hd 1)).2, (lex2 (pM_lt hc 3) (pM_lt hd 3)).1, (lex2 (pM_lt hc 2) (pM_lt hd 2)).1, (lex2 (pM_lt hc 2) (pM_lt hd 2)).2, (lex2 (pM_lt hc 1) (pM_lt hd 1)).1, (lex2 (pM_lt hc 1) (pM_lt hd 1)).2, k0.1, k0.2, k1.1, k1.2, k2.1, k2.2, k3.1]
def cntB (f : Nat → Nat) (K : Nat) : Nat → Nat
  | 0 => 0
  | k + 1 => cntB f K k + (if f k < K then 1 else 0)
theorem cntB_s (f : Nat → Nat) (K k : Nat) : cntB f K (k + 1) = cntB f K k + (if f k < K then 1 else 0) := rfl
theorem cntB_le (f : Nat → Nat) (K : Nat) : ∀ k, cntB f K k ≤ k := by
  intro k
  induction k with
  | zero => exact Nat.le_refl _
  | succ k ih => rw [cntB_s]; split <;> omega
theorem cntB_lt {f : Nat → Nat} {K a : Nat} (ha : K ≤ f a) : ∀ k, a < k → cntB f K k < k := by
  intro k
  induction k with
  | zero => intro h; omega
  | succ k ih =>
    intro h
    rw [cntB_s]
    by_cases hak : a = k
    · subst hak
      rw [if_neg (by omega)]
      have := cntB_le f K a
      omega
    · have := ih (by omega)
      split <;> omega
theorem cntB_mono {f : Nat → Nat} {K K' : Nat} (hK : K ≤ K') : ∀ k, cntB f K k ≤ cntB f K' k := by
  intro k
  induction k with
  | zero => exact Nat.le_refl _
  | succ k ih =>
    rw [cntB_s, cntB_s]
    by_cases h : f k < K
    · rw [if_pos h, if_pos (by omega)]; omega
    · rw [if_neg h]; omega
theorem cntB_less {f : Nat → Nat} {K K' a : Nat} (h1 : K ≤ f a) (h2 : f a < K') : ∀ k, a < k → cntB f K k < cntB f K' k := by
  intro k
  induction k with
  | zero => intro h; omega
  | succ k ih =>
    intro h
    rw [cntB_s, cntB_s]
    by_cases hak : a = k
    · subst hak
      rw [if_neg (by omega), if_pos h2]
      have := cntB_mono (f := f) (show K ≤ K' by omega) a
      omega
    · have := ih (by omega)
      by_cases h : f k < K
      · rw [if_pos h, if_pos (by omega)]; omega
      · rw [if_neg h]; omega
theorem rank_id {R : Nat → Nat} {N : Nat} (h1 : ∀ i j, i < j → j < N → R i < R j) (h2 : ∀ i, i < N → R i < N) : ∀ i, i < N → R i = i := by
  have lo : ∀ i, i < N → i ≤ R i := by
    intro i
    induction i with
    | zero => intro _; exact Nat.zero_le _
    | succ i ih =>
      intro h
      have := ih (by omega)
      have := h1 i (i + 1) (by omega) h
      omega
  have hi : ∀ d i, i + d + 1 = N → R i + d + 1 ≤ N := by
    intro d
    induction d with
    | zero => intro i h; have := h2 i (by omega); omega
    | succ d ih =>
      intro i h
      have := ih (i + 1) (by omega)
      have := h1 i (i + 1) (by omega) (by omega)
      omega
  intro i h
  have := lo i h
  have := hi (N - 1 - i) i (by omega)
  omega
theorem c61 {g : tG_} {n : Nat} (hG : GOK g n) {mf : tMF} {N : Nat} {Cs : Nat → tC} (hE : ME g n mf N Cs) {b : Nat} (hb : b < N) (x1 x2 x3 : Int32) (x4 : Int64) : ∀ (m i : Nat), i ≤ N → N - i < m → f_X9_config_61 m mf x1 x2 x3 x4 (nI b) (nI (cntB (fun a => codeN (Cs a)) (codeN (Cs b)) i)) (nI i) = some (nI (cntB (fun a => codeN (Cs a)) (codeN (Cs b)) N), nI N) := by
  obtain ⟨e1, e2, e3, e4, e5, e6⟩ := hE
  intro m
  induction m with
  | zero => intro i _ h; omega
  | succ m ih =>
    intro i hi hm
    rw [f_X9_config_61, e3]
    by_cases he : i = N
    · subst he
      rw [if_pos (nI_le (Nat.le_refl _) (by omega))]
    · obtain ⟨r1, r2⟩ := e5 i (by omega)
      obtain ⟨s1, s2⟩ := e5 b hb
      have h1 := codeN_lt ((Rch_ok hG r1).cb hG)
      have h2 := codeN_lt ((Rch_ok hG s1).cb hG)
      rw [if_neg (nI_ge (by omega) (by omega)), if_pos (inb_t (by omega) (by omega)), if_pos (inb_t (by omega) (by omega)), nI_clamp (by omega), nI_clamp (by omega), r2, s2, nI_1, nI_1, show (0 : Int32) = nI 0 from rfl, nI_add]
      simp only [show (nI 0 ≤ lg_cmp (lN (codeN (Cs i))) (lN (codeN (Cs b)))) = (codeN (Cs b) ≤ codeN (Cs i)) from cmpge h1 h2]
      by_cases hle : codeN (Cs b) ≤ codeN (Cs i)
      · rw [if_pos hle]
        have := ih (i + 1) (by omega) (by omega)
        rw [cntB_s, if_neg (by omega)] at this
        exact this
      · rw [if_neg hle]
        have := ih (i + 1) (by omega) (by omega)
        rw [cntB_s, if_pos (by omega)] at this
        exact this
theorem c46 {g : tG_} {n : Nat} (hG : GOK g n) {mf : tMF} {N : Nat} {Cs : Nat → tC} (hE : ME g n mf N Cs) {bi i : Nat} (hi : i < N) (hN : N ≤ 600) (hr : ∀ b, b < N → (cntB (fun a => codeN (Cs a)) (codeN (Cs b)) N = i ↔ b = bi)) (x2 x3 : Int32) : ∀ (m k : Nat) (x4 : Int64), k ≤ N → N - k < m → (bi < k → x4 = lN (codeN (Cs bi))) → bi < N → f_X9_config_46 m mf (nI i) x2 x3 x4 (nI k) = some (lN (codeN (Cs bi)), nI N) := by
  have e3 := hE.2.2.1
  intro m
  induction m with
  | zero => intro k x4 _ h; omega
  | succ m ih =>
    intro k x4 hk hm hx hb
    rw [f_X9_config_46, e3]
    by_cases he : k = N
    · subst he
      rw [if_pos (nI_le (Nat.le_refl _) (by omega)), hx hb]
    · have hc := c61 hG hE (show k < N by omega) (nI i) x2 x3 x4 100000 0 (by omega) (by omega)
      have hc' : f_X9_config_61 100000 mf (nI i) x2 x3 x4 (nI k) 0 0 = _ := hc
      have hle := cntB_le (fun a => codeN (Cs a)) (codeN (Cs k)) N
      rw [if_neg (nI_ge (by omega) (by omega)), hc', Option.bind_some, nI_1]
      simp only [nI_eq (show cntB (fun a => codeN (Cs a)) (codeN (Cs k)) N < 2 ^ 31 by omega) (show i < 2 ^ 31 by omega)]
      by_cases hq : k = bi
      · rw [if_pos ((hr k (by omega)).mpr hq), if_pos (inb_t (by omega) (by omega)), nI_clamp (by omega), (hE.2.2.2.2.1 k (by omega)).2, hq]
        exact ih (bi + 1) _ (by omega) (by omega) (fun _ => rfl) hb
      · rw [if_neg (fun z => hq ((hr k (by omega)).mp z))]
        exact ih (k + 1) x4 (by omega) (by omega) (fun z => hx (by omega)) hb
theorem confM {g : tG_} {n : Nat} (hG : GOK g n) {re : tRE} {N : Nat} {Ds : Nat → tC} {ds ws o : Nat → Nat} {mf : tMF} {Cs : Nat → tC} (hT : XT g n re N Ds ds ws) (hO : XO g n re.1 re.2.1 N Ds o) (hM : MTs g n mf N Cs) {i : Nat} (hi : i < N) (x2 x3 : Int32) : f_X9_config_46 100000 mf (nI i) x2 x3 0 0 = some (lN (codeN (Ds (o i))), nI N) := by
  obtain ⟨-, hN6, l3, l4⟩ := link hT hM
  obtain ⟨o1, o2, o3, o4, o5, o6⟩ := hO
  have hc : ∀ a, a < N → CB (Ds a) := fun a ha => (Rch_ok hG (o2 a ha).1).cb hG
  have hcC : ∀ a, a < N → CB (Cs a) ∧ Z4 (Cs a) := fun a ha => ⟨(Rch_ok hG (hM.1.2.2.2.2.1 a ha).1).cb hG, (Rch_ok hG (hM.1.2.2.2.2.1 a ha).1).z hG⟩
  have hR : ∀ j, j < N → cntB (fun a => codeN (Cs a)) (codeN (Ds (o j))) N = j := rank_id (R := fun j => cntB (fun a => codeN (Cs a)) (codeN (Ds (o j))) N) (fun p q hpq hq => by
    have h1 := o5 p q hpq hq
    rw [key_code (hc _ (o4 p (by omega)).2) (hc _ (o4 q hq).2)] at h1
    obtain ⟨b, b1, b2', -⟩ := l3 (o p) (o4 p (by omega)).2
    exact cntB_less (f := fun a => codeN (Cs a)) (a := b) (by rw [b2']; exact Nat.le_refl _) (by rw [b2']; exact h1) N b1) (fun p hp => by
    obtain ⟨b, b1, b2', -⟩ := l3 (o p) (o4 p hp).2
    exact cntB_lt (f := fun a => codeN (Cs a)) (a := b) (by rw [b2']; exact Nat.le_refl _) N b1)
  obtain ⟨bi, b1, b2', -⟩ := l3 (o i) (o4 i hi).2
  have := c46 hG hM.1 hi hN6 (bi := bi) (fun b hb => ⟨fun q => Classical.byContradiction fun hne => by
    have hRi := hR i hi
    rw [← b2'] at hRi
    have hcne : codeN (Cs b) ≠ codeN (Cs bi) := fun z => hne (hM.1.2.2.2.2.2 b bi hb b1 (code_inj (hcC b hb).1 (hcC b hb).2 (hcC bi b1).1 (hcC bi b1).2 z))
    rcases Nat.lt_or_gt_of_ne hcne with h | h
    · have := cntB_less (f := fun a => codeN (Cs a)) (a := b) (Nat.le_refl (codeN (Cs b))) h N hb
      omega
    · have := cntB_less (f := fun a => codeN (Cs a)) (a := bi) (Nat.le_refl (codeN (Cs bi))) h N b1
      omega, fun q => by rw [q, b2']; exact hR i hi⟩) x2 x3 100000 0 0 (by omega) (by omega) (fun q => by omega) b1
  rw [b2'] at this
  exact this
theorem ix2 (a : Int32) : (f_X9_in a 0 2 = some 0 ∧ (a < 0 ∨ ¬ a ≤ 2)) ∨ (f_X9_in a 0 2 = some 1 ∧ ¬ a < 0 ∧ a ≤ 2 ∧ (a = 0 ∨ a = 1 ∨ a = 2)) := by
  unfold f_X9_in
  by_cases h1 : a < 0
  · left; rw [if_pos h1]; exact ⟨rfl, Or.inl h1⟩
  · rw [if_neg h1]
    by_cases h2 : 2 < a
    · left; rw [if_pos h2]; exact ⟨rfl, Or.inr (fun q => by rw [i_le] at q; rw [i_lt] at h2; omega)⟩
    · right
      rw [if_neg h2]
      have hle : a ≤ 2 := by rw [i_lt] at h2; rw [i_le]; omega
      refine ⟨rfl, h1, hle, ?_⟩
      rw [i_lt] at h1 h2
      have e0 : (0 : Int32).toInt = 0 := rfl
      have e2 : (2 : Int32).toInt = 2 := rfl
      have e1 : (1 : Int32).toInt = 1 := rfl
      rw [i_eq, i_eq, i_eq]
      omega
theorem pp_config {g : tG_} {n : Nat} (hG : GOK g n) {c mn : tC} (hz : Z4 c) (hz' : Z4 mn) {re : tRE} {mf : tMF} (hR : re.2.2.2.2.2.2.2.2.2.1 = 0 ∨ KnX g n re) (hF : RelM g n mf) (a1 a2 a3 : Int32) : ∃ (x : Int32 × tC × tRE) (y : Int32 × tMN × tMF), f_X8_config g c re a1 a2 a3 = some x ∧ f_X9_config g mn mf a1 a2 a3 = some y ∧ x.1 = y.1 ∧ Z4 x.2.1 ∧ Z4 y.2.1 ∧ (KnX g n re → x.2.2 = re) ∧ (x.2.2 = re ∨ KnX g n x.2.2) ∧ RelM g n y.2.2 := by
  obtain ⟨c', re', mn', mf', b1, b2', b3, b4, b5, b6⟩ := askAll hG hz hz' hR hF
  -- the reference refuses whenever the glass or what isn't there
  have refuse : (f_X9_isGlass g a2 = some 0 ∨ f_X9_in a3 0 2 = some 0) → ∃ y : Int32 × tMN × tMF, f_X9_config g mn mf a1 a2 a3 = some y ∧ (-1 : Int32) = y.1 ∧ Z4 y.2.1 ∧ RelM g n y.2.2 := fun hq => by
    unfold f_X9_config
    rcases b6 with ⟨-, d2⟩ | ⟨-, d2, -⟩
    · rw [d2, Option.bind_some, if_pos rfl]
      exact ⟨_, rfl, rfl, b2', b5⟩
    · rw [d2, Option.bind_some, if_neg (show ¬ (1 : Int32) = 0 by decide)]
      have hin : f_X9_in a1 0 (mf'.2.2.1 - 1) = some 0 ∨ f_X9_in a1 0 (mf'.2.2.1 - 1) = some 1 := by
        unfold f_X9_in; split
        · exact Or.inl rfl
        · split
          · exact Or.inl rfl
          · exact Or.inr rfl
      rcases hin with hin | hin
      · simp only [hin, Option.bind_some, if_true]
        exact ⟨_, rfl, rfl, b2', b5⟩
      · simp only [hin, Option.bind_some]
        rw [if_neg (show ¬ (1 : Int32) = 0 by decide)]
        rcases isGl hG a2 with ⟨w, w1, w2, w3, w4⟩ | ⟨w3, w4⟩
        · rcases hq with hq | hq
          · rw [w3] at hq; cases hq
          · rw [w3, Option.bind_some, if_neg (show ¬ (1 : Int32) = 0 by decide), hq, Option.bind_some, if_pos rfl]
            exact ⟨_, rfl, rfl, b2', b5⟩
        · rw [w3, Option.bind_some, if_pos rfl]
          exact ⟨_, rfl, rfl, b2', b5⟩
  unfold f_X8_config
  rcases isGl hG a2 with ⟨w, w1, w2, w3, w4⟩ | ⟨w3, w4⟩
  case inr =>
    obtain ⟨y, y1, y2, y3, y4⟩ := refuse (Or.inl w3)
    rw [w4, Option.bind_some, if_pos rfl]
    exact ⟨_, y, rfl, y1, y2, hz, y3, fun _ => rfl, Or.inl rfl, y4⟩
  rw [w4, Option.bind_some, if_neg (show ¬ (1 : Int32) = 0 by decide)]
  rcases ix2 a3 with ⟨v1, v2⟩ | ⟨v1, v2, v3, v4⟩
  · obtain ⟨y, y1, y2, y3, y4⟩ := refuse (Or.inr v1)
    rcases v2 with v2 | v2
    · rw [if_pos v2]
      exact ⟨_, y, rfl, y1, y2, hz, y3, fun _ => rfl, Or.inl rfl, y4⟩
    · by_cases v3 : a3 < 0
      · rw [if_pos v3]
        exact ⟨_, y, rfl, y1, y2, hz, y3, fun _ => rfl, Or.inl rfl, y4⟩
      · rw [if_neg v3, if_neg v2]
        exact ⟨_, y, rfl, y1, y2, hz, y3, fun _ => rfl, Or.inl rfl, y4⟩
  · rw [if_neg v2, if_pos v3]
    unfold f_X9_config
    rcases b6 with ⟨d1, d2⟩ | ⟨d1, d2, N, Ds, ds, ws, Cs, hT, hM⟩
    · rw [d1, d2, Option.bind_some, Option.bind_some, if_neg (show ¬ (1 : Int32) = 0 by decide), if_pos rfl]
      exact ⟨_, _, rfl, rfl, rfl, b1, b2', b3, Or.inr b4, b5⟩
    · rw [d1, d2, Option.bind_some, Option.bind_some, if_pos rfl, if_neg (show ¬ (1 : Int32) = 0 by decide)]
      have hN6 := (link hT hM).2.1
      have hN1 := hT.2.2.1.1
      obtain ⟨o, hO⟩ := hT.1
      have e3 := hM.1.2.2.1
      have hsub : nI N - (1 : Int32) = nI (N - 1) := pk_sub (b := 1) (by omega)
      simp only [e3, hsub]
      unfold f_X6_count
      rw [Option.bind_some, hT.2.1]
      rcases pk_ix a1 (show N < 2 ^ 31 by omega) with h1 | h1 | ⟨i, i1, i2⟩
      · rw [if_pos h1, in_f (Or.inl h1), Option.bind_some, if_pos rfl]
        exact ⟨_, _, rfl, rfl, rfl, b1, b2', b3, Or.inr b4, b5⟩
      · have hz1 : ¬ a1 < nI N := by rw [i_le] at h1; rw [i_lt]; omega
        have hz2 : nI (N - 1) < a1 := by
          rw [i_le, tI_nI (by omega)] at h1; rw [i_lt, tI_nI (by omega)]; omega
        have hz0 : ¬ a1 < 0 := by
          rw [i_le, tI_nI (by omega)] at h1; rw [i_lt]
          have e0 : (0 : Int32).toInt = 0 := rfl
          omega
        rw [if_neg hz0, if_neg hz1, in_f (Or.inr hz2), Option.bind_some, if_pos rfl]
        exact ⟨_, _, rfl, rfl, rfl, b1, b2', b3, Or.inr b4, b5⟩
      · subst i2 w2
        obtain ⟨p1, p2⟩ := hO.2.2.2.1 i i1
        obtain ⟨q1, q2⟩ := hO.2.1 (o i) p2
        have hC := Rch_ok hG q1
        have hcb := hC.cb hG
        have hn4 := hG.1
        rw [if_neg (nI_pos (by omega)), if_pos (nI_lt i1 (by omega)), in_t (nI_pos' (by omega)) (nI_le (by omega) (by omega)), Option.bind_some, if_neg (show ¬ (1 : Int32) = 0 by decide), w3, Option.bind_some, if_neg (show ¬ (1 : Int32) = 0 by decide), v1, Option.bind_some, if_neg (show ¬ (1 : Int32) = 0 by decide), confM hG hT hO hM i1, Option.bind_some]
        unfold f_X6_keyInOrder
        rw [if_pos (inb_t (by omega) (by omega)), nI_clamp (show i < 2 ^ 31 by omega), p1, if_pos (inb_t (by omega) (by omega)), nI_clamp (show o i < 2 ^ 31 by omega), q2, Option.bind_some, takeX hcb (hC.z hG) b1, Option.bind_some]
        unfold f_X2_part
        rw [nI_clamp (show w < 2 ^ 31 by omega), if_pos (inb_t (by omega) (by omega)), if_pos (inb_t (by omega) (by omega))]
        rcases v4 with v4 | v4 | v4
        · subst v4
          rw [if_pos rfl, if_pos rfl, abM hcb (by omega), Option.bind_some, Option.bind_some]
          exact ⟨_, _, rfl, rfl, rfl, hC.z hG, b2', b3, Or.inr b4, b5⟩
        · subst v4
          rw [if_neg (show ¬ (1 : Int32) = 0 by decide), if_neg (show ¬ (1 : Int32) = 0 by decide), if_pos rfl, if_pos rfl, laM hcb (by omega), Option.bind_some]
          rcases (hC.1 w w1).2.1 with hl | hl
          · rw [hl, if_pos rfl, Option.bind_some]
            exact ⟨_, _, rfl, rfl, rfl, hC.z hG, b2', b3, Or.inr b4, b5⟩
          · rw [hl, if_neg (show ¬ (1 : Int32) = 0 by decide), Option.bind_some]
            exact ⟨_, _, rfl, rfl, rfl, hC.z hG, b2', b3, Or.inr b4, b5⟩
        · subst v4
          rw [if_neg (show ¬ (2 : Int32) = 0 by decide), if_neg (show ¬ (2 : Int32) = 0 by decide), if_neg (show ¬ (2 : Int32) = 1 by decide), if_neg (show ¬ (2 : Int32) = 1 by decide), waM hcb (by omega), if_pos (inb_t (by omega) (by omega)), Option.bind_some, Option.bind_some]
          exact ⟨_, _, rfl, rfl, rfl, hC.z hG, b2', b3, Or.inr b4, b5⟩
