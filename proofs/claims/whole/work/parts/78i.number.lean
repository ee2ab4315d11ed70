/-! pure: the class's numbers of configs -/
theorem cmpge {a b : Nat} (ha : a < 2 ^ 63) (hb : b < 2 ^ 63) : (0 ≤ lg_cmp (lN a) (lN b)) = (b ≤ a) := propext ((lg_cmp_ge _ _).trans (pk_lLE hb ha))
def XO (g : tG_) (n : Nat) (keys : Nat → Int64) (ord : Nat → Int32) (N : Nat) (Ds : Nat → tC) (o : Nat → Nat) : Prop :=
  N ≤ 600 ∧ (∀ a, a < N → Rch g n (Ds a) ∧ keys a = lN (keyN (Ds a))) ∧ (∀ a b, a < N → b < N → Ds a = Ds b → a = b) ∧ (∀ i, i < N → ord i = nI (o i) ∧ o i < N) ∧ (∀ i j, i < j → j < N → keyN (Ds (o i)) < keyN (Ds (o j))) ∧ ∀ a, a < N → ∃ i, i < N ∧ o i = a
theorem cut_at (f : Nat → Nat) (N k : Nat) (h : ∀ i j, i < j → j < N → f i < f j) : ∃ P, P ≤ N ∧ ∀ i, i < N → (f i < k ↔ i < P) := by
  induction N with
  | zero => exact ⟨0, Nat.le_refl _, fun i hi => by omega⟩
  | succ N ih =>
    obtain ⟨P, p1, p2⟩ := ih (fun i j hij hj => h i j hij (by omega))
    by_cases hN : f N < k
    · refine ⟨N + 1, Nat.le_refl _, fun i hi => ⟨fun _ => hi, fun _ => ?_⟩⟩
      by_cases hiN : i = N
      · subst hiN; exact hN
      · have := h i N (by omega) (by omega); omega
    · refine ⟨P, by omega, fun i hi => ?_⟩
      by_cases hiN : i = N
      · subst hiN; exact ⟨fun q => absurd q hN, fun q => by omega⟩
      · exact p2 i (by omega)
theorem place_loop {g : tG_} {n : Nat} (hG : GOK g n) {re : tRE} {N : Nat} {Ds : Nat → tC} {o : Nat → Nat} (hO : XO g n re.1 re.2.1 N Ds o) (hc : re.2.2.2.2.2.2.2.1 = nI N) {k P : Nat} (hk : k < 2 ^ 63) (hP : P ≤ N) (hcut : ∀ i, i < N → (keyN (Ds (o i)) < k ↔ i < P)) : ∀ (e m p : Nat), e ≤ 10 → p ≤ P → P < p + 2 ^ e → e < m → f_X6_placeOf_7 m re (lN k) (nI p) (nI (2 ^ e / 2)) = some (nI P, nI 0) := by
  obtain ⟨o1, o2, o3, o4, o5, o6⟩ := hO
  intro e
  induction e with
  | zero =>
    intro m p _ hp1 hp2 hm
    obtain ⟨m, rfl⟩ : ∃ m', m = m' + 1 := ⟨m - 1, by omega⟩
    rw [f_X6_placeOf_7, if_pos (show nI (2 ^ 0 / 2) ≤ 0 by decide), show p = P by rw [Nat.pow_zero] at hp2; omega]
  | succ e ih =>
    intro m p he hp1 hp2 hm
    obtain ⟨m, rfl⟩ : ∃ m', m = m' + 1 := ⟨m - 1, by omega⟩
    have h2 : 2 ^ (e + 1) = 2 * 2 ^ e := by rw [Nat.pow_succ]; omega
    have hpw : 1 ≤ 2 ^ e := Nat.one_le_two_pow
    have hpw2 : 2 ^ e ≤ 2 ^ 9 := Nat.pow_le_pow_right (by decide) (by omega)
    have hs : 2 ^ (e + 1) / 2 = 2 ^ e := by omega
    rw [hs, f_X6_placeOf_7, if_neg (show ¬ nI (2 ^ e) ≤ 0 by rw [nI_le0 (by omega)]; omega), hc, nI_add]
    have hd : nI (2 ^ e) / (2 : Int32) = nI (2 ^ e / 2) := pk_div (d := 2) (by omega) (by omega) (by omega)
    rw [hd]
    have stay : P < p + 2 ^ e → f_X6_placeOf_7 m re (lN k) (nI p) (nI (2 ^ e / 2)) = some (nI P, nI 0) := fun q => ih m p (by omega) hp1 q (by omega)
    by_cases hl : N < p + 2 ^ e
    · rw [if_pos (nI_lt hl (by omega))]
      exact stay (by omega)
    · rw [if_neg (nI_nlt (by omega) (by omega))]
      have hix : nI (p + 2 ^ e) - (1 : Int32) = nI (p + 2 ^ e - 1) := pk_sub (b := 1) (by omega)
      obtain ⟨q1, q2⟩ := o4 (p + 2 ^ e - 1) (by omega)
      obtain ⟨q3, q4⟩ := o2 (o (p + 2 ^ e - 1)) q2
      have hkl := keyN_lt ((Rch_ok hG q3).cb hG)
      simp only [hix, inb_t (show p + 2 ^ e - 1 < 2 ^ 31 by omega) (show p + 2 ^ e - 1 < 600 by omega), nI_clamp (show p + 2 ^ e - 1 < 2 ^ 31 by omega), q1, inb_t (show o (p + 2 ^ e - 1) < 2 ^ 31 by omega) (show o (p + 2 ^ e - 1) < 600 by omega), nI_clamp (show o (p + 2 ^ e - 1) < 2 ^ 31 by omega), if_true, q4, cmpge (show keyN (Ds (o (p + 2 ^ e - 1))) < 2 ^ 63 by omega) hk]
      have hcc := hcut (p + 2 ^ e - 1) (by omega)
      by_cases hge : k ≤ keyN (Ds (o (p + 2 ^ e - 1)))
      · rw [if_pos hge]
        exact stay (by
          have : ¬ p + 2 ^ e - 1 < P := fun q => by have := hcc.mpr q; omega
          omega)
      · rw [if_neg hge]
        have : p + 2 ^ e - 1 < P := hcc.mp (by omega)
        exact ih m (p + 2 ^ e) (by omega) (by omega) (by omega) (by omega)
theorem placeX {g : tG_} {n : Nat} (hG : GOK g n) {re : tRE} {N : Nat} {Ds : Nat → tC} {o : Nat → Nat} (hO : XO g n re.1 re.2.1 N Ds o) (hc : re.2.2.2.2.2.2.2.1 = nI N) {k P : Nat} (hk : k < 2 ^ 63) (hP : P ≤ N) (hcut : ∀ i, i < N → (keyN (Ds (o i)) < k ↔ i < P)) : f_X6_placeOf re (lN k) = some (nI P) := by
  unfold f_X6_placeOf
  have := hO.1
  have h1 := place_loop hG hO hc hk hP hcut 10 100000 0 (by omega) (by omega) (by omega) (by omega)
  have h1' : f_X6_placeOf_7 100000 re (lN k) 0 512 = _ := h1
  rw [h1']
  rfl
/-- the class's state with a new config behind the others -/
abbrev addX (re : tRE) (N P : Nat) (k : Int64) (mo : Int32) : tRE := (vp_updL re.1 N k, upd (va_cpy re.2.1 re.2.1 P (P + 1) (N - P)) P (nI N), upd re.2.2.1 N mo, upd re.2.2.2.1 N 0, re.2.2.2.2.1, re.2.2.2.2.2.1, re.2.2.2.2.2.2.1, nI (N + 1), re.2.2.2.2.2.2.2.2.1, re.2.2.2.2.2.2.2.2.2.1, re.2.2.2.2.2.2.2.2.2.2)
abbrev setE (re : tRE) (b : Nat) (mo : Int32) : tRE := (re.1, re.2.1, upd re.2.2.1 b (if mo < re.2.2.1 b then mo else re.2.2.1 b), re.2.2.2.1, re.2.2.2.2.1, re.2.2.2.2.2.1, re.2.2.2.2.2.2.1, re.2.2.2.2.2.2.2.1, re.2.2.2.2.2.2.2.2.1, re.2.2.2.2.2.2.2.2.2.1, re.2.2.2.2.2.2.2.2.2.2)
theorem XO_add {g : tG_} {n : Nat} (hG : GOK g n) {keys : Nat → Int64} {ord : Nat → Int32} {N : Nat} {Ds : Nat → tC} {o : Nat → Nat} (hO : XO g n keys ord N Ds o) {d : tC} (hd : Rch g n d) (hnew : ∀ a, a < N → Ds a ≠ d) (hN : N < 600) {P : Nat} (hP : P ≤ N) (hcut : ∀ i, i < N → (keyN (Ds (o i)) < keyN d ↔ i < P)) : XO g n (vp_updL keys N (lN (keyN d))) (upd (va_cpy ord ord P (P + 1) (N - P)) P (nI N)) (N + 1) (va_up Ds N d) (fun i => if i < P then o i else if i = P then N else o (i - 1)) := by
  obtain ⟨o1, o2, o3, o4, o5, o6⟩ := hO
  have hdk := Rch_ok hG hd
  have hk : ∀ i, i < N → keyN (Ds (o i)) ≠ keyN d := by
    intro i hi q
    obtain ⟨-, q2⟩ := o4 i hi
    have hc := Rch_ok hG (o2 (o i) q2).1
    exact hnew (o i) q2 (key_inj (hc.cb hG) (hc.z hG) (hdk.cb hG) (hdk.z hG) q)
  refine ⟨by omega, fun a ha => ?_, fun a b ha hb hab => ?_, fun i hi => ?_, fun i j hij hj => ?_, fun a ha => ?_⟩
  · by_cases haN : a = N
    · subst haN; rw [vup_s, updL_s]; exact ⟨hd, rfl⟩
    · rw [vup_n haN, updL_n haN]; exact o2 a (by omega)
  · by_cases haN : a = N <;> by_cases hbN : b = N
    · omega
    · subst haN; rw [vup_s, vup_n hbN] at hab; exact absurd hab.symm (hnew b (by omega))
    · subst hbN; rw [vup_s, vup_n haN] at hab; exact absurd hab (hnew a (by omega))
    · rw [vup_n haN, vup_n hbN] at hab; exact o3 a b (by omega) (by omega) hab
  · dsimp only
    by_cases h1 : i < P
    · rw [if_pos h1, upd_n (by omega), pk_cpy_out (by omega)]
      have := o4 i (by omega)
      exact ⟨this.1, by omega⟩
    · rw [if_neg h1]
      by_cases h2 : i = P
      · subst h2; rw [if_pos rfl, upd_s]; exact ⟨rfl, by omega⟩
      · rw [if_neg h2, upd_n h2, pk_cpy_in (by omega) (by omega), show P + (i - (P + 1)) = i - 1 by omega]
        have := o4 (i - 1) (by omega)
        exact ⟨this.1, by omega⟩
  · dsimp only
    have oN : ∀ x, x < N → o x ≠ N := fun x hx => by have := (o4 x hx).2; omega
    by_cases h1 : j < P
    · rw [if_pos h1, if_pos (show i < P by omega), vup_n (oN j (by omega)), vup_n (oN i (by omega))]
      exact o5 i j hij (by omega)
    · by_cases h2 : j = P
      · subst h2
        rw [if_neg (Nat.lt_irrefl _), if_pos rfl, if_pos hij, vup_s, vup_n (oN i (by omega))]
        exact (hcut i (by omega)).mpr hij
      · rw [if_neg h1, if_neg h2]
        have hjm := oN (j - 1) (by omega)
        rw [vup_n hjm]
        by_cases h3 : i < P
        · rw [if_pos h3, vup_n (oN i (by omega))]
          exact o5 i (j - 1) (by omega) (by omega)
        · by_cases h4 : i = P
          · subst h4
            rw [if_neg (Nat.lt_irrefl _), if_pos rfl, vup_s]
            have c1 := hcut (j - 1) (by omega)
            have c2 := hk (j - 1) (by omega)
            have : ¬ keyN (Ds (o (j - 1))) < keyN d := fun q => by have := c1.mp q; omega
            omega
          · rw [if_neg h3, if_neg h4, vup_n (oN (i - 1) (by omega))]
            exact o5 (i - 1) (j - 1) (by omega) (by omega)
  · by_cases haN : a = N
    · subst haN; exact ⟨P, by omega, by dsimp only; rw [if_neg (Nat.lt_irrefl _), if_pos rfl]⟩
    · obtain ⟨i, i1, i2⟩ := o6 a (by omega)
      by_cases h1 : i < P
      · exact ⟨i, by omega, by dsimp only; rw [if_pos h1]; exact i2⟩
      · exact ⟨i + 1, by omega, by dsimp only; rw [if_neg (show ¬ i + 1 < P by omega), if_neg (show ¬ i + 1 = P by omega), Nat.add_sub_cancel]; exact i2⟩
theorem numX {g : tG_} {n : Nat} (hG : GOK g n) {re : tRE} {N : Nat} {Ds : Nat → tC} {o : Nat → Nat} (hO : XO g n re.1 re.2.1 N Ds o) (hc : re.2.2.2.2.2.2.2.1 = nI N) {d : tC} (hd : Rch g n d) (mo : Int32) : (∃ b, b < N ∧ Ds b = d ∧ f_X6_numberOf re (lN (keyN d)) mo = some (nI b, setE re b mo)) ∨ ((∀ a, a < N → Ds a ≠ d) ∧ ((N = 600 ∧ f_X6_numberOf re (lN (keyN d)) mo = some (-1, re)) ∨ (N < 600 ∧ ∃ P o', f_X6_numberOf re (lN (keyN d)) mo = some (nI N, addX re N P (lN (keyN d)) mo) ∧ XO g n (addX re N P (lN (keyN d)) mo).1 (addX re N P (lN (keyN d)) mo).2.1 (N + 1) (va_up Ds N d) o'))) := by
  have hO' := hO
  obtain ⟨o1, o2, o3, o4, o5, o6⟩ := hO
  have hdk := Rch_ok hG hd
  have hkd := keyN_lt (hdk.cb hG)
  obtain ⟨P, hP, hcut⟩ := cut_at (fun i => keyN (Ds (o i))) N (keyN d) o5
  have hadd : (∀ a, a < N → Ds a ≠ d) → N < 600 → XO g n (addX re N P (lN (keyN d)) mo).1 (addX re N P (lN (keyN d)) mo).2.1 (N + 1) (va_up Ds N d) (fun i => if i < P then o i else if i = P then N else o (i - 1)) := fun h1 h2 => XO_add hG hO' hd h1 h2 hP hcut
  have es : nI (N + 1) - (1 : Int32) = nI N := pk_sub (b := 1) (a := N + 1) (by omega)
  have en : nI N - nI P = nI (N - P) := pk_sub hP
  have eok : N < 600 → acok (nI P) (nI (P + 1)) (nI (N - P)) 600 600 = true := fun h6 => by
    refine decide_eq_true ⟨nI_pos (by omega), nI_pos (by omega), nI_pos (by omega), ?_, ?_⟩
    · rw [nI_clamp (by omega), nI_clamp (by omega)]; omega
    · rw [nI_clamp (by omega), nI_clamp (by omega)]; omega
  have elt : (nI N < (600 : Int32)) = (N < 600) := propext (nI_ltI (b := 600) (by omega) (by omega))
  unfold f_X6_numberOf
  rw [placeX hG hO' hc (by omega) hP hcut]
  simp only [Option.bind_some, hc, elt, nI_1, en, es, nar0]
  have absent : (∀ a, a < N → Ds a ≠ d) → (if N < 600 then (if acok (nI P) (nI (P + 1)) (nI (N - P)) 600 600 = true then (if inb (nI P) 600 = true then (if inb (nI N) 600 = true then (if inb (nI N) 600 = true then (if inb (nI N) 600 = true then some (nI N, ((vp_updL re.1 (nI N).toNatClampNeg (lN (keyN d))), (upd (va_cpy re.2.1 re.2.1 (nI P).toNatClampNeg (nI (P + 1)).toNatClampNeg (nI (N - P)).toNatClampNeg) (nI P).toNatClampNeg (nI N)), (upd re.2.2.1 (nI N).toNatClampNeg mo), (upd re.2.2.2.1 (nI N).toNatClampNeg 0), re.2.2.2.2.1, re.2.2.2.2.2.1, re.2.2.2.2.2.2.1, nI (N + 1), re.2.2.2.2.2.2.2.2.1, re.2.2.2.2.2.2.2.2.2.1, re.2.2.2.2.2.2.2.2.2.2)) else none) else none) else none) else none) else none) else some ((-1 : Int32), re)) = (if N < 600 then some (nI N, addX re N P (lN (keyN d)) mo) else some (-1, re)) := fun _ => by
    by_cases h6 : N < 600
    · rw [if_pos h6, if_pos h6]
      simp only [eok h6, inb_t (show P < 2 ^ 31 by omega) (show P < 600 by omega), inb_t (show N < 2 ^ 31 by omega) h6, nI_clamp (show P < 2 ^ 31 by omega), nI_clamp (show P + 1 < 2 ^ 31 by omega), nI_clamp (show N - P < 2 ^ 31 by omega), nI_clamp (show N < 2 ^ 31 by omega), if_true]
    · rw [if_neg h6, if_neg h6]
  have concl : (∀ a, a < N → Ds a ≠ d) → ((N = 600 ∧ (if N < 600 then some (nI N, addX re N P (lN (keyN d)) mo) else some (-1, re)) = some (-1, re)) ∨ (N < 600 ∧ ∃ P' o', (if N < 600 then some (nI N, addX re N P (lN (keyN d)) mo) else some (-1, re)) = some (nI N, addX re N P' (lN (keyN d)) mo) ∧ XO g n (addX re N P' (lN (keyN d)) mo).1 (addX re N P' (lN (keyN d)) mo).2.1 (N + 1) (va_up Ds N d) o')) := fun hno => by
    by_cases h6 : N < 600
    · right; rw [if_pos h6]; exact ⟨h6, P, _, rfl, hadd hno h6⟩
    · left; rw [if_neg h6]; exact ⟨by omega, rfl⟩
  by_cases hPN : P = N
  · right
    have hno : ∀ a, a < N → Ds a ≠ d := by
      intro a ha q
      obtain ⟨i, i1, i2⟩ := o6 a ha
      have := (hcut i i1).mpr (by omega)
      rw [i2, q] at this
      omega
    rw [if_pos (nI_le (by omega) (by omega)), absent hno]
    exact ⟨hno, concl hno⟩
  · obtain ⟨q1, q2⟩ := o4 P (by omega)
    obtain ⟨q3, q4⟩ := o2 (o P) q2
    have hoP := Rch_ok hG q3
    have hkP := keyN_lt (hoP.cb hG)
    rw [if_neg (nI_ge (by omega) (by omega))]
    simp only [inb_t (show P < 2 ^ 31 by omega) (show P < 600 by omega), nI_clamp (show P < 2 ^ 31 by omega), q1, inb_t (show o P < 2 ^ 31 by omega) (show o P < 600 by omega), nI_clamp (show o P < 2 ^ 31 by omega), if_true, q4, cmp0 (show keyN (Ds (o P)) < 2 ^ 63 by omega) (show keyN d < 2 ^ 63 by omega)]
    by_cases hkk : keyN (Ds (o P)) = keyN d
    · left
      rw [if_pos hkk]
      exact ⟨o P, q2, key_inj (hoP.cb hG) (hoP.z hG) (hdk.cb hG) (hdk.z hG) hkk, by rw [← hc]⟩
    · right
      rw [if_neg hkk]
      have hno : ∀ a, a < N → Ds a ≠ d := by
        intro a ha q
        obtain ⟨i, i1, i2⟩ := o6 a ha
        have ci := hcut i i1
        rw [i2, q] at ci
        have hiP : P ≤ i := Nat.le_of_not_lt (fun z => Nat.lt_irrefl _ (ci.mpr z))
        by_cases hie : i = P
        · subst hie; rw [i2, q] at hkk; exact hkk rfl
        · have h5 := o5 P i (by omega) i1
          have cP := hcut P (by omega)
          rw [i2, q] at h5
          exact Nat.lt_irrefl _ (cP.mp h5)
      have ab := absent hno
      simp only [inb_t (show P < 2 ^ 31 by omega) (show P < 600 by omega), nI_clamp (show P < 2 ^ 31 by omega), if_true] at ab
      rw [ab]
      exact ⟨hno, concl hno⟩
