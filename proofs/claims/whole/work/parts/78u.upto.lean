/-! pure: spans -/
theorem mkC : mk8 85 8 = 6148914691236517205 ∧ mk8 51 8 = 3689348814741910323 ∧ mk8 15 8 = 1085102592571150095 := by decide +kernel
theorem sK_n (k : Int32) (j : Nat) (h : ((sK k).toBitVec % 64).toNat = j) {x : Nat} (hx : x < 2 ^ 64) : ((lN x).toUInt64 >>> sK k).toInt64 = lN (x / 2 ^ j) := ush hx h
theorem bitC {x : Nat} (hx : x < 2 ^ 63) : f_J13_bitCount_95d88 (lN x) = some (nI (cb x 64)) := by
  rw [bc_eq]
  have c1 : (6148914691236517205 : Int64) = lN 6148914691236517205 := rfl
  have c2 : (3689348814741910323 : Int64) = lN 3689348814741910323 := rfl
  have c3 : (1085102592571150095 : Int64) = lN 1085102592571150095 := rfl
  have d1 : x / 2 ≤ x := Nat.div_le_self _ _
  have a1 : e1 (lN x) = lN (s1 8 x) := by
    unfold e1 s1
    rw [sK_n 1 1 (by decide) (by omega), c1, Nat.pow_one, wb_and (by omega) (by decide), mkC.1, lN_sub (Nat.le_trans Nat.and_le_left d1)]
  have l1 : s1 8 x ≤ x := Nat.sub_le _ _
  have d2 : s1 8 x / 2 ^ 2 ≤ s1 8 x := Nat.div_le_self _ _
  have a2 : e2 (lN (s1 8 x)) = lN (s2 8 (s1 8 x)) := by
    unfold e2
    rw [sK_n 2 2 (by decide) (by omega), c2, wb_and (by omega) (by decide), wb_and (by omega) (by decide), lN_add]
    unfold s2
    rw [mkC.2.1]
  have l2 : s2 8 (s1 8 x) ≤ 2 * 3689348814741910323 := by
    unfold s2
    rw [mkC.2.1]
    have h1 : (s1 8 x &&& 3689348814741910323) ≤ 3689348814741910323 := Nat.and_le_right
    have h2 : (s1 8 x / 4 &&& 3689348814741910323) ≤ 3689348814741910323 := Nat.and_le_right
    omega
  have d3 : s2 8 (s1 8 x) / 2 ^ 4 = s2 8 (s1 8 x) / 16 := rfl
  have a3 : e3 (lN (s2 8 (s1 8 x))) = lN (s3 8 (s2 8 (s1 8 x))) := by
    unfold e3
    rw [sK_n 4 4 (by decide) (by omega), c3, d3, lN_add, wb_and (by omega) (by decide)]
    unfold s3
    rw [mkC.2.2]
  have l3 : s3 8 (s2 8 (s1 8 x)) ≤ 1085102592571150095 := by
    unfold s3
    rw [mkC.2.2]
    exact Nat.and_le_right
  have hS := (s123 8 x (by have : (256 : Nat) ^ 8 = 2 ^ 64 := by decide
                           omega)).2
  rw [hS] at a3 l3
  have a4 : e4 8 (lN (sB 8 x)) = lN (sB 8 x + sB 8 x / 256) := by
    unfold e4
    rw [sK_n 8 8 (by decide) (by omega), lN_add]
  have a5 : e4 16 (lN (sB 8 x + sB 8 x / 256)) = lN (sB 8 x + sB 8 x / 256 + (sB 8 x + sB 8 x / 256) / 65536) := by
    unfold e4
    rw [sK_n 16 16 (by decide) (by omega), lN_add]
  have a6 : e4 32 (lN (sB 8 x + sB 8 x / 256 + (sB 8 x + sB 8 x / 256) / 65536)) = lN (sB 8 x + sB 8 x / 256 + (sB 8 x + sB 8 x / 256) / 65536 + (sB 8 x + sB 8 x / 256 + (sB 8 x + sB 8 x / 256) / 65536) / 4294967296) := by
    unfold e4
    rw [sK_n 32 32 (by decide) (by omega), lN_add]
  rw [a1, a2, a3, a4, a5, a6, l_i, show (127 : Int32) = nI (2 ^ 7 - 1) from rfl, fa_mask]
  rw [show 2 ^ 7 = 128 from rfl, (fold_8 (x := x) _ _ _ _ rfl rfl rfl rfl).1]
theorem cb_mod {x k : Nat} : ∀ j, j ≤ 64 → k ≤ 64 → cb (x % 2 ^ k) j = cb x (min j k) := by
  intro j
  induction j with
  | zero => intro _ _; rw [Nat.zero_min]; rfl
  | succ j ih =>
    intro hj hk
    show cb (x % 2 ^ k) j + (if (x % 2 ^ k).testBit j = true then 1 else 0) = _
    rw [ih (by omega) hk, Nat.testBit_mod_two_pow]
    by_cases h : j < k
    · rw [show min j k = j by omega, show min (j + 1) k = j + 1 by omega, decide_eq_true h, Bool.true_and]
      rfl
    · rw [show min j k = k by omega, show min (j + 1) k = k by omega, decide_eq_false h, Bool.false_and]
      rfl
/-- how many spans from 1 to k can be had -/
def cF (g : tG_) (n : Nat) (c : tC) : Nat → Nat
  | 0 => 0
  | k + 1 => cF g n c k + (if (fw g n (k + 1) c).isSome = true then 1 else 0)
theorem cF_le {g : tG_} {n : Nat} {c : tC} : ∀ k, cF g n c k ≤ k := by
  intro k
  induction k with
  | zero => exact Nat.le_refl _
  | succ k ih =>
    show cF g n c k + _ ≤ _
    split <;> omega
theorem cb_F {g : tG_} {n : Nat} {c : tC} {B : Nat} (hB : ∀ s, s ≤ 60 → B.testBit s = (fw g n s c).isSome) : ∀ k, k ≤ 60 → cb B (k + 1) = cF g n c k + 1 := by
  intro k
  induction k with
  | zero =>
    intro _
    show 0 + (if B.testBit 0 = true then 1 else 0) = _
    rw [hB 0 (by omega), fw_0]
    rfl
  | succ k ih =>
    intro hk
    show cb B (k + 1) + (if B.testBit (k + 1) = true then 1 else 0) = cF g n c k + (if (fw g n (k + 1) c).isSome = true then 1 else 0) + 1
    rw [ih (by omega), hB (k + 1) (by omega)]
    omega
theorem upX {g : tG_} {n : Nat} {N : Nat} {Ds : Nat → tC} {sp : Nat → Int64} (hS : SPB g n N Ds sp) (hN : 1 ≤ N) {s : Nat} (hs : s ≤ 60) : f_J13_bitCount_95d88 ((sp (0 : Int32).toNatClampNeg) &&& (((1 : Int64) <<< ((nI s + (1 : Int32)).toInt64 &&& 63)) - (1 : Int64))) = some (nI (cF g n (Ds 0) s + 1)) := by
  obtain ⟨B, hB⟩ := hS
  obtain ⟨b1, b2', b3⟩ := hB 0 hN
  have hp : 1 ≤ 2 ^ (s + 1) := Nat.one_le_two_pow
  have hp2 : 2 ^ (s + 1) ≤ 2 ^ 61 := Nat.pow_le_pow_right (by decide) (by omega)
  rw [show (0 : Int32).toNatClampNeg = 0 from rfl, b1, nI_1, show (1 : Int64) = lN 1 from rfl, wb_shl _ (by omega), Nat.one_mul, lN_sub hp, wb_and (by omega) (by omega), Nat.and_two_pow_sub_one_eq_mod]
  have hm : B 0 % 2 ^ (s + 1) ≤ B 0 := Nat.mod_le _ _
  rw [bitC (by omega), cb_mod 64 (Nat.le_refl _) (by omega), show min 64 (s + 1) = s + 1 by omega, cb_F b3 s hs]
theorem up_loop {g : tG_} {n : Nat} {mf : tMF} {N : Nat} {Cs : Nat → tC} (hM : MTs g n mf N Cs) (hN6 : N ≤ 600) {s : Nat} (hs : s ≤ 60) (x2 : Int32) : ∀ (m i : Nat), i ≤ s → s - i < m → f_X9_spans_17 m mf (nI s) x2 (nI (cF g n (Cs 0) i)) (nI (i + 1)) = some (nI (cF g n (Cs 0) s), nI (s + 1)) := by
  have hN1 := hM.1.1
  intro m
  induction m with
  | zero => intro i _ h; omega
  | succ m ih =>
    intro i hi hm
    rw [f_X9_spans_17]
    by_cases he : i = s
    · subst he
      rw [if_pos (nI_lt (by omega) (by omega))]
    · have hft := ft0 hM hN6 (s := i + 1) (b := 0) (by omega) (by omega)
      rw [Nat.add_zero] at hft
      rw [if_neg (nI_nlt (by omega) (by omega)), e600, if_pos (inb_t (by omega) (by omega)), nI_clamp (by omega), hft, nI_1, nI_1, show nI (cF g n (Cs 0) i) + (0 : Int32) = nI (cF g n (Cs 0) i + 0) from nI_add _ 0]
      simp only [fw_lt0 (show i + 1 ≤ 60 by omega)]
      have hIH := ih (i + 1) (by omega) (by omega)
      rw [show cF g n (Cs 0) (i + 1) = cF g n (Cs 0) i + (if (fw g n (i + 1) (Cs 0)).isSome = true then 1 else 0) from rfl] at hIH
      cases hf : fw g n (i + 1) (Cs 0) with
      | none =>
        rw [if_pos rfl]
        rw [hf, if_neg (by decide)] at hIH
        exact hIH
      | some v =>
        rw [if_neg (fun q => by cases q)]
        rw [hf, if_pos (show (some v).isSome = true from rfl)] at hIH
        exact hIH
theorem pp_spans {g : tG_} {n : Nat} (hG : GOK g n) {c mn : tC} (hz : Z4 c) (hz' : Z4 mn) {re : tRE} {pl : tPL} {mf : tMF} (hR : RelX g n re pl) (hF : RelM g n mf) (a : Int32) : ∃ (x : Int32 × tC × tRE × tPL) (y : Int32 × tMN × tMF), f_X8_spans g c re pl a = some x ∧ f_X9_spans g mn mf a = some y ∧ x.1 = y.1 ∧ Z4 x.2.1 ∧ Z4 y.2.1 ∧ RelX g n x.2.2.1 x.2.2.2 ∧ RelM g n y.2.2 := by
  obtain ⟨c', re', mn', mf', b1, b2', b3, b4, b5⟩ := askS hG hz hz' hR hF a
  unfold f_X8_spans f_X9_spans
  rcases b5 with ⟨r, r1, r2, r3⟩ | ⟨r2, r3, s, N, Ds, ds, ws, Cs, s1, s2, s3, k1, k2, hT, hP, hM⟩
  · have hr0 : ¬ r = 0 := by rcases r1 with q | q <;> rw [q] <;> decide
    rw [r2, r3, Option.bind_some, Option.bind_some, if_neg hr0, if_neg hr0]
    exact ⟨_, _, rfl, rfl, rfl, b1, b2', b3, b4⟩
  · obtain ⟨-, hN6, l3, l4⟩ := link hT hM
    have hN1 := hT.2.2.1.1
    obtain ⟨sp, p1, p2, p3⟩ := spansX hG hT hP.sp
    have hR' : RelX g n re' (sp, pl.2.1, pl.2.2.1, 1, pl.2.2.2.2) := Or.inr (Or.inr ⟨k1, k2, N, Ds, ds, ws, hT, PT_sp hP p2 p3⟩)
    rw [r2, r3, Option.bind_some, Option.bind_some, if_pos rfl, if_pos rfl, s3]
    unfold f_X5_pureUpTo
    have y1 := up_loop hM hN6 s2 0 100000 0 (by omega) (by omega)
    have y1' : f_X9_spans_17 100000 mf' (nI s) 0 0 1 = _ := y1
    rw [p1, Option.bind_some, if_pos (show inb 0 600 = true by decide), upX p2 hN1 s2, Option.bind_some, Option.bind_some, y1', Option.bind_some]
    have hle := cF_le (g := g) (n := n) (c := Ds 0) s
    refine ⟨_, _, rfl, rfl, ?_, b1, b2', hR', b4⟩
    show nI (cF g n (Ds 0) s + 1) - (1 : Int32) = nI (cF g n (Cs 0) s)
    rw [hT.2.2.1.2, hM.1.2.2.2.1]
    exact pk_sub (a := cF g n c00 s + 1) (b := 1) (by omega)
