/-! pure: the run by hand -/
def cnt (h : Nat) : Nat := (if dgt h 0 = 0 then 0 else 1) + (if dgt h 1 = 0 then 0 else 1) + (if dgt h 2 = 0 then 0 else 1) + (if dgt h 3 = 0 then 0 else 1)
theorem cnt_le (h : Nat) : cnt h ≤ 4 := by unfold cnt; split <;> split <;> split <;> split <;> omega
set_option maxRecDepth 100000 in
theorem cntX : ∀ h, h < 256 → f_X4_countOf (nI h) = some (nI (cnt h)) := by decide +kernel
theorem ct_s (m h j K : Nat) (hh : h < 256) (hj : j < 4) : f_X9_countOf_4 (m + 1) (nI h) (nI K) (nI j) = f_X9_countOf_4 m (nI h) (nI (K + if dgt h j = 0 then 0 else 1)) (nI (j + 1)) := by
  rw [f_X9_countOf_4, if_neg (show ¬ (4 : Int32) ≤ nI j from nI_ge (b := 4) hj (by omega)), digM hh hj]
  have e : (nI (dgt h j) = (0 : Int32)) = (dgt h j = 0) := nI_lit (dgt_lt h j) 0 (by omega)
  simp only [Option.bind_some, e, nI_1]
  by_cases hd : dgt h j = 0
  · rw [if_pos hd, if_pos hd, show nI K + 0 = nI (K + 0) from nI_add K 0]
  · rw [if_neg hd, if_neg hd]
theorem cntM {h : Nat} (hh : h < 256) : f_X9_countOf (nI h) = some (nI (cnt h)) := by
  unfold f_X9_countOf
  have e : f_X9_countOf_4 100000 (nI h) 0 0 = _ := ct_s 99999 h 0 0 hh (by omega)
  rw [e, ct_s 99998 h 1 _ hh (by omega), ct_s 99997 h 2 _ hh (by omega), ct_s 99996 h 3 _ hh (by omega), f_X9_countOf_4, if_pos (show (4 : Int32) ≤ nI (3 + 1) by decide)]
  simp only [Option.bind_some, Nat.zero_add]
  rfl
def RelH (g : tG_) (n : Nat) (bh : tBH) (c : tC) (mh : tMH) : Prop :=
  ∃ e : Nat, Cok g n c ∧ mh.1 = lN (codeN c) ∧ (1 ≤ e ∧ e ≤ 200) ∧ bh.2.1 = nI e ∧ mh.2.2.2.2.1 = nI e ∧ bh.2.2.1 = mh.2.2.1 ∧ isb bh.2.2.1 = true ∧ (∀ i, i < e → bh.1 i = mh.2.2.2.1 i) ∧ bh.1 0 = 0 ∧ mh.2.1 = bh.1 (e - 1) ∧
    KP g n bh.1 bh.2.2.2.1 bh.2.2.2.2.1 bh.2.2.2.2.2.1 bh.2.2.2.2.2.2.1 bh.2.2.2.2.2.2.2 mh.2.2.2.2.2.1 mh.2.2.2.2.2.2.1 mh.2.2.2.2.2.2.2.1 mh.2.2.2.2.2.2.2.2.1 mh.2.2.2.2.2.2.2.2.2 e
theorem ix256 (a : Int32) : (f_X4_isNone a = some 1 ∧ f_X9_in a 0 255 = some 0) ∨ ∃ h : Nat, h < 256 ∧ a = nI h ∧ f_X4_isNone a = some 0 ∧ f_X9_in a 0 255 = some 1 := by
  unfold f_X4_isNone
  by_cases h0 : a < 0
  · left; rw [if_pos h0]; exact ⟨rfl, in_f (Or.inl h0)⟩
  · rw [if_neg h0]
    by_cases h1 : a ≤ 255
    · right
      obtain ⟨h, hh, rfl⟩ := nI_of2 (x := a) (M := 255) (n := 255) (by decide) h0 h1
      rw [if_pos h1]
      exact ⟨h, by omega, rfl, rfl, in_t (nI_pos' (by omega)) h1⟩
    · left; rw [if_neg h1]; exact ⟨rfl, in_f (Or.inr (by rw [i_lt]; rw [i_le] at h1; exact Int.not_le.mp h1))⟩
theorem alwX0 {g : tG_} {n : Nat} {c : tC} {h : Nat} (hG : GOK g n) (hC : Cok g n c) (hh : h < 256) : f_X0_allows g c (nI h) = some (b2 (alw g n c h)) := by
  unfold f_X0_allows
  rw [alwX hG hC hh]
  simp only [Option.bind_some]
  cases alw g n c h <;> rfl
theorem ph_can {g : tG_} {n : Nat} {bh : tBH} {c : tC} {mh : tMH} {mn : tC} (hG : GOK g n) (hH : RelH g n bh c mh) (hz : Z4 mn) (a1 : Int32) : ∃ (x : Int32) (y : Int32 × tMN), f_X8_can g c a1 = some x ∧ f_X9_can g mn mh a1 = some y ∧ x = y.1 ∧ Z4 y.2 := by
  obtain ⟨e, hC, h1, -⟩ := hH
  unfold f_X8_can f_X9_can
  rcases ix256 a1 with ⟨k1, k2⟩ | ⟨h, hh, rfl, k1, k2⟩
  · rw [k1, k2]
    exact ⟨-1, (-1, mn), rfl, rfl, rfl, hz⟩
  · rw [k1, k2, h1, openM (hC.cb hG) (hC.z hG) hz, alwX0 hG hC hh]
    simp only [Option.bind_some, if_true, if_neg (show ¬ (1 : Int32) = 0 by decide)]
    rw [alwM hG hh]
    simp only [Option.bind_some]
    cases alw g n c h
    · exact ⟨0, (0, c), rfl, rfl, rfl, hC.z hG⟩
    · exact ⟨1, (1, c), rfl, rfl, rfl, hC.z hG⟩
theorem ph_hand {g : tG_} {n : Nat} {bh : tBH} {c : tC} {mh : tMH} {mn : tC} (hG : GOK g n) (hH : RelH g n bh c mh) (hz : Z4 mn) (a1 : Int32) : ∃ (x : Int32 × tBH × tC) (y : Int32 × tMN × tMH), f_X8_hand g bh c a1 = some x ∧ f_X9_hand g mn mh a1 = some y ∧ x.1 = y.1 ∧ RelH g n x.2.1 x.2.2 y.2.2 ∧ Z4 y.2.1 := by
  obtain ⟨e, hC, h1, h2, h3, h4, h5, h6, h7, h8, h9, h10⟩ := id hH
  unfold f_X8_hand f_X9_hand
  rcases ix256 a1 with ⟨k1, k2⟩ | ⟨h, hh, rfl, k1, k2⟩
  · rw [k1, k2]
    exact ⟨(-1, bh, c), (-1, mn, mh), rfl, rfl, rfl, hH, hz⟩
  · rw [k1, k2]
    unfold f_X0_isHandled
    rw [if_pos h6]
    simp only [Option.bind_some, if_true, if_neg (show ¬ (1 : Int32) = 0 by decide)]
    rw [← h5]
    by_cases hd : bh.2.2.1 = 0
    · rw [if_pos hd, if_pos hd, h1, openM (hC.cb hG) (hC.z hG) hz, alwX0 hG hC hh]
      simp only [Option.bind_some]
      rw [alwM hG hh]
      simp only [Option.bind_some]
      cases alw g n c h
      · exact ⟨(-6, bh, c), (-6, c, mh), rfl, rfl, rfl, hH, hC.z hG⟩
      · simp only [if_neg (show ¬ b2 true = 0 by decide)]
        obtain ⟨kk, ke, kh, kp, rg, kr, km, ke', kh', kp', q1, q2, q3⟩ := keep2 hG hC h2.1 h3 h4 h5 h6 h1 h9 h10
        unfold f_X0_handle
        have hC' := Cok_hnd (h := h) hG hC
        rw [q1, q2, hX hG hC hh, hM hG hh, cntX h hh]
        simp only [Option.bind_some]
        rw [closeM (hC'.cb hG), cntM hh]
        refine ⟨_, _, rfl, rfl, rfl, ?_, hC'.z hG⟩
        exact ⟨e, hC', rfl, h2, h3, h4, rfl, isb_1, h7, h8, h9, q3⟩
    · rw [if_neg hd, if_neg hd]
      exact ⟨(-5, bh, c), (-5, mn, mh), rfl, rfl, rfl, hH, hz⟩
theorem now_eq {bh : tBH} {e : Nat} (h : bh.2.1 = nI e) (h1 : 1 ≤ e) (h2 : e ≤ 200) : f_X0_now bh = some (bh.1 (e - 1)) := by
  unfold f_X0_now
  have es : nI e - (1 : Int32) = nI (e - 1) := pk_sub (b := 1) h1
  rw [h, es, if_pos (inb_t (by omega) (by omega)), nI_clamp (by omega)]
theorem ph_next {g : tG_} {n : Nat} {bh : tBH} {c : tC} {mh : tMH} {mn : tC} (hG : GOK g n) (hH : RelH g n bh c mh) (hz : Z4 mn) : ∃ (x : Int32 × tBH × tC) (y : Int32 × tMN × tMH), f_X8_next g bh c = some x ∧ f_X9_next g mn mh = some y ∧ x.1 = y.1 ∧ RelH g n x.2.1 x.2.2 y.2.2 ∧ Z4 y.2.1 := by
  obtain ⟨e, hC, h1, h2, h3, h4, h5, h6, h7, h8, h9, h10⟩ := id hH
  unfold f_X8_next f_X9_next f_X0_goOn
  rw [h3, h4]
  by_cases he : e = 200
  · subst he
    rw [if_neg (show ¬ nI 200 < (200 : Int32) by decide), if_pos (show nI 200 = (200 : Int32) from rfl)]
    exact ⟨_, _, rfl, rfl, rfl, hH, hz⟩
  · have el : nI e < (200 : Int32) := nI_lt (b := 200) (by omega) (by omega)
    have en : ¬ nI e = (200 : Int32) := fun q => he ((nI_eq (b := 200) (by omega) (by omega)).mp q)
    have hu := unt_le hG hC n (Nat.le_refl _)
    rw [if_pos el, if_neg en, h1, openM (hC.cb hG) (hC.z hG) hz, untX hG hC]
    simp only [Option.bind_some]
    rw [goM hG hC]
    simp only [Option.bind_some]
    have e0 : (nI (unt n c) = (0 : Int32)) = (unt n c = 0) := propext (nI_eq (b := 0) (by omega) (by omega))
    simp only [e0]
    by_cases hu0 : unt n c = 0
    · rw [if_pos hu0, if_pos hu0, hu0, adv_0 hC]
      exact ⟨_, _, rfl, rfl, rfl, hH, hC.z hG⟩
    · rw [if_neg hu0, if_neg hu0]
      obtain ⟨kk, ke, kh, kp, rg, kr, km, ke', kh', kp', q1, q2, q3⟩ := keep2 hG hC h2.1 h3 h4 h5 h6 h1 h9 h10
      have hC' := Cok_adv (t := unt n c) hG hC
      rw [q1, q2, letX hG hC (by omega), closeM (hC'.cb hG)]
      simp only [Option.bind_some]
      rw [now_eq (e := e) (by exact h3) h2.1 h2.2]
      simp only [Option.bind_some]
      rw [h3, h4]
      simp only [if_pos (inb_t (show e < 2 ^ 31 by omega) (show e < 200 by omega)), nI_clamp (show e < 2 ^ 31 by omega), nI_1]
      rw [now_eq (e := e + 1) rfl (by omega) (by omega)]
      simp only [Option.bind_some, Nat.add_sub_cancel]
      refine ⟨_, _, rfl, rfl, ?_, ?_, hC'.z hG⟩
      · show upd bh.1 e _ e = _
        rw [upd_s, h9]
      · refine ⟨e + 1, hC', rfl, ⟨by omega, by omega⟩, rfl, rfl, rfl, isb_0, fun i hi => ?_, ?_, ?_, ?_⟩
        · show upd bh.1 e _ i = upd mh.2.2.2.1 e _ i
          by_cases hie : i = e
          · subst hie; rw [upd_s, upd_s, h9]
          · rw [upd_n hie, upd_n hie]; exact h7 i (by omega)
        · show upd bh.1 e _ 0 = 0
          rw [upd_n (by omega)]; exact h8
        · show mh.2.1 + _ = upd bh.1 e _ (e + 1 - 1)
          rw [Nat.add_sub_cancel, upd_s, h9]
        · exact KP_mono q3 (by omega) (fun j hj => upd_n (by omega))
theorem ph_undo {g : tG_} {n : Nat} {bh : tBH} {c : tC} {mh : tMH} (hG : GOK g n) (hH : RelH g n bh c mh) : ∃ (x : Int32 × tBH × tC) (y : Int32 × tMH), f_X8_undo bh c = some x ∧ f_X9_undo mh = some y ∧ x.1 = y.1 ∧ RelH g n x.2.1 x.2.2 y.2 := by
  obtain ⟨e, hC, h1, h2, h3, h4, h5, h6, h7, h8, h9, h10⟩ := id hH
  obtain ⟨k, r, ev, k1, k2, k3, k4, k5, k6, k7, k8⟩ := id h10
  unfold f_X8_undo f_X9_undo f_X0_takeBack
  rw [k3, k4, k5]
  by_cases hk : k = 0
  · subst hk
    rw [if_pos (show nI 0 = 0 from rfl), if_pos (show nI 0 = 0 from rfl)]
    exact ⟨_, _, rfl, rfl, rfl, hH⟩
  · have hr : nI r + (100 : Int32) - (1 : Int32) - (nI r + (100 : Int32) - (1 : Int32)) / (100 : Int32) * (100 : Int32) = nI ((r + 99) % 100) := by
      rw [show nI r + (100 : Int32) = nI (r + 100) from nI_add r 100, show nI (r + 100) - (1 : Int32) = nI (r + 100 - 1) from pk_sub (b := 1) (by omega), show r + 100 - 1 = r + 99 by omega]
      exact pk_rem (d := 100) (by omega) (by omega) (by omega)
    have hkk : nI k - (1 : Int32) = nI (k - 1) := pk_sub (b := 1) (by omega)
    have hp : (r + 99) % 100 < 100 := by omega
    simp only [if_neg (nI_ne0 (show 0 < k by omega) (show k < 2 ^ 31 by omega)), hr, hkk, inb_t (show (r + 99) % 100 < 2 ^ 31 by omega) hp, inb_t (show k - 1 < 2 ^ 31 by omega) (show k - 1 < 100 by omega), nI_clamp (show (r + 99) % 100 < 2 ^ 31 by omega), nI_clamp (show k - 1 < 2 ^ 31 by omega), if_true]
    obtain ⟨⟨cc, y1, y2, y3⟩, y4, y5, y6, y7, y8⟩ := k8 (k - 1) (by omega)
    have hpe : (r + 100 - k + (k - 1)) % 100 = (r + 99) % 100 := by omega
    rw [hpe] at y2 y4 y7 y8
    obtain ⟨w1, w2⟩ := k7 (k - 1) (by omega)
    have w3 := ev_le k7 1 (k - 1) (by omega)
    rw [k6] at w3
    have y8' : isb (mh.2.2.2.2.2.2.2.2.1 (k - 1)) = true := by rw [← y7]; exact y8
    rw [y2, takeX (y1.cb hG) (y1.z hG) (hC.z hG)]
    simp only [Option.bind_some, y8, y8', if_true]
    rw [now_eq (e := ev (k - 1)) y4 w1 (by omega)]
    simp only [Option.bind_some]
    refine ⟨_, _, rfl, rfl, y6.symm, ?_⟩
    refine ⟨ev (k - 1), y1, y3, ⟨w1, by omega⟩, y4, y5, y7, y8, fun i hi => h7 i (by omega), h8, y6, k - 1, (r + 99) % 100, ev, by omega, hp, rfl, rfl, rfl, rfl, fun i hi => k7 i (by omega), fun i hi => ?_⟩
    have := k8 i (by omega)
    rw [show ((r + 99) % 100 + 100 - (k - 1) + i) % 100 = (r + 100 - k + i) % 100 by omega]
    exact this
theorem key00 : keyN c00 = 0 := rfl
theorem code00 : codeN c00 = 0 := rfl
theorem CB0 : CB c00 := fun _ => ⟨⟨rfl, show cN (0 : Int32) ≤ 30 by decide⟩, ⟨rfl, show cN (0 : Int32) ≤ 1 by decide⟩, rfl, show cN (0 : Int32) ≤ 9 by decide⟩
theorem Z0 : Z4 c00 := fun _ _ => ⟨rfl, rfl, rfl⟩
theorem take0 {c : tC} (hz : Z4 c) : f_X2_take c 0 = some c00 := takeX (c := c00) CB0 Z0 hz
/-- both begin anew, for any glasses -/
theorem ph_start {g g' : tG_} {n n' : Nat} {bh : tBH} {c : tC} {mh : tMH} (hG : GOK g n) (hH : RelH g n bh c mh) : ∃ (x : tBH × tC) (y : tMH), f_X0_restart bh c = some x ∧ f_X9_start mh = some y ∧ RelH g' n' x.1 x.2 y := by
  obtain ⟨e, hC, h1, h2, h3, h4, h5, h6, h7, h8, h9, h10⟩ := id hH
  obtain ⟨k, r, ev, k1, k2, k3, k4, k5, k6, k7, k8⟩ := id h10
  unfold f_X0_restart f_X9_start
  rw [take0 (hC.z hG), if_pos (show inb 0 200 = true by decide)]
  refine ⟨_, _, rfl, rfl, 1, Cok0, (by show (0 : Int64) = lN (codeN c00); rw [code00]; rfl), ⟨by omega, by omega⟩, rfl, rfl, rfl, isb_0, fun i hi => ?_, h8, h8.symm, 0, r, fun _ => 1, by omega, k2, rfl, k4, rfl, rfl, fun i hi => by omega, fun i hi => by omega⟩
  show bh.1 i = upd mh.2.2.2.1 0 0 i
  rw [show i = 0 by omega, upd_s]; exact h8
theorem ph_begin {g : tG_} {n : Nat} {bh : tBH} {c : tC} {mh : tMH} (hG : GOK g n) (hH : RelH g n bh c mh) : ∃ (x : Int32 × tBH × tC) (y : Int32 × tMH), f_X8_begin bh c = some x ∧ f_X9_begin mh = some y ∧ x.1 = y.1 ∧ RelH g n x.2.1 x.2.2 y.2 := by
  obtain ⟨x, y, h1, h2, h3⟩ := ph_start (g' := g) (n' := n) hG hH
  unfold f_X8_begin f_X9_begin
  rw [h1, h2]
  exact ⟨_, _, rfl, rfl, rfl, h3⟩
theorem ph_moment {g : tG_} {n : Nat} {bh : tBH} {c : tC} {mh : tMH} (hH : RelH g n bh c mh) : f_X8_moment bh = some mh.2.1 ∧ f_X9_moment mh = some mh.2.1 := by
  obtain ⟨e, hC, h1, h2, h3, h4, h5, h6, h7, h8, h9, h10⟩ := id hH
  unfold f_X8_moment f_X9_moment
  rw [now_eq h3 h2.1 h2.2, h9]
  exact ⟨rfl, rfl⟩
theorem ph_event {g : tG_} {n : Nat} {bh : tBH} {c : tC} {mh : tMH} (hH : RelH g n bh c mh) (a1 : Int32) : ∃ x, f_X8_event bh a1 = some x ∧ f_X9_event mh a1 = some x := by
  obtain ⟨e, hC, h1, h2, h3, h4, h5, h6, h7, h8, h9, h10⟩ := id hH
  unfold f_X8_event f_X9_event f_X0_momentOf
  rw [h3, h4]
  by_cases k0 : a1 < 0
  · rw [if_pos k0, in_f (Or.inl k0)]
    exact ⟨_, rfl, rfl⟩
  · rw [if_neg k0]
    obtain ⟨k, hk, rfl⟩ := nI_of k0
    have e1 : (nI e - 1).toInt = (e : Int) - 1 := pk_sub_toInt (b := 1) (by omega) (by omega)
    by_cases hke : k < e
    · rw [if_neg (nI_ge hke (by omega)), in_t (nI_pos' hk) (by rw [i_le, e1, tI_nI hk]; omega)]
      simp only [Option.bind_some, inb_t hk (show k < 200 by omega), nI_clamp hk, if_true, if_neg (show ¬ (1 : Int32) = 0 by decide)]
      exact ⟨_, rfl, by rw [h7 k hke]⟩
    · rw [if_pos (nI_le (by omega) hk), in_f (Or.inr (by rw [i_lt, e1, tI_nI hk]; omega))]
      exact ⟨_, rfl, rfl⟩
