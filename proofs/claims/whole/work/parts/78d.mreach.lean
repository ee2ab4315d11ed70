/-! pure: the reference goes through all that plans come to -/
def stp (g : tG_) (n : Nat) (c : tC) (h : Nat) : Option (tC × Nat) :=
  if alw g n c h = true ∧ unt n (hnd g n c h) ≠ 0 then some (adv n (unt n (hnd g n c h)) (hnd g n c h), unt n (hnd g n c h)) else none
theorem stp_ok {g : tG_} {n : Nat} {c d : tC} {h t : Nat} (hG : GOK g n) (hC : Cok g n c) (hs : stp g n c h = some (d, t)) : Cok g n d ∧ 1 ≤ t ∧ t ≤ 39 := by
  unfold stp at hs
  have hu := unt_le hG (Cok_hnd (h := h) hG hC) n (Nat.le_refl _)
  split at hs
  · rename_i hc
    cases hs
    exact ⟨Cok_adv hG (Cok_hnd hG hC), by omega, hu⟩
  · cases hs
def rk (g : tG_) (n : Nat) : Nat → tC → Prop
  | 0, c => c = c00
  | k + 1, c => ∃ c' h t, rk g n k c' ∧ h < 256 ∧ stp g n c' h = some (c, t)
def Rch (g : tG_) (n : Nat) (c : tC) : Prop := ∃ k, rk g n k c
theorem Rch0 {g : tG_} {n : Nat} : Rch g n c00 := ⟨0, rfl⟩
theorem Rch_s {g : tG_} {n : Nat} {c d : tC} {h t : Nat} (hR : Rch g n c) (hh : h < 256) (hs : stp g n c h = some (d, t)) : Rch g n d := by
  obtain ⟨k, hk⟩ := hR
  exact ⟨k + 1, c, h, t, hk, hh, hs⟩
theorem rk_ok {g : tG_} {n : Nat} (hG : GOK g n) : ∀ k c, rk g n k c → Cok g n c := by
  intro k
  induction k with
  | zero => intro c h; rw [show c = c00 from h]; exact Cok0
  | succ k ih =>
    rintro c ⟨c', h, t, h1, h2, h3⟩
    exact (stp_ok hG (ih c' h1) h3).1
theorem Rch_ok {g : tG_} {n : Nat} {c : tC} (hG : GOK g n) (h : Rch g n c) : Cok g n c := by
  obtain ⟨k, hk⟩ := h
  exact rk_ok hG k c hk
theorem codeN_lt {c : tC} (h : CB c) : codeN c < 2 ^ 63 := by
  have p0 := pM_lt h 0
  have p1 := pM_lt h 1
  have p2 := pM_lt h 2
  have p3 := pM_lt h 3
  unfold codeN; omega
theorem keyN_lt {c : tC} (h : CB c) : keyN c < 2 ^ 40 := by
  have p0 := pX_lt h 0
  have p1 := pX_lt h 1
  have p2 := pX_lt h 2
  have p3 := pX_lt h 3
  unfold keyN; omega
theorem code_inj {c d : tC} (hc : CB c) (zc : Z4 c) (hd : CB d) (zd : Z4 d) (h : codeN c = codeN d) : c = d := by
  have h1 := openM (mn := c00) hc zc Z0
  rw [h, openM (mn := c00) hd zd Z0] at h1
  exact (Option.some.inj h1).symm
theorem key_inj {c d : tC} (hc : CB c) (zc : Z4 c) (hd : CB d) (zd : Z4 d) (h : keyN c = keyN d) : c = d := by
  have h1 := takeX (c' := c00) hc zc Z0
  rw [h, takeX (c' := c00) hd zd Z0] at h1
  exact (Option.some.inj h1).symm
theorem cmp0 {a b : Nat} (ha : a < 2 ^ 63) (hb : b < 2 ^ 63) : (lg_cmp (lN a) (lN b) = 0) = (a = b) := by
  apply propext
  unfold lg_cmp
  have e := pk_lEQ ha hb
  have l := pk_lLT hb ha
  constructor
  · intro h
    split at h
    · exact absurd h (by decide)
    · split at h
      · rename_i q; exact e.mp q
      · exact absurd h (by decide)
  · intro h
    subst h
    rw [if_neg (fun q => by have := l.mp q; omega), if_pos rfl]
def ME (g : tG_) (n : Nat) (mf : tMF) (N : Nat) (Cs : Nat → tC) : Prop :=
  1 ≤ N ∧ N ≤ 601 ∧ mf.2.2.1 = nI N ∧ Cs 0 = c00 ∧ (∀ a, a < N → Rch g n (Cs a) ∧ mf.2.1 a = lN (codeN (Cs a))) ∧ ∀ a b, a < N → b < N → Cs a = Cs b → a = b
theorem find_loop {g : tG_} {n : Nat} (hG : GOK g n) {mf : tMF} {N : Nat} {Cs : Nat → tC} (hE : ME g n mf N Cs) {d : tC} (hd : Cok g n d) : ∀ (m i : Nat), N - i < m → i ≤ N → (∀ a, a < i → Cs a ≠ d) → (∃ b, b < N ∧ Cs b = d ∧ f_X9_findConfig_5 m mf (lN (codeN d)) (-1) (nI i) = some (nI b, nI (b + 1))) ∨ ((∀ a, a < N → Cs a ≠ d) ∧ f_X9_findConfig_5 m mf (lN (codeN d)) (-1) (nI i) = some (-1, nI N)) := by
  obtain ⟨e1, e2, e3, e4, e5, e6⟩ := hE
  intro m
  induction m with
  | zero => intro i h; omega
  | succ m ih =>
    intro i h1 hi hno
    rw [f_X9_findConfig_5, e3]
    by_cases he : i = N
    · subst he
      right
      rw [if_pos (nI_le (Nat.le_refl _) (by omega))]
      exact ⟨hno, rfl⟩
    · obtain ⟨r1, r2⟩ := e5 i (by omega)
      have hci := Rch_ok hG r1
      rw [if_neg (nI_ge (by omega) (by omega)), if_neg (show ¬ (0 : Int32) ≤ -1 by decide), if_pos (inb_t (by omega) (by omega)), nI_clamp (by omega), r2, nI_1]
      simp only [cmp0 (codeN_lt (hci.cb hG)) (codeN_lt (hd.cb hG))]
      by_cases hc : codeN (Cs i) = codeN d
      · left
        have hcd := code_inj (hci.cb hG) (hci.z hG) (hd.cb hG) (hd.z hG) hc
        refine ⟨i, by omega, hcd, ?_⟩
        rw [if_pos hc]
        obtain ⟨m, rfl⟩ : ∃ m', m = m' + 1 := ⟨m - 1, by omega⟩
        rw [f_X9_findConfig_5, e3]
        by_cases hl : i + 1 = N
        · rw [if_pos (nI_le (by omega) (by omega))]
        · rw [if_neg (nI_ge (by omega) (by omega)), if_pos (nI_pos' (by omega))]
      · rw [if_neg hc]
        exact ih (i + 1) (by omega) (by omega) (fun a ha => by
          by_cases hai : a = i
          · subst hai; exact fun q => hc (by rw [q])
          · exact hno a (by omega))
theorem findM {g : tG_} {n : Nat} (hG : GOK g n) {mf : tMF} {N : Nat} {Cs : Nat → tC} (hE : ME g n mf N Cs) {d : tC} (hd : Cok g n d) : (∃ b, b < N ∧ Cs b = d ∧ f_X9_findConfig mf (lN (codeN d)) = some (nI b)) ∨ ((∀ a, a < N → Cs a ≠ d) ∧ f_X9_findConfig mf (lN (codeN d)) = some (-1)) := by
  unfold f_X9_findConfig
  rcases find_loop hG hE hd 100000 0 (by have := hE.2.1; omega) (by omega) (fun a h => by omega) with ⟨b, h1, h2, h3⟩ | ⟨h1, h2⟩
  · left
    have h3' : f_X9_findConfig_5 100000 mf (lN (codeN d)) (-1) 0 = _ := h3
    rw [h3']
    exact ⟨b, h1, h2, rfl⟩
  · right
    have h2' : f_X9_findConfig_5 100000 mf (lN (codeN d)) (-1) 0 = _ := h2
    rw [h2']
    exact ⟨h1, rfl⟩
def MEnt (g : tG_) (n : Nat) (nx mm : Nat → Int32) (N : Nat) (Cs : Nat → tC) (c h : Nat) : Prop :=
  (stp g n (Cs c) h = none ∧ nx (256 * c + h) = -1) ∨ ∃ b t, b < N ∧ stp g n (Cs c) h = some (Cs b, t) ∧ nx (256 * c + h) = nI b ∧ mm (256 * c + h) = nI t
theorem MEnt_mono {g : tG_} {n : Nat} {nx mm nx' mm' : Nat → Int32} {N N' : Nat} {Cs Cs' : Nat → tC} {c h : Nat} (hM : MEnt g n nx mm N Cs c h) (hN : N ≤ N') (hc : c < N) (hCs : ∀ a, a < N → Cs' a = Cs a) (h1 : nx' (256 * c + h) = nx (256 * c + h)) (h2 : mm' (256 * c + h) = mm (256 * c + h)) : MEnt g n nx' mm' N' Cs' c h := by
  unfold MEnt
  rw [hCs c hc, h1, h2]
  rcases hM with h3 | ⟨b, t, b1, b2, b3, b4⟩
  · exact Or.inl h3
  · exact Or.inr ⟨b, t, by omega, by rw [hCs b b1]; exact b2, b3, b4⟩
theorem go_m {g : tG_} {n : Nat} (hG : GOK g n) {c : Nat} (hc6 : c < 600) : ∀ (m h : Nat) (mf : tMF) (mn : tC) (N : Nat) (Cs : Nat → tC), ME g n mf N Cs → c < N → h ≤ 256 → 256 - h < m → Z4 mn → ∃ (mn' : tC) (mf' : tMF) (N' : Nat) (Cs' : Nat → tC), f_X9_goFrom_2 m g mn mf (nI c) (nI h) = some (nI 256, mn', mf') ∧ Z4 mn' ∧ ME g n mf' N' Cs' ∧ N ≤ N' ∧ (∀ a, a < N → Cs' a = Cs a) ∧ mf'.1 = mf.1 ∧ (N' ≤ 600 → ∀ h', h ≤ h' → h' < 256 → MEnt g n mf'.2.2.2.1 mf'.2.2.2.2.1 N' Cs' c h') ∧ ∀ p, ¬ (256 * c + h ≤ p ∧ p < 256 * c + 256) → mf'.2.2.2.1 p = mf.2.2.2.1 p ∧ mf'.2.2.2.2.1 p = mf.2.2.2.2.1 p := by
  intro m
  induction m with
  | zero => intro h mf mn N Cs _ _ _ h1; omega
  | succ m ih =>
    intro h mf mn N Cs hE hcN hh hm hz
    rw [f_X9_goFrom_2]
    by_cases he : h = 256
    · subst he
      rw [if_pos (show (256 : Int32) ≤ nI 256 by decide)]
      exact ⟨mn, mf, N, Cs, rfl, hz, hE, Nat.le_refl _, fun _ _ => rfl, rfl, fun _ h' a b => by omega, fun _ _ => ⟨rfl, rfl⟩⟩
    · have hE' := hE
      obtain ⟨e1, e2, e3, e4, e5, e6⟩ := hE
      obtain ⟨r1, r2⟩ := e5 c hcN
      have hC := Rch_ok hG r1
      have ea : (256 : Int32) * nI c + nI h = nI (256 * c + h) := by rw [show (256 : Int32) = nI 256 from rfl, pk_mul, nI_add]
      rw [if_neg (show ¬ (256 : Int32) ≤ nI h from nI_ge (b := 256) (by omega) (by omega))]
      simp only [ea, inb_t (show 256 * c + h < 2 ^ 31 by omega) (show 256 * c + h < 153600 by omega), inb_t (show c < 2 ^ 31 by omega) (show c < 601 by omega), nI_clamp (show c < 2 ^ 31 by omega), nI_clamp (show 256 * c + h < 2 ^ 31 by omega), if_true, nI_1, r2]
      rw [openM (hC.cb hG) (hC.z hG) hz]
      simp only [Option.bind_some, e3]
      have el : ((600 : Int32) < nI N) = (600 < N) := propext (nI_ltI (a := 600) (by omega) (by omega))
      -- the rest of the row, for a state whose entry is right
      have rest : ∀ (mf1 : tMF) (mn1 : tC) (N1 : Nat) (Cs1 : Nat → tC), ME g n mf1 N1 Cs1 → N ≤ N1 → (∀ a, a < N → Cs1 a = Cs a) → mf1.1 = mf.1 → Z4 mn1 → (∀ p, p ≠ 256 * c + h → mf1.2.2.2.1 p = mf.2.2.2.1 p ∧ mf1.2.2.2.2.1 p = mf.2.2.2.2.1 p) → (N1 ≤ 600 → MEnt g n mf1.2.2.2.1 mf1.2.2.2.2.1 N1 Cs1 c h) → ∃ (mn' : tC) (mf' : tMF) (N' : Nat) (Cs' : Nat → tC), f_X9_goFrom_2 m g mn1 mf1 (nI c) (nI (h + 1)) = some (nI 256, mn', mf') ∧ Z4 mn' ∧ ME g n mf' N' Cs' ∧ N ≤ N' ∧ (∀ a, a < N → Cs' a = Cs a) ∧ mf'.1 = mf.1 ∧ (N' ≤ 600 → ∀ h', h ≤ h' → h' < 256 → MEnt g n mf'.2.2.2.1 mf'.2.2.2.2.1 N' Cs' c h') ∧ ∀ p, ¬ (256 * c + h ≤ p ∧ p < 256 * c + 256) → mf'.2.2.2.1 p = mf.2.2.2.1 p ∧ mf'.2.2.2.2.1 p = mf.2.2.2.2.1 p := by
        intro mf1 mn1 N1 Cs1 hE1 hN1 hCs1 hf1 hz1 hp1 hM1
        obtain ⟨mn', mf', N', Cs', q1, q2, q3, q4, q5, q6, q7, q8⟩ := ih (h + 1) mf1 mn1 N1 Cs1 hE1 (by omega) (by omega) (by omega) hz1
        refine ⟨mn', mf', N', Cs', q1, q2, q3, by omega, fun a ha => (q5 a (by omega)).trans (hCs1 a ha), q6.trans hf1, fun hN' h' a b => ?_, fun p hp => ?_⟩
        · by_cases hhh : h' = h
          · subst hhh
            have := q8 (256 * c + h') (by omega)
            exact MEnt_mono (hM1 (by omega)) q4 (by omega) q5 this.1 this.2
          · exact q7 hN' h' (by omega) b
        · have h1 := q8 p (by omega)
          have h2 := hp1 p (by omega)
          exact ⟨h1.1.trans h2.1, h1.2.trans h2.2⟩
      have upN : ∀ p, p ≠ 256 * c + h → upd mf.2.2.2.1 (256 * c + h) (-1) p = mf.2.2.2.1 p ∧ mf.2.2.2.2.1 p = mf.2.2.2.2.1 p := fun p hp => ⟨upd_n hp, rfl⟩
      have hEn : ME g n (mf.1, mf.2.1, nI N, upd mf.2.2.2.1 (256 * c + h) (-1), mf.2.2.2.2.1, mf.2.2.2.2.2.1, mf.2.2.2.2.2.2.1, mf.2.2.2.2.2.2.2) N Cs := ⟨e1, e2, rfl, e4, e5, e6⟩
      simp only [el]
      by_cases hN6 : 600 < N
      · rw [if_pos hN6]
        exact rest _ _ N Cs hEn (Nat.le_refl _) (fun _ _ => rfl) rfl (hC.z hG) upN (fun q => by omega)
      · rw [if_neg hN6, alwM hG (show h < 256 by omega)]
        simp only [Option.bind_some]
        by_cases hal : alw g n (Cs c) h = true
        · rw [hal, if_neg (show ¬ b2 true = 0 by decide), hM hG (show h < 256 by omega)]
          have hC1 := Cok_hnd (h := h) hG hC
          have hu := unt_le hG hC1 n (Nat.le_refl _)
          simp only [Option.bind_some]
          rw [goM hG hC1]
          simp only [Option.bind_some, nI_le0 (show unt n (hnd g n (Cs c) h) < 2 ^ 31 by omega)]
          by_cases hu0 : unt n (hnd g n (Cs c) h) = 0
          · rw [if_pos hu0]
            refine rest _ _ N Cs hEn (Nat.le_refl _) (fun _ _ => rfl) rfl ((Cok_adv hG hC1).z hG) upN (fun _ => Or.inl ⟨?_, upd_s⟩)
            unfold stp
            rw [if_neg (fun q => q.2 hu0)]
          · rw [if_neg hu0]
            have hC2 := Cok_adv (t := unt n (hnd g n (Cs c) h)) hG hC1
            have hst : stp g n (Cs c) h = some (adv n (unt n (hnd g n (Cs c) h)) (hnd g n (Cs c) h), unt n (hnd g n (Cs c) h)) := by unfold stp; rw [if_pos ⟨hal, hu0⟩]
            rw [closeM (hC2.cb hG)]
            simp only [Option.bind_some]
            rcases findM hG hEn hC2 with ⟨b, b1, b2', b3⟩ | ⟨b1, b3⟩
            · rw [b3]
              simp only [Option.bind_some, if_pos (nI_pos' (show b < 2 ^ 31 by omega))]
              refine rest _ _ N Cs ⟨e1, e2, rfl, e4, e5, e6⟩ (Nat.le_refl _) (fun _ _ => rfl) rfl (hC2.z hG) (fun p hp => ⟨by show upd (upd _ _ _) _ _ p = _; rw [upd_n hp, upd_n hp], upd_n hp⟩) (fun _ => Or.inr ⟨b, _, b1, by rw [hst, b2'], upd_s, upd_s⟩)
            · rw [b3]
              simp only [Option.bind_some, if_neg (show ¬ (0 : Int32) ≤ -1 by decide), inb_t (show N < 2 ^ 31 by omega) (show N < 601 by omega), nI_clamp (show N < 2 ^ 31 by omega), if_true, nI_1]
              have hEx : ME g n (mf.1, vp_updL mf.2.1 N (lN (codeN (adv n (unt n (hnd g n (Cs c) h)) (hnd g n (Cs c) h)))), nI (N + 1), upd (upd mf.2.2.2.1 (256 * c + h) (-1)) (256 * c + h) (nI N), upd mf.2.2.2.2.1 (256 * c + h) (nI (unt n (hnd g n (Cs c) h))), mf.2.2.2.2.2.1, mf.2.2.2.2.2.2.1, mf.2.2.2.2.2.2.2) (N + 1) (va_up Cs N (adv n (unt n (hnd g n (Cs c) h)) (hnd g n (Cs c) h))) := by
                refine ⟨by omega, by omega, rfl, by rw [vup_n (by omega)]; exact e4, fun a ha => ?_, fun a b ha hb hab => ?_⟩
                · by_cases haN : a = N
                  · subst haN
                    rw [vup_s]
                    exact ⟨Rch_s r1 (by omega) hst, updL_s⟩
                  · rw [vup_n haN]
                    refine ⟨(e5 a (by omega)).1, ?_⟩
                    show vp_updL mf.2.1 N _ a = _
                    rw [updL_n haN]
                    exact (e5 a (by omega)).2
                · by_cases haN : a = N <;> by_cases hbN : b = N
                  · omega
                  · subst haN
                    rw [vup_s, vup_n hbN] at hab
                    exact absurd hab.symm (b1 b (by omega))
                  · subst hbN
                    rw [vup_s, vup_n haN] at hab
                    exact absurd hab (b1 a (by omega))
                  · rw [vup_n haN, vup_n hbN] at hab
                    exact e6 a b (by omega) (by omega) hab
              refine rest _ _ (N + 1) _ hEx (by omega) (fun a ha => vup_n (by omega)) rfl (hC2.z hG) (fun p hp => ⟨by show upd (upd _ _ _) _ _ p = _; rw [upd_n hp, upd_n hp], upd_n hp⟩) (fun _ => Or.inr ⟨N, _, by omega, ?_, upd_s, upd_s⟩)
              rw [vup_n (by omega), hst, vup_s]
        · rw [Bool.eq_false_iff.mpr hal, if_pos (show b2 false = 0 from rfl)]
          refine rest _ _ N Cs hEn (Nat.le_refl _) (fun _ _ => rfl) rfl (hC.z hG) upN (fun _ => Or.inl ⟨?_, upd_s⟩)
          unfold stp
          rw [if_neg (fun q => hal q.1)]
def MEall (g : tG_) (n : Nat) (mf : tMF) (N : Nat) (Cs : Nat → tC) (c : Nat) : Prop := ∀ c', c' < c → ∀ h, h < 256 → MEnt g n mf.2.2.2.1 mf.2.2.2.2.1 N Cs c' h
theorem all_m {g : tG_} {n : Nat} (hG : GOK g n) : ∀ (m c : Nat) (mf : tMF) (mn : tC) (N : Nat) (Cs : Nat → tC), ME g n mf N Cs → c ≤ N → c ≤ 601 → 700 - c < m → Z4 mn → (N ≤ 600 → MEall g n mf N Cs c) → ∃ (c' : Nat) (mn' : tC) (mf' : tMF) (N' : Nat) (Cs' : Nat → tC), f_X9_findAll_26 m g mn mf (nI c) = some (nI c', mn', mf') ∧ Z4 mn' ∧ ME g n mf' N' Cs' ∧ mf'.1 = mf.1 ∧ (N' ≤ 600 → MEall g n mf' N' Cs' N') := by
  intro m
  induction m with
  | zero => intro c mf mn N Cs _ _ _ h; omega
  | succ m ih =>
    intro c mf mn N Cs hE hcN hc6 hm hz hall
    rw [f_X9_findAll_26]
    have e2 := hE.2.1
    have e3 := hE.2.2.1
    rw [e3]
    by_cases he : c = N
    · subst he
      rw [if_pos (nI_le (Nat.le_refl _) (by omega))]
      exact ⟨c, mn, mf, c, Cs, rfl, hz, hE, rfl, hall⟩
    · rw [if_neg (nI_ge (by omega) (by omega))]
      have el : ((600 : Int32) < nI N) = (600 < N) := propext (nI_ltI (a := 600) (by omega) (by omega))
      simp only [el]
      by_cases hN6 : 600 < N
      · rw [if_pos hN6]
        exact ⟨c, mn, mf, N, Cs, rfl, hz, hE, rfl, fun q => by omega⟩
      · rw [if_neg hN6]
        unfold f_X9_goFrom
        obtain ⟨mn', mf', N', Cs', q1, q2, q3, q4, q5, q6, q7, q8⟩ := go_m hG (show c < 600 by omega) 100000 0 mf mn N Cs hE (by omega) (by omega) (by omega) hz
        have q1' : f_X9_goFrom_2 100000 g mn mf (nI c) 0 = _ := q1
        rw [q1']
        simp only [Option.bind_some, nI_1]
        obtain ⟨c', mn2, mf2, N2, Cs2, s1, s2, s3, s4, s5⟩ := ih (c + 1) mf' mn' N' Cs' q3 (by omega) (by omega) (by omega) q2 (fun hN' c' hc' h hh => by
          by_cases hcc : c' = c
          · subst hcc; exact q7 hN' h (by omega) hh
          · have := q8 (256 * c' + h) (by omega)
            exact MEnt_mono (hall (by omega) c' (by omega) h hh) q4 (by omega) q5 this.1 this.2)
        exact ⟨c', mn2, mf2, N2, Cs2, s1, s2, s3, s4.trans q6, s5⟩
