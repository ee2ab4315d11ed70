/-! pure: a handling is done; time passes -/
theorem tC_ext {c d : tC} (h : ∀ j, c.1 j = d.1 j ∧ c.2.1 j = d.2.1 j ∧ c.2.2 j = d.2.2 j) : c = d := by
  obtain ⟨a, b, e⟩ := c
  obtain ⟨a', b', e'⟩ := d
  have h1 : a = a' := funext fun j => (h j).1
  have h2 : b = b' := funext fun j => (h j).2.1
  have h3 : e = e' := funext fun j => (h j).2.2
  rw [h1, h2, h3]
def hnd (g : tG_) (n : Nat) (c : tC) (h : Nat) : tC :=
  (fun j => if j < n ∧ dgt h j = 1 then g.2.1 j - c.1 j else c.1 j, fun j => if j < n ∧ dgt h j = 2 then 1 else if j < n ∧ dgt h j = 3 then 0 else c.2.1 j, fun j => if j < n ∧ dgt h j = 1 then (if g.1 j = 4 then g.2.2.1 j else 0) else c.2.2 j)
def hndF (g : tG_) (n i : Nat) (c d : tC) (h : Nat) : Prop := ∀ j, (¬ (i ≤ j ∧ j < n) → d.1 j = c.1 j ∧ d.2.1 j = c.2.1 j ∧ d.2.2 j = c.2.2 j) ∧ (i ≤ j → j < n → d.1 j = (hnd g n c h).1 j ∧ d.2.1 j = (hnd g n c h).2.1 j ∧ d.2.2 j = (hnd g n c h).2.2 j)
theorem hndF_end {g : tG_} {n : Nat} {c : tC} {h : Nat} : hndF g n n c c h := fun j => ⟨fun _ => ⟨rfl, rfl, rfl⟩, fun a b => by omega⟩
theorem hndF_step {g : tG_} {n i : Nat} {c c' d : tC} {h : Nat} (hi : i < n) (ho : ∀ j, j ≠ i → c'.1 j = c.1 j ∧ c'.2.1 j = c.2.1 j ∧ c'.2.2 j = c.2.2 j) (hs : c'.1 i = (hnd g n c h).1 i ∧ c'.2.1 i = (hnd g n c h).2.1 i ∧ c'.2.2 i = (hnd g n c h).2.2 i) (hF : hndF g n (i + 1) c' d h) : hndF g n i c d h := by
  intro j
  by_cases hj : j = i
  · subst hj
    have := (hF j).1 (by omega)
    refine ⟨fun q => by omega, fun _ _ => ?_⟩
    rw [this.1, this.2.1, this.2.2]
    exact hs
  · refine ⟨fun q => ?_, fun a b => ?_⟩
    · have := (hF j).1 (by omega)
      rw [this.1, this.2.1, this.2.2]
      exact ho j hj
    · have h1 := (hF j).2 (by omega) b
      obtain ⟨o1, o2, o3⟩ := ho j hj
      unfold hnd at h1 ⊢
      simp only [o1, o2, o3] at h1
      exact h1
theorem hndF_eq {g : tG_} {n : Nat} {c d : tC} {h : Nat} (hF : hndF g n 0 c d h) : d = hnd g n c h := by
  refine tC_ext fun j => ?_
  by_cases hj : j < n
  · exact (hF j).2 (by omega) hj
  · have := (hF j).1 (by omega)
    rw [this.1, this.2.1, this.2.2]
    unfold hnd
    simp [hj]
theorem nar0 : vp_nar .boolean (0 : Int32) = 0 := by decide
theorem nar1 : vp_nar .boolean (1 : Int32) = 1 := by decide
theorem hM_loop {g : tG_} {n h : Nat} (hG : GOK g n) (hh : h < 256) : ∀ (m i : Nat) (c : tC), n - i < m → i ≤ n → ∃ d, f_X9_handle_2 m g c (nI h) (nI i) = some (nI n, d) ∧ hndF g n i c d h := by
  have hn := hG.1
  intro m
  induction m with
  | zero => intro i c h1; omega
  | succ m ih =>
    intro i c h1 hi
    rw [f_X9_handle_2, hG.2.1]
    by_cases he : i = n
    · subst he
      rw [if_pos (nI_le (Nat.le_refl _) (by omega))]
      exact ⟨c, rfl, hndF_end⟩
    · have hin : i < n := by omega
      rw [if_neg (nI_ge hin (by omega)), digM hh (by omega)]
      have hd := dgt_lt h i
      have e1 : (nI (dgt h i) = (1 : Int32)) = (dgt h i = 1) := nI_lit hd 1 (by omega)
      have e2 : (nI (dgt h i) = (2 : Int32)) = (dgt h i = 2) := nI_lit hd 2 (by omega)
      have e3 : (nI (dgt h i) ≤ (1 : Int32)) = (dgt h i ≤ 1) := propext (nI_leI (b := 1) (by omega) (by omega))
      simp only [Option.bind_some, e1, e2, e3, inb_t (show i < 2 ^ 31 by omega) (show i < 4 by omega), nI_clamp (show i < 2 ^ 31 by omega), if_true, nI_1]
      by_cases d1 : dgt h i = 1
      · rw [if_pos d1]
        by_cases k4 : g.1 i = 4
        · rw [if_pos k4]
          obtain ⟨d, h2, h3⟩ := ih (i + 1) (upd c.1 i (g.2.1 i - c.1 i), c.2.1, upd c.2.2 i (g.2.2.1 i)) (by omega) (by omega)
          refine ⟨d, h2, hndF_step hin ?_ ?_ h3⟩
          · exact fun j hj => ⟨upd_n hj, rfl, upd_n hj⟩
          simp [hnd, upd_s, hin, d1, k4]
        · rw [if_neg k4]
          obtain ⟨d, h2, h3⟩ := ih (i + 1) (upd c.1 i (g.2.1 i - c.1 i), c.2.1, upd c.2.2 i 0) (by omega) (by omega)
          refine ⟨d, h2, hndF_step hin ?_ ?_ h3⟩
          · exact fun j hj => ⟨upd_n hj, rfl, upd_n hj⟩
          simp [hnd, upd_s, hin, d1, k4]
      · rw [if_neg d1]
        by_cases d0 : dgt h i = 0
        · rw [if_pos (show dgt h i ≤ 1 by omega)]
          obtain ⟨d, h2, h3⟩ := ih (i + 1) c (by omega) (by omega)
          refine ⟨d, h2, hndF_step hin ?_ ?_ h3⟩
          · exact fun j hj => ⟨rfl, rfl, rfl⟩
          simp [hnd, d0]
        · rw [if_neg (show ¬ dgt h i ≤ 1 by omega)]
          by_cases d2 : dgt h i = 2
          · rw [if_pos d2]
            obtain ⟨d, h2, h3⟩ := ih (i + 1) (c.1, upd c.2.1 i 1, c.2.2) (by omega) (by omega)
            refine ⟨d, h2, hndF_step hin ?_ ?_ h3⟩
            · exact fun j hj => ⟨rfl, upd_n hj, rfl⟩
            simp [hnd, upd_s, hin, d2]
          · rw [if_neg d2]
            obtain ⟨d, h2, h3⟩ := ih (i + 1) (c.1, upd c.2.1 i 0, c.2.2) (by omega) (by omega)
            refine ⟨d, h2, hndF_step hin ?_ ?_ h3⟩
            · exact fun j hj => ⟨rfl, upd_n hj, rfl⟩
            have d3 : dgt h i = 3 := by omega
            simp [hnd, upd_s, hin, d3]
theorem hM {g : tG_} {n h : Nat} (hG : GOK g n) (hh : h < 256) (c : tC) : f_X9_handle g c (nI h) = some (hnd g n c h) := by
  obtain ⟨d, h1, h2⟩ := hM_loop hG hh 100000 0 c (by have := hG.1; omega) (by omega)
  unfold f_X9_handle
  rw [show (0 : Int32) = nI 0 from rfl, h1, ← hndF_eq h2]
  rfl
theorem g4 {g : tG_} {n j : Nat} (hG : GOK g n) (hj : j < n) : g.1 j = 4 ↔ cN (g.1 j) = 4 := by
  obtain ⟨⟨k1, k2⟩, -⟩ := hG.2.2 j hj
  constructor
  · intro h; rw [h]; rfl
  · intro h; rw [k1, h]; rfl
theorem hX_loop {g : tG_} {n h : Nat} (hG : GOK g n) (hh : h < 256) : ∀ (m i : Nat) (c : tC), (∀ j, j < n → g.1 j ≠ 4 → c.2.2 j = 0) → n - i < m → i ≤ n → ∃ d, f_X2_handle_2 m g c (nI h) (nI i) = some (nI n, d) ∧ hndF g n i c d h := by
  have hn := hG.1
  intro m
  induction m with
  | zero => intro i c _ h1; omega
  | succ m ih =>
    intro i c hw h1 hi
    rw [f_X2_handle_2]
    unfold f_X3_count
    simp only [Option.bind_some, hG.2.1]
    by_cases he : i = n
    · subst he
      rw [if_pos (nI_le (Nat.le_refl _) (by omega))]
      exact ⟨c, rfl, hndF_end⟩
    · have hin : i < n := by omega
      rw [if_neg (nI_ge hin (by omega)), digX hh (by omega)]
      have hd := dgt_lt h i
      have e1 : (nI (dgt h i) = (1 : Int32)) = (dgt h i = 1) := nI_lit hd 1 (by omega)
      have e2 : (nI (dgt h i) = (2 : Int32)) = (dgt h i = 2) := nI_lit hd 2 (by omega)
      have e3 : (nI (dgt h i) = (3 : Int32)) = (dgt h i = 3) := nI_lit hd 3 (by omega)
      unfold f_X2_turn f_X3_grains f_X3_kind f_X3_with
      simp only [Option.bind_some, e1, e2, e3, inb_t (show i < 2 ^ 31 by omega) (show i < 4 by omega), nI_clamp (show i < 2 ^ 31 by omega), if_true, nI_1, nar0, nar1]
      by_cases d1 : dgt h i = 1
      · rw [if_pos d1]
        by_cases k4 : g.1 i = 4
        · rw [if_pos k4]
          obtain ⟨d, h2, h3⟩ := ih (i + 1) (upd c.1 i (g.2.1 i - c.1 i), c.2.1, upd c.2.2 i (g.2.2.1 i)) (fun j hj h4 => by show upd c.2.2 i _ j = 0; rw [upd_n (fun q => h4 (by rw [q]; exact k4))]; exact hw j hj h4) (by omega) (by omega)
          refine ⟨d, h2, hndF_step hin ?_ ?_ h3⟩
          · exact fun j hj => ⟨upd_n hj, rfl, upd_n hj⟩
          simp [hnd, upd_s, hin, d1, k4]
        · rw [if_neg k4]
          obtain ⟨d, h2, h3⟩ := ih (i + 1) (upd c.1 i (g.2.1 i - c.1 i), c.2.1, c.2.2) hw (by omega) (by omega)
          refine ⟨d, h2, hndF_step hin ?_ ?_ h3⟩
          · exact fun j hj => ⟨upd_n hj, rfl, rfl⟩
          simp [hnd, upd_s, hin, d1, k4, hw i hin k4]
      · rw [if_neg d1]
        by_cases d2 : dgt h i = 2
        · rw [if_pos d2]
          obtain ⟨d, h2, h3⟩ := ih (i + 1) (c.1, upd c.2.1 i 1, c.2.2) hw (by omega) (by omega)
          refine ⟨d, h2, hndF_step hin ?_ ?_ h3⟩
          · exact fun j hj => ⟨rfl, upd_n hj, rfl⟩
          simp [hnd, upd_s, hin, d2]
        · rw [if_neg d2]
          by_cases d3 : dgt h i = 3
          · rw [if_pos d3]
            obtain ⟨d, h2, h3⟩ := ih (i + 1) (c.1, upd c.2.1 i 0, c.2.2) hw (by omega) (by omega)
            refine ⟨d, h2, hndF_step hin ?_ ?_ h3⟩
            · exact fun j hj => ⟨rfl, upd_n hj, rfl⟩
            simp [hnd, upd_s, hin, d3]
          · rw [if_neg d3]
            obtain ⟨d, h2, h3⟩ := ih (i + 1) c hw (by omega) (by omega)
            refine ⟨d, h2, hndF_step hin ?_ ?_ h3⟩
            · exact fun j hj => ⟨rfl, rfl, rfl⟩
            have d0 : dgt h i = 0 := by omega
            simp [hnd, d0]
theorem hX {g : tG_} {n h : Nat} {c : tC} (hG : GOK g n) (hC : Cok g n c) (hh : h < 256) : f_X2_handle g c (nI h) = some (hnd g n c h) := by
  obtain ⟨d, h1, h2⟩ := hX_loop hG hh 100000 0 c (fun j hj h4 => (hC.1 j hj).2.2.2.2 (fun q => h4 ((g4 hG hj).mpr q))) (by have := hG.1; omega) (by omega)
  unfold f_X2_handle
  rw [show (0 : Int32) = nI 0 from rfl, h1, ← hndF_eq h2]
  rfl
theorem Cok_hnd {g : tG_} {n h : Nat} {c : tC} (hG : GOK g n) (hC : Cok g n c) : Cok g n (hnd g n c h) := by
  refine ⟨fun j hj => ?_, fun j hj => ?_⟩
  · obtain ⟨⟨a1, a2⟩, b1, c1, c2, c3⟩ := hC.1 j hj
    obtain ⟨⟨k1, k2⟩, ⟨r1, r2, r3⟩, -, w⟩ := hG.2.2 j hj
    unfold hnd
    refine ⟨?_, ?_, ?_⟩
    · show ((if j < n ∧ dgt h j = 1 then g.2.1 j - c.1 j else c.1 j) = nI (cN (if j < n ∧ dgt h j = 1 then g.2.1 j - c.1 j else c.1 j)) ∧ cN (if j < n ∧ dgt h j = 1 then g.2.1 j - c.1 j else c.1 j) ≤ cN (g.2.1 j))
      by_cases hd : j < n ∧ dgt h j = 1
      · rw [if_pos hd]
        have e : g.2.1 j - c.1 j = nI (cN (g.2.1 j) - cN (c.1 j)) := by
          have q := pk_sub a2
          rw [← r1, ← a1] at q
          exact q
        rw [e]
        show nI _ = nI (cN (nI _)) ∧ cN (nI _) ≤ _
        unfold cN
        rw [nI_clamp (by unfold cN at *; omega)]
        exact ⟨rfl, Nat.sub_le _ _⟩
      · rw [if_neg hd]; exact ⟨a1, a2⟩
    · show (if j < n ∧ dgt h j = 2 then (1 : Int32) else if j < n ∧ dgt h j = 3 then 0 else c.2.1 j) = 0 ∨ (if j < n ∧ dgt h j = 2 then (1 : Int32) else if j < n ∧ dgt h j = 3 then 0 else c.2.1 j) = 1
      split
      · exact Or.inr rfl
      · split
        · exact Or.inl rfl
        · exact b1
    · show (if j < n ∧ dgt h j = 1 then (if g.1 j = 4 then g.2.2.1 j else 0) else c.2.2 j) = nI (cN (if j < n ∧ dgt h j = 1 then (if g.1 j = 4 then g.2.2.1 j else 0) else c.2.2 j)) ∧ cN (if j < n ∧ dgt h j = 1 then (if g.1 j = 4 then g.2.2.1 j else 0) else c.2.2 j) ≤ 9 ∧ (cN (g.1 j) ≠ 4 → (if j < n ∧ dgt h j = 1 then (if g.1 j = 4 then g.2.2.1 j else 0) else c.2.2 j) = 0)
      by_cases hd : j < n ∧ dgt h j = 1
      · rw [if_pos hd]
        by_cases k4 : g.1 j = 4
        · rw [if_pos k4]
          obtain ⟨w1, w2, w3⟩ := w ((g4 hG hj).mp k4)
          exact ⟨w1, w3, fun q => absurd ((g4 hG hj).mp k4) q⟩
        · rw [if_neg k4]
          exact ⟨rfl, Nat.zero_le _, fun _ => rfl⟩
      · rw [if_neg hd]; exact ⟨c1, c2, c3⟩
  · obtain ⟨a, b, d⟩ := hC.2 j hj
    unfold hnd
    have hj2 : ¬ j < n := by omega
    simp [hj2, a, b, d]
