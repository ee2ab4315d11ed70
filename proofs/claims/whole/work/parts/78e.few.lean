/-! pure: fewest, and the reference's table of it -/
def omin (a b : Option Nat) : Option Nat := match a, b with
  | none, b => b
  | some a, none => some a
  | some a, some b => some (if b < a then b else a)
def minO : Nat → (Nat → Option Nat) → Option Nat
  | 0, _ => none
  | k + 1, f => omin (minO k f) (f k)
def fwT (g : tG_) (n : Nat) : Nat → Nat → tC → Option Nat
  | 0 => fun s _ => if s = 0 then some 0 else none
  | k + 1 => fun s c => if s ≤ k then fwT g n k s c else if s = k + 1 then minO 256 (fun h => match stp g n c h with
    | none => none
    | some (d, t) => if t ≤ s then (fwT g n k (s - t) d).map (fun v => v + cnt h) else none) else none
def fw (g : tG_) (n s : Nat) (c : tC) : Option Nat := fwT g n s s c
def byS (g : tG_) (n s : Nat) (c : tC) (h : Nat) : Option Nat := match stp g n c h with
  | none => none
  | some (d, t) => if t ≤ s then (fw g n (s - t) d).map (fun v => v + cnt h) else none
theorem fwT_st {g : tG_} {n : Nat} : ∀ k s c, s ≤ k → fwT g n k s c = fw g n s c := by
  intro k
  induction k with
  | zero => intro s c h; rw [show s = 0 by omega]; rfl
  | succ k ih =>
    intro s c h
    by_cases hs : s = k + 1
    · subst hs; rfl
    · show (if s ≤ k then fwT g n k s c else _) = _
      rw [if_pos (by omega)]
      exact ih s c (by omega)
theorem stp_pos {g : tG_} {n : Nat} {c d : tC} {h t : Nat} (hs : stp g n c h = some (d, t)) : 1 ≤ t := by
  unfold stp at hs
  split at hs
  · rename_i q; cases hs; omega
  · cases hs
theorem fw_0 {g : tG_} {n : Nat} {c : tC} : fw g n 0 c = some 0 := rfl
theorem fw_s {g : tG_} {n s : Nat} {c : tC} (hs : 1 ≤ s) : fw g n s c = minO 256 (byS g n s c) := by
  obtain ⟨k, rfl⟩ : ∃ k, s = k + 1 := ⟨s - 1, by omega⟩
  unfold fw
  show (if k + 1 ≤ k then _ else if k + 1 = k + 1 then minO 256 _ else none) = _
  rw [if_neg (by omega), if_pos rfl]
  refine congrArg (minO 256) (funext fun h => ?_)
  unfold byS
  cases he : stp g n c h with
  | none => rfl
  | some q =>
    obtain ⟨d, t⟩ := q
    have := stp_pos he
    show (if t ≤ k + 1 then _ else none) = (if t ≤ k + 1 then _ else none)
    by_cases ht : t ≤ k + 1
    · rw [if_pos ht, if_pos ht, fwT_st k (k + 1 - t) d (by omega)]
    · rw [if_neg ht, if_neg ht]
theorem minO_some {f : Nat → Option Nat} : ∀ {k v}, minO k f = some v → ∃ h, h < k ∧ f h = some v := by
  intro k
  induction k with
  | zero => intro v h; cases h
  | succ k ih =>
    intro v h
    unfold minO at h
    cases ha : minO k f with
    | none => rw [ha] at h; exact ⟨k, by omega, h⟩
    | some a =>
      rw [ha] at h
      cases hb : f k with
      | none => rw [hb] at h; obtain ⟨x, x1, x2⟩ := ih ha; cases h; exact ⟨x, by omega, x2⟩
      | some b =>
        rw [hb] at h
        simp only [omin] at h
        by_cases hl : b < a
        · rw [if_pos hl] at h; cases h; exact ⟨k, by omega, hb⟩
        · rw [if_neg hl] at h; cases h; obtain ⟨x, x1, x2⟩ := ih ha; exact ⟨x, by omega, x2⟩
theorem minO_le {f : Nat → Option Nat} : ∀ {k h w}, h < k → f h = some w → ∃ v, minO k f = some v ∧ v ≤ w := by
  intro k
  induction k with
  | zero => intro h w hh; omega
  | succ k ih =>
    intro h w hh hw
    unfold minO
    by_cases he : h = k
    · subst he
      rw [hw]
      cases minO h f with
      | none => exact ⟨w, rfl, Nat.le_refl _⟩
      | some a =>
        simp only [omin]
        by_cases hl : w < a
        · rw [if_pos hl]; exact ⟨w, rfl, Nat.le_refl _⟩
        · rw [if_neg hl]; exact ⟨a, rfl, by omega⟩
    · obtain ⟨v, v1, v2⟩ := ih (by omega) hw
      rw [v1]
      cases f k with
      | none => exact ⟨v, rfl, v2⟩
      | some b =>
        simp only [omin]
        by_cases hl : b < v
        · rw [if_pos hl]; exact ⟨b, rfl, by omega⟩
        · rw [if_neg hl]; exact ⟨v, rfl, v2⟩
theorem minO_none {f : Nat → Option Nat} {k : Nat} (h : minO k f = none) : ∀ x, x < k → f x = none := by
  intro x hx
  cases hf : f x with
  | none => rfl
  | some w => obtain ⟨v, v1, -⟩ := minO_le hx hf; rw [h] at v1; cases v1
theorem byS_some {g : tG_} {n s : Nat} {c : tC} {h v : Nat} (hb : byS g n s c h = some v) : ∃ d t w, stp g n c h = some (d, t) ∧ t ≤ s ∧ fw g n (s - t) d = some w ∧ v = w + cnt h := by
  unfold byS at hb
  cases he : stp g n c h with
  | none => rw [he] at hb; cases hb
  | some q =>
    obtain ⟨d, t⟩ := q
    rw [he] at hb
    dsimp only at hb
    by_cases ht : t ≤ s
    · rw [if_pos ht] at hb
      cases hf : fw g n (s - t) d with
      | none => rw [hf] at hb; cases hb
      | some w => rw [hf] at hb; cases hb; exact ⟨d, t, w, rfl, ht, hf, rfl⟩
    · rw [if_neg ht] at hb; cases hb
theorem fw_le {g : tG_} {n : Nat} : ∀ s c v, fw g n s c = some v → v ≤ 4 * s := by
  intro s
  induction s using Nat.strongRecOn with
  | _ s ih =>
    intro c v h
    by_cases hs : s = 0
    · subst hs; cases h; omega
    · rw [fw_s (by omega)] at h
      obtain ⟨x, x1, x2⟩ := minO_some h
      obtain ⟨d, t, w, y1, y2, y3, y4⟩ := byS_some x2
      have ht := stp_pos y1
      have := ih (s - t) (by omega) d w y3
      have := cnt_le x
      omega
abbrev enc (o : Option Nat) : Int32 := match o with
  | none => -1
  | some v => nI v
def FT (g : tG_) (n : Nat) (ft : Nat → Int32) (N : Nat) (Cs : Nat → tC) (S : Nat) : Prop := ∀ s, s < S → ∀ b, b < N → ft (600 * s + b) = enc (fw g n s (Cs b))
theorem byM {g : tG_} {n : Nat} {mf : tMF} {N : Nat} {Cs : Nat → tC} {c h s : Nat} (hG : GOK g n) (hR : Rch g n (Cs c)) (hN : N ≤ 600) (hc : c < N) (hh : h < 256) (hs : s ≤ 60) (hE : MEnt g n mf.2.2.2.1 mf.2.2.2.2.1 N Cs c h) (hF : FT g n mf.2.2.2.2.2.1 N Cs s) : f_X9_by mf (nI c) (nI h) (nI s) = some (enc (byS g n s (Cs c) h)) := by
  unfold f_X9_by
  have ea : (256 : Int32) * nI c + nI h = nI (256 * c + h) := by rw [show (256 : Int32) = nI 256 from rfl, pk_mul, nI_add]
  simp only [ea, inb_t (show 256 * c + h < 2 ^ 31 by omega) (show 256 * c + h < 153600 by omega), nI_clamp (show 256 * c + h < 2 ^ 31 by omega), if_true]
  rcases hE with ⟨e1, e2⟩ | ⟨b, t, b1, b2', b3, b4⟩
  · rw [e2, if_pos (show (-1 : Int32) < 0 by decide)]
    unfold byS
    rw [e1]
  · have ht := stp_pos b2'
    rw [b3, b4, if_neg (nI_pos (by omega))]
    have ht39 := (stp_ok hG (Rch_ok hG hR) b2').2.2
    unfold byS
    rw [b2']
    dsimp only
    by_cases hts : t ≤ s
    · have em : nI s - nI t = nI (s - t) := pk_sub hts
      have ex : (600 : Int32) * nI (s - t) + nI b = nI (600 * (s - t) + b) := by rw [show (600 : Int32) = nI 600 from rfl, pk_mul, nI_add]
      rw [if_pos (nI_le hts (by omega)), if_pos hts]
      simp only [em, ex, inb_t (show 600 * (s - t) + b < 2 ^ 31 by omega) (show 600 * (s - t) + b < 36600 by omega), nI_clamp (show 600 * (s - t) + b < 2 ^ 31 by omega), if_true]
      rw [hF (s - t) (by omega) b b1]
      cases hf : fw g n (s - t) (Cs b) with
      | none => rfl
      | some w =>
        have hw := fw_le _ _ _ hf
        show (if 0 ≤ nI w then _ else _) = _
        rw [if_pos (nI_pos' (by omega)), cntM hh]
        simp only [Option.bind_some]
        show some (nI w + nI (cnt h)) = some (nI (w + cnt h))
        rw [nI_add]
    · rw [if_neg hts, if_neg]
      intro q
      exact hts ((nI_leI (by omega) (by omega)).mp q)
theorem enc_lt {o : Option Nat} (h : ∀ v, o = some v → v < 2 ^ 31) : (enc o < 0) = (o = none) := by
  apply propext
  cases o with
  | none => exact ⟨fun _ => rfl, fun _ => by decide⟩
  | some v => exact ⟨fun q => absurd q (nI_pos (h v rfl)), fun q => by cases q⟩
theorem minO_bd {f : Nat → Option Nat} {B k : Nat} (h : ∀ x v, f x = some v → v ≤ B) : ∀ v, minO k f = some v → v ≤ B := fun v hv => by
  obtain ⟨x, -, x2⟩ := minO_some hv
  exact h x v x2
theorem byS_bd {g : tG_} {n s : Nat} {c : tC} : ∀ h v, byS g n s c h = some v → v ≤ 4 * s := by
  intro h v hv
  obtain ⟨d, t, w, y1, y2, y3, y4⟩ := byS_some hv
  have ht := stp_pos y1
  have := fw_le _ _ _ y3
  have := cnt_le h
  omega
theorem least_loop {g : tG_} {n : Nat} {mf : tMF} {N : Nat} {Cs : Nat → tC} {c s : Nat} (hG : GOK g n) (hR : Rch g n (Cs c)) (hN : N ≤ 600) (hc : c < N) (hs : s ≤ 60) (hE : ∀ h, h < 256 → MEnt g n mf.2.2.2.1 mf.2.2.2.2.1 N Cs c h) (hF : FT g n mf.2.2.2.2.2.1 N Cs s) : ∀ (m h : Nat), h ≤ 256 → 256 - h < m → f_X9_leastFrom_5 m mf (nI c) (nI s) (enc (minO h (byS g n s (Cs c)))) (nI h) = some (enc (minO 256 (byS g n s (Cs c))), nI 256) := by
  intro m
  induction m with
  | zero => intro h _ h1; omega
  | succ m ih =>
    intro h hh hm
    rw [f_X9_leastFrom_5]
    by_cases he : h = 256
    · subst he
      rw [if_pos (show (256 : Int32) ≤ nI 256 by decide)]
    · rw [if_neg (show ¬ (256 : Int32) ≤ nI h from nI_ge (b := 256) (by omega) (by omega)), byM hG hR hN hc (show h < 256 by omega) hs (hE h (by omega)) hF]
      have hb1 := byS_bd (g := g) (n := n) (s := s) (c := Cs c)
      have hb2 := minO_bd (k := h) hb1
      simp only [Option.bind_some, nI_1, enc_lt (fun v hv => by have := hb1 h v hv; omega), enc_lt (fun v hv => by have := hb2 v hv; omega)]
      have hI := ih (h + 1) (by omega) (by omega)
      have es : minO (h + 1) (byS g n s (Cs c)) = omin (minO h (byS g n s (Cs c))) (byS g n s (Cs c) h) := rfl
      rw [es] at hI
      cases hx : byS g n s (Cs c) h with
      | none =>
        rw [if_pos rfl]
        rw [hx] at hI
        cases hy : minO h (byS g n s (Cs c)) with
        | none => rw [hy] at hI; exact hI
        | some a => rw [hy] at hI; exact hI
      | some b =>
        rw [if_neg (by simp)]
        rw [hx] at hI
        have := hb1 h b hx
        cases hy : minO h (byS g n s (Cs c)) with
        | none => rw [if_pos rfl]; rw [hy] at hI; exact hI
        | some a =>
          have := hb2 a hy
          rw [if_neg (by simp)]
          rw [hy] at hI
          simp only [omin] at hI
          show (if nI a ≤ nI b then _ else _) = _
          by_cases hl : b < a
          · rw [if_neg (nI_ge hl (by omega))]
            rw [if_pos hl] at hI
            exact hI
          · rw [if_pos (nI_le (by omega) (by omega))]
            rw [if_neg hl] at hI
            exact hI
theorem leastM {g : tG_} {n : Nat} {mf : tMF} {N : Nat} {Cs : Nat → tC} {c s : Nat} (hG : GOK g n) (hR : Rch g n (Cs c)) (hN : N ≤ 600) (hc : c < N) (hs : s ≤ 60) (hs1 : 1 ≤ s) (hE : ∀ h, h < 256 → MEnt g n mf.2.2.2.1 mf.2.2.2.2.1 N Cs c h) (hF : FT g n mf.2.2.2.2.2.1 N Cs s) : f_X9_leastFrom mf (nI c) (nI s) = some (enc (fw g n s (Cs c))) := by
  unfold f_X9_leastFrom
  have h1 := least_loop hG hR hN hc hs hE hF 100000 0 (by omega) (by omega)
  have h1' : f_X9_leastFrom_5 100000 mf (nI c) (nI s) (-1) 0 = _ := h1
  rw [h1', fw_s hs1]
  simp only [Option.bind_some]
/-- the rest of the reference's tables, kept while the fewest are found -/
abbrev setF (mf : tMF) (ft : Nat → Int32) : tMF := (mf.1, mf.2.1, mf.2.2.1, mf.2.2.2.1, mf.2.2.2.2.1, ft, mf.2.2.2.2.2.2.1, mf.2.2.2.2.2.2.2)
theorem row_loop {g : tG_} {n : Nat} {mf : tMF} {N : Nat} {Cs : Nat → tC} {s : Nat} (hG : GOK g n) (hM : ME g n mf N Cs) (hN : N ≤ 600) (hs : s ≤ 60) (hE : MEall g n mf N Cs N) : ∀ (m c : Nat) (ft : Nat → Int32), FT g n ft N Cs s → (∀ b, b < c → ft (600 * s + b) = enc (fw g n s (Cs b))) → c ≤ N → N - c < m → ∃ ft', f_X9_findAll_75 m (setF mf ft) (nI s) (nI c) = some (nI N, setF mf ft') ∧ FT g n ft' N Cs (s + 1) := by
  obtain ⟨e1, e2, e3, e4, e5, e6⟩ := hM
  intro m
  induction m with
  | zero => intro c ft _ _ _ h1; omega
  | succ m ih =>
    intro c ft hF hrow hc hm
    rw [f_X9_findAll_75]
    show ∃ ft', (if mf.2.2.1 ≤ nI c then _ else _) = _ ∧ _
    by_cases he : c = N
    · subst he
      rw [if_pos (show mf.2.2.1 ≤ nI c by rw [e3]; exact nI_le (Nat.le_refl _) (by omega))]
      refine ⟨ft, rfl, fun s' hs' b hb => ?_⟩
      by_cases hss : s' = s
      · subst hss; exact hrow b hb
      · exact hF s' (by omega) b hb
    · rw [if_neg (show ¬ mf.2.2.1 ≤ nI c by rw [e3]; exact nI_ge (by omega) (by omega))]
      have ex : (600 : Int32) * nI s + nI c = nI (600 * s + c) := by rw [show (600 : Int32) = nI 600 from rfl, pk_mul, nI_add]
      have e0 : (nI s = (0 : Int32)) = (s = 0) := propext (nI_eq (b := 0) (by omega) (by omega))
      simp only [ex, e0, inb_t (show 600 * s + c < 2 ^ 31 by omega) (show 600 * s + c < 36600 by omega), nI_clamp (show 600 * s + c < 2 ^ 31 by omega), if_true, nI_1]
      have next : ∃ ft', f_X9_findAll_75 m (setF mf (upd ft (600 * s + c) (enc (fw g n s (Cs c))))) (nI s) (nI (c + 1)) = some (nI N, setF mf ft') ∧ FT g n ft' N Cs (s + 1) := by
        refine ih (c + 1) _ (fun s' hs' b hb => ?_) (fun b hb => ?_) (by omega) (by omega)
        · rw [upd_n (by omega)]; exact hF s' hs' b hb
        · by_cases hbc : b = c
          · subst hbc; exact upd_s
          · rw [upd_n (by omega)]; exact hrow b (by omega)
      by_cases hs0 : s = 0
      · rw [if_pos hs0]
        subst hs0
        exact next
      · rw [if_neg hs0, leastM (mf := setF mf ft) hG (e5 c (by omega)).1 hN (by omega) hs (by omega) (fun h hh => hE c (by omega) h hh) hF]
        exact next
theorem tab_loop {g : tG_} {n : Nat} {mf : tMF} {N : Nat} {Cs : Nat → tC} (hG : GOK g n) (hM : ME g n mf N Cs) (hN : N ≤ 600) (hE : MEall g n mf N Cs N) : ∀ (m s : Nat) (ft : Nat → Int32), FT g n ft N Cs s → s ≤ 61 → 61 - s < m → ∃ ft', f_X9_findAll_67 m (setF mf ft) (nI s) = some (nI 61, setF mf ft') ∧ FT g n ft' N Cs 61 := by
  intro m
  induction m with
  | zero => intro s ft _ _ h1; omega
  | succ m ih =>
    intro s ft hF hs hm
    rw [f_X9_findAll_67]
    by_cases he : s = 61
    · subst he
      rw [if_pos (show (60 : Int32) < nI 61 by decide)]
      exact ⟨ft, rfl, hF⟩
    · rw [if_neg (show ¬ (60 : Int32) < nI s from nI_nlt (a := 60) (b := s) (by omega) (by omega) |> fun q => q)]
      obtain ⟨ft1, h1, h2⟩ := row_loop hG hM hN (show s ≤ 60 by omega) hE 100000 0 ft hF (fun b hb => by omega) (by omega) (by omega)
      have h1' : f_X9_findAll_75 100000 (setF mf ft) (nI s) 0 = _ := h1
      rw [h1']
      simp only [Option.bind_some, nI_1]
      exact ih (s + 1) ft1 h2 (by omega) (by omega)
