/-! pure: the reference's soonest moments -/
theorem nd_len : ∀ (l1 l2 : List Nat), l1.Nodup → (∀ x, x ∈ l1 → x ∈ l2) → l1.length ≤ l2.length := by
  intro l1
  induction l1 with
  | nil => intro l2 _ _; exact Nat.zero_le _
  | cons a l ih =>
    intro l2 hn hs
    have h1 := List.nodup_cons.mp hn
    have ha := hs a List.mem_cons_self
    have h2 := ih (l2.erase a) h1.2 (fun x hx => (List.mem_erase_of_ne (fun q => h1.1 (by rw [← q]; exact hx))).mpr (hs x (List.mem_cons_of_mem _ hx)))
    rw [List.length_erase_of_mem ha] at h2
    have h3 : 0 < l2.length := List.length_pos_of_mem ha
    simp only [List.length_cons]
    omega
theorem free_one {L : List Nat} {N : Nat} (hl : L.length < N) : ∃ c, c < N ∧ c ∉ L := by
  refine Classical.byContradiction fun h => ?_
  have h1 : ∀ x, x ∈ List.range N → x ∈ L := fun x hx => Classical.byContradiction fun q => h ⟨x, List.mem_range.mp hx, q⟩
  have := nd_len (List.range N) L List.nodup_range h1
  rw [List.length_range] at this
  omega
theorem full_all {L : List Nat} {N : Nat} (hn : L.Nodup) (hb : ∀ x, x ∈ L → x < N) (hl : L.length = N) : ∀ c, c < N → c ∈ L := by
  intro c hc
  refine Classical.byContradiction fun q => ?_
  have h1 := nd_len (c :: L) (List.range N) (List.nodup_cons.mpr ⟨q, hn⟩) (fun x hx => by
    rcases List.mem_cons.mp hx with rfl | h
    · exact List.mem_range.mpr hc
    · exact List.mem_range.mpr (hb x h))
  rw [List.length_range, List.length_cons] at h1
  omega
abbrev INF : Nat := 2147483647
def Dist (g : tG_) (n : Nat) (N : Nat) (Cs : Nat → tC) (ds : Nat → Nat) : Prop :=
  ds 0 = 0 ∧ (∀ a b h t, a < N → b < N → h < 256 → stp g n (Cs a) h = some (Cs b, t) → ds b ≤ ds a + t) ∧ (∀ b, b < N → b ≠ 0 → ∃ a h t, a < N ∧ h < 256 ∧ stp g n (Cs a) h = some (Cs b, t) ∧ ds b = ds a + t) ∧ ∀ c, c < N → ds c ≤ 39 * N
/-- the state of the search: done ones L, moments sN -/
def DI (g : tG_) (n : Nat) (N : Nat) (Cs : Nat → tC) (L : List Nat) (sN : Nat → Nat) : Prop :=
  L.Nodup ∧ (∀ c, c ∈ L → c < N) ∧ sN 0 = 0 ∧ (∀ c, c < N → sN c = INF ∨ sN c ≤ 39 * L.length) ∧ (∀ c, c ∈ L → sN c ≠ INF) ∧ (∀ a b, a ∈ L → b < N → b ∉ L → sN a ≤ sN b) ∧ (∀ a b h t, a ∈ L → b < N → h < 256 → stp g n (Cs a) h = some (Cs b, t) → sN b ≤ sN a + t) ∧ (∀ b, b < N → b ≠ 0 → sN b ≠ INF → ∃ a h t, a ∈ L ∧ h < 256 ∧ stp g n (Cs a) h = some (Cs b, t) ∧ sN b = sN a + t) ∧ (L ≠ [] → 0 ∈ L)
theorem best_loop {N : Nat} (hN : N ≤ 600) {mf : tMF} (hm : mf.2.2.1 = nI N) {L : List Nat} {sN : Nat → Nat} (hd : ∀ c, c < N → mf.2.2.2.2.2.2.2 c = b2 (decide (c ∈ L))) (hs : ∀ c, c < N → mf.2.2.2.2.2.2.1 c = nI (sN c) ∧ sN c < 2 ^ 31) (x1 : Int32) : ∀ (m i : Nat) (b : Option Nat), i ≤ N → N - i < m → (∀ v, b = some v → v < N ∧ v ∉ L ∧ ∀ c, c < i → c ∉ L → sN v ≤ sN c) → (b = none → ∀ c, c < i → c ∈ L) → (∃ v, v < N ∧ v ∉ L ∧ (∀ c, c < N → c ∉ L → sN v ≤ sN c) ∧ f_X9_findSoon_53 m mf x1 (enc b) (nI i) = some (nI v, nI N)) ∨ ∀ c, c < N → c ∈ L := by
  intro m
  induction m with
  | zero => intro i b _ h; omega
  | succ m ih =>
    intro i b hi hmm hb1 hb2
    rw [f_X9_findSoon_53, hm]
    by_cases he : i = N
    · subst he
      rw [if_pos (nI_le (Nat.le_refl _) (by omega))]
      cases b with
      | none => exact Or.inr (hb2 rfl)
      | some v => obtain ⟨v1, v2, v3⟩ := hb1 v rfl; exact Or.inl ⟨v, v1, v2, v3, rfl⟩
    · have hin : i < N := by omega
      obtain ⟨s1, s2⟩ := hs i hin
      rw [if_neg (nI_ge hin (by omega)), if_pos (inb_t (by omega) (by omega)), nI_clamp (by omega), hd i hin, nI_1]
      by_cases hL : i ∈ L
      · rw [decide_eq_true hL, if_neg (show ¬ b2 true = 0 by decide)]
        refine ih (i + 1) b (by omega) (by omega) (fun v hv => ?_) (fun hv c hc => ?_)
        · obtain ⟨v1, v2, v3⟩ := hb1 v hv
          refine ⟨v1, v2, fun c hc hcL => ?_⟩
          by_cases hci : c = i
          · subst hci; exact absurd hL hcL
          · exact v3 c (by omega) hcL
        · by_cases hci : c = i
          · subst hci; exact hL
          · exact hb2 hv c (by omega)
      · rw [decide_eq_false hL, if_pos (show b2 false = 0 from rfl)]
        have new : (∀ c, c < i → c ∉ L → sN i ≤ sN c) → (∃ v, v < N ∧ v ∉ L ∧ (∀ c, c < N → c ∉ L → sN v ≤ sN c) ∧ f_X9_findSoon_53 m mf x1 (enc (some i)) (nI (i + 1)) = some (nI v, nI N)) ∨ ∀ c, c < N → c ∈ L := fun hlt => by
          refine ih (i + 1) (some i) (by omega) (by omega) (fun v hv => ?_) (fun hv => by cases hv)
          cases hv
          refine ⟨hin, hL, fun c hc hcL => ?_⟩
          by_cases hci : c = i
          · subst hci; exact Nat.le_refl _
          · exact hlt c (by omega) hcL
        cases b with
        | none =>
          rw [if_pos (show enc none < 0 by decide)]
          exact new (fun c hc hcL => absurd (hb2 rfl c hc) hcL)
        | some v =>
          obtain ⟨v1, v2, v3⟩ := hb1 v rfl
          obtain ⟨t1, t2⟩ := hs v v1
          rw [if_neg (show ¬ enc (some v) < 0 from nI_pos (by omega))]
          have ev : inb (enc (some v)) 600 = true := inb_t (by omega) (by omega)
          have ec : (enc (some v)).toNatClampNeg = v := nI_clamp (by omega)
          simp only [ev, ec, if_true, s1, t1, inb_t (show i < 2 ^ 31 by omega) (show i < 600 by omega)]
          by_cases hle : sN v ≤ sN i
          · rw [if_pos (nI_le hle s2)]
            refine ih (i + 1) (some v) (by omega) (by omega) (fun v' hv => ?_) (fun hv => by cases hv)
            cases hv
            refine ⟨v1, v2, fun c hc hcL => ?_⟩
            by_cases hci : c = i
            · subst hci; exact hle
            · exact v3 c (by omega) hcL
          · rw [if_neg (nI_ge (by omega) t2)]
            exact new (fun c hc hcL => by have := v3 c hc hcL; omega)
