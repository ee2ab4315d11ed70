/-! pure: the reference's soonest moments, on -/
abbrev setS (mf : tMF) (sa dn : Nat → Int32) : tMF := (mf.1, mf.2.1, mf.2.2.1, mf.2.2.2.1, mf.2.2.2.2.1, mf.2.2.2.2.2.1, sa, dn)
theorem relax_loop {g : tG_} {n : Nat} (hG : GOK g n) {mf : tMF} {N : Nat} {Cs : Nat → tC} (hN : N ≤ 600) (hM : ME g n mf N Cs) (hE : MEall g n mf N Cs N) {u : Nat} (hu : u < N) {sN : Nat → Nat} (hsu : sN u ≤ 39 * 600) (x1 : Int32) (dn : Nat → Int32) : ∀ (m h : Nat) (sa : Nat → Int32) (sH : Nat → Nat), h ≤ 256 → 256 - h < m → (∀ c, c < N → sa c = nI (sH c) ∧ sH c < 2 ^ 31) → (∀ c, c < N → sH c ≤ sN c) → (∀ b h' t, b < N → h' < h → stp g n (Cs u) h' = some (Cs b, t) → sH b ≤ sN u + t) → (∀ b, b < N → sH b = sN b ∨ ∃ h' t, h' < 256 ∧ stp g n (Cs u) h' = some (Cs b, t) ∧ sH b = sN u + t ∧ sN u + t < sN b) → ∃ (sa' : Nat → Int32) (sH' : Nat → Nat), f_X9_findSoon_110 m (setS mf sa dn) x1 (nI u) (nI h) = some (nI 256, setS mf sa' dn) ∧ (∀ c, c < N → sa' c = nI (sH' c) ∧ sH' c < 2 ^ 31) ∧ (∀ c, c < N → sH' c ≤ sN c) ∧ (∀ b h' t, b < N → h' < 256 → stp g n (Cs u) h' = some (Cs b, t) → sH' b ≤ sN u + t) ∧ (∀ b, b < N → sH' b = sN b ∨ ∃ h' t, h' < 256 ∧ stp g n (Cs u) h' = some (Cs b, t) ∧ sH' b = sN u + t ∧ sN u + t < sN b) := by
  have hRu := (hM.2.2.2.2.1 u hu).1
  have hinj := hM.2.2.2.2.2
  intro m
  induction m with
  | zero => intro h sa sH _ h1; omega
  | succ m ih =>
    intro h sa sH hh hm h1 h2 h3 h4
    rw [f_X9_findSoon_110]
    by_cases he : h = 256
    · subst he
      rw [if_pos (show (256 : Int32) ≤ nI 256 by decide)]
      exact ⟨sa, sH, rfl, h1, h2, h3, h4⟩
    · rw [if_neg (show ¬ (256 : Int32) ≤ nI h from nI_ge (b := 256) (by omega) (by omega))]
      have ea : (256 : Int32) * nI u + nI h = nI (256 * u + h) := by rw [show (256 : Int32) = nI 256 from rfl, pk_mul, nI_add]
      simp only [ea, inb_t (show 256 * u + h < 2 ^ 31 by omega) (show 256 * u + h < 153600 by omega), inb_t (show u < 2 ^ 31 by omega) (show u < 600 by omega), nI_clamp (show u < 2 ^ 31 by omega), nI_clamp (show 256 * u + h < 2 ^ 31 by omega), if_true, nI_1]
      have hsu' : sH u = sN u := by
        rcases h4 u hu with q | ⟨h', t, q1, q2, q3, q4⟩
        · exact q
        · omega
      rcases hE u hu h (by omega) with ⟨e1, e2⟩ | ⟨b, t, b1, b2', b3, b4⟩
      · rw [e2, if_pos (show (-1 : Int32) < 0 by decide)]
        refine ih (h + 1) sa sH (by omega) (by omega) h1 h2 (fun b h' t hb hh' hst => ?_) h4
        by_cases hhh : h' = h
        · subst hhh; rw [e1] at hst; cases hst
        · exact h3 b h' t hb (by omega) hst
      · have ht := (stp_ok hG (Rch_ok hG hRu) b2').2
        rw [b3, b4, if_neg (nI_pos (by omega)), if_pos (inb_t (by omega) (by omega)), nI_clamp (by omega), (h1 b b1).1, (h1 u hu).1, hsu', nI_add]
        by_cases hle : sH b ≤ sN u + t
        · rw [if_pos (nI_le hle (by omega))]
          refine ih (h + 1) sa sH (by omega) (by omega) h1 h2 (fun b' h' t' hb hh' hst => ?_) h4
          by_cases hhh : h' = h
          · subst hhh
            rw [b2'] at hst
            have hst' := Option.some.inj hst
            have e1 := hinj b b' b1 hb (congrArg Prod.fst hst')
            have e2 := congrArg Prod.snd hst'
            dsimp only at e2
            rw [← e1, ← e2]; exact hle
          · exact h3 b' h' t' hb (by omega) hst
        · rw [if_neg (nI_ge (by omega) (h1 b b1).2), if_pos (inb_t (by omega) (by omega))]
          have hb2 := h2 b b1
          refine ih (h + 1) (upd sa b (nI (sN u + t))) (fun c => if c = b then sN u + t else sH c) (by omega) (by omega) (fun c hc => ?_) (fun c hc => ?_) (fun b' h' t' hb hh' hst => ?_) (fun c hc => ?_)
          · by_cases hcb : c = b
            · subst hcb; rw [upd_s, if_pos rfl]; exact ⟨rfl, by omega⟩
            · rw [upd_n hcb, if_neg hcb]; exact h1 c hc
          · by_cases hcb : c = b
            · subst hcb; rw [if_pos rfl]; omega
            · rw [if_neg hcb]; exact h2 c hc
          · by_cases hbb : b' = b
            · subst hbb
              rw [if_pos rfl]
              by_cases hhh : h' = h
              · subst hhh
                rw [b2'] at hst
                have e2 := congrArg Prod.snd (Option.some.inj hst)
                dsimp only at e2
                omega
              · have := h3 b' h' t' hb (by omega) hst
                omega
            · rw [if_neg hbb]
              by_cases hhh : h' = h
              · subst hhh
                rw [b2'] at hst
                exact absurd (hinj b b' b1 hb (congrArg Prod.fst (Option.some.inj hst))).symm hbb
              · exact h3 b' h' t' hb (by omega) hst
          · by_cases hcb : c = b
            · subst hcb
              rw [if_pos rfl]
              exact Or.inr ⟨h, t, by omega, b2', rfl, by omega⟩
            · rw [if_neg hcb]; exact h4 c hc
/-- among those that aren't done one can be come to -/
theorem open_one {g : tG_} {n : Nat} (hG : GOK g n) {mf : tMF} {N : Nat} {Cs : Nat → tC} (hM : ME g n mf N Cs) (hE : MEall g n mf N Cs N) {L : List Nat} {sN : Nat → Nat} (hI : DI g n N Cs L sN) {c : Nat} (hc : c < N) (hcL : c ∉ L) : ∃ v, v < N ∧ v ∉ L ∧ sN v ≠ INF := by
  obtain ⟨i1, i2, i3, i4, i5, i6, i7, i8, i9⟩ := hI
  by_cases h0 : 0 ∈ L
  · refine Classical.byContradiction fun hno => ?_
    have clo : ∀ k d, rk g n k d → ∃ a, a ∈ L ∧ Cs a = d := by
      intro k
      induction k with
      | zero => intro d hd; exact ⟨0, h0, by rw [hM.2.2.2.1]; exact (show d = c00 from hd).symm⟩
      | succ k ih =>
        rintro d ⟨c', h, t, h1, h2, h3⟩
        obtain ⟨a, a1, a2⟩ := ih c' h1
        have aN := i2 a a1
        rcases hE a aN h h2 with ⟨e1, -⟩ | ⟨b, t', b1, b2', -, -⟩
        · rw [a2, h3] at e1; cases e1
        · have hb : Cs b = d := by
            rw [a2, h3] at b2'
            exact (congrArg Prod.fst (Option.some.inj b2')).symm
          refine ⟨b, Classical.byContradiction fun hbL => ?_, hb⟩
          have h7 := i7 a b h t' a1 b1 h2 b2'
          have h5 := i5 a a1
          have h4 := i4 a aN
          have hlen := nd_len L (List.range N) i1 (fun x hx => List.mem_range.mpr (i2 x hx))
          rw [List.length_range] at hlen
          have hN6 := hM.2.1
          have ht39 := (stp_ok hG (Rch_ok hG (hM.2.2.2.2.1 a aN).1) b2').2.2
          refine hno ⟨b, b1, hbL, fun q3 => ?_⟩
          have h9 : 2147483647 ≤ sN a + t' := by rw [q3] at h7; exact h7
          rcases h4 with h4 | h4
          · exact h5 h4
          · omega
    obtain ⟨k, hk⟩ := (hM.2.2.2.2.1 c hc).1
    obtain ⟨a, a1, a2⟩ := clo k (Cs c) hk
    exact hcL (by rw [← hM.2.2.2.2.2 a c (i2 a a1) hc a2]; exact a1)
  · exact ⟨0, by have := hM.1; omega, h0, by rw [i3]; decide⟩
theorem main_loop {g : tG_} {n : Nat} (hG : GOK g n) {mf : tMF} {N : Nat} {Cs : Nat → tC} (hN : N ≤ 600) (hM : ME g n mf N Cs) (hE : MEall g n mf N Cs N) : ∀ (m : Nat) (L : List Nat) (sN : Nat → Nat) (sa dn : Nat → Int32), DI g n N Cs L sN → (∀ c, c < N → dn c = b2 (decide (c ∈ L))) → (∀ c, c < N → sa c = nI (sN c) ∧ sN c < 2 ^ 31) → N - L.length < m → ∃ (sa' dn' : Nat → Int32) (ds : Nat → Nat), f_X9_findSoon_41 m (setS mf sa dn) (nI L.length) = some (nI N, setS mf sa' dn') ∧ Dist g n N Cs ds ∧ ∀ c, c < N → sa' c = nI (ds c) := by
  have e3 := hM.2.2.1
  intro m
  induction m with
  | zero => intro L sN sa dn _ _ _ h; omega
  | succ m ih =>
    intro L sN sa dn hI hdn hsa hm
    have hI' := hI
    obtain ⟨i1, i2, i3, i4, i5, i6, i7, i8, i9⟩ := hI
    have hlen := nd_len L (List.range N) i1 (fun x hx => List.mem_range.mpr (i2 x hx))
    rw [List.length_range] at hlen
    rw [f_X9_findSoon_41]
    by_cases he : L.length = N
    · rw [if_pos (show mf.2.2.1 ≤ nI L.length by rw [e3, he]; exact nI_le (Nat.le_refl _) (by omega)), he]
      have hall := full_all i1 i2 he
      refine ⟨sa, dn, sN, rfl, ⟨i3, fun a b h t ha hb hh hst => i7 a b h t (hall a ha) hb hh hst, fun b hb hb0 => ?_, fun c hc => ?_⟩, fun c hc => (hsa c hc).1⟩
      · obtain ⟨a, h, t, q1, q2, q3, q4⟩ := i8 b hb hb0 (i5 b (hall b hb))
        exact ⟨a, h, t, i2 a q1, q2, q3, q4⟩
      · rcases i4 c hc with q | q
        · exact absurd q (i5 c (hall c hc))
        · rw [he] at q; exact q
    · rw [if_neg (show ¬ mf.2.2.1 ≤ nI L.length by rw [e3]; exact nI_ge (by omega) (by omega))]
      obtain ⟨c0, hc0, hc0L⟩ := free_one (L := L) (N := N) (by omega)
      rcases best_loop hN (mf := setS mf sa dn) e3 hdn hsa (nI L.length) 100000 0 none (by omega) (by omega) (fun v hv => by cases hv) (fun _ c hc => by omega) with ⟨u, u1, u2, u3, u4⟩ | hall
      case inr => exact absurd (hall c0 hc0) hc0L
      have u4' : f_X9_findSoon_53 100000 (setS mf sa dn) (nI L.length) (-1) 0 = _ := u4
      rw [u4']
      simp only [Option.bind_some, inb_t (show u < 2 ^ 31 by omega) (show u < 600 by omega), nI_clamp (show u < 2 ^ 31 by omega), if_true, nar1, nI_1]
      obtain ⟨w, w1, w2, w3⟩ := open_one hG hM hE hI' hc0 hc0L
      have hwu := u3 w w1 w2
      have hu39 : sN u ≤ 39 * L.length := by
        rcases i4 w w1 with q | q
        · exact absurd q w3
        · omega
      obtain ⟨sa', sH, r1, r2, r3, r4, r5⟩ := relax_loop hG hN hM hE u1 (sN := sN) (by omega) (nI L.length) (upd dn u 1) 100000 0 sa sN (by omega) (by omega) hsa (fun _ _ => Nat.le_refl _) (fun b h' t _ hh' _ => by omega) (fun b _ => Or.inl rfl)
      have r1' : f_X9_findSoon_110 100000 (setS mf sa (upd dn u 1)) (nI L.length) (nI u) 0 = _ := r1
      rw [r1']
      simp only [Option.bind_some]
      have keepL : ∀ a, a ∈ L → sH a = sN a := by
        intro a ha
        rcases r5 a (i2 a ha) with q | ⟨h', t, q1, q2, q3, q4⟩
        · exact q
        · have := i6 a u ha u1 u2
          omega
      have keepU : sH u = sN u := by
        rcases r5 u u1 with q | ⟨h', t, q1, q2, q3, q4⟩
        · exact q
        · omega
      have hle6 := hM.2.1
      have hDI : DI g n N Cs (u :: L) sH := by
        refine ⟨List.nodup_cons.mpr ⟨u2, i1⟩, fun c hc => ?_, ?_, fun c hc => ?_, fun c hc => ?_, fun a b ha hb hbL => ?_, fun a b h t ha hb hh hst => ?_, fun b hb hb0 hbi => ?_, fun _ => ?_⟩
        · rcases List.mem_cons.mp hc with rfl | hc
          · exact u1
          · exact i2 c hc
        · have h0N : 0 < N := hM.1
          have := r3 0 h0N
          omega
        · rw [List.length_cons]
          rcases r5 c hc with q | ⟨h', t, q1, q2, q3, q4⟩
          · rw [q]
            rcases i4 c hc with z | z
            · exact Or.inl z
            · exact Or.inr (by omega)
          · have := (stp_ok hG (Rch_ok hG (hM.2.2.2.2.1 u u1).1) q2).2.2
            exact Or.inr (by omega)
        · rcases List.mem_cons.mp hc with rfl | hc
          · rw [keepU]
            intro q
            have : 2147483647 ≤ 39 * L.length := by rw [q] at hu39; exact hu39
            omega
          · rw [keepL c hc]; exact i5 c hc
        · have hbu : b ≠ u := fun q => hbL (by rw [q]; exact List.mem_cons_self)
          have hbL2 : b ∉ L := fun q => hbL (List.mem_cons_of_mem _ q)
          have hub := u3 b hb hbL2
          have hau : sH a ≤ sN u := by
            rcases List.mem_cons.mp ha with rfl | ha
            · omega
            · rw [keepL a ha]; exact i6 a u ha u1 u2
          rcases r5 b hb with q | ⟨h', t, q1, q2, q3, q4⟩
          · omega
          · omega
        · rcases List.mem_cons.mp ha with rfl | ha
          · rw [keepU]; exact r4 b h t hb hh hst
          · have h1 := i7 a b h t ha hb hh hst
            have h2 := r3 b hb
            rw [keepL a ha]; omega
        · rcases r5 b hb with q | ⟨h', t, q1, q2, q3, q4⟩
          · obtain ⟨a, h, t, z1, z2, z3, z4⟩ := i8 b hb hb0 (by rw [← q]; exact hbi)
            exact ⟨a, h, t, List.mem_cons_of_mem _ z1, z2, z3, by rw [q, keepL a z1]; exact z4⟩
          · exact ⟨u, h', t, List.mem_cons_self, q1, q2, by rw [keepU]; exact q3⟩
        · by_cases hLe : L = []
          · -- the first that is done is the first config
            have h00 : 0 ∉ L := by rw [hLe]; exact List.not_mem_nil
            have h0u := u3 0 (by omega) h00
            by_cases hu0 : u = 0
            · rw [hu0]; exact List.mem_cons_self
            · exfalso
              rw [i3] at h0u
              obtain ⟨a, h, t, z1, -⟩ := i8 u u1 hu0 (fun q => by
                have : 2147483647 ≤ 0 := by rw [q] at h0u; exact h0u
                omega)
              rw [hLe] at z1
              exact absurd z1 List.not_mem_nil
          · exact List.mem_cons_of_mem _ (i9 hLe)
      exact ih (u :: L) sH sa' (upd dn u 1) hDI (fun c hc => by
        by_cases hcu : c = u
        · subst hcu
          rw [upd_s, decide_eq_true List.mem_cons_self]; rfl
        · rw [upd_n hcu, hdn c hc]
          congr 2
          exact propext ⟨fun q => List.mem_cons_of_mem _ q, fun q => by
            rcases List.mem_cons.mp q with rfl | q
            · exact absurd rfl hcu
            · exact q⟩) r2 (by rw [List.length_cons]; omega)
theorem ini_loop {mf : tMF} {N : Nat} (hN : N ≤ 600) (e3 : mf.2.2.1 = nI N) : ∀ (m i : Nat) (sa dn : Nat → Int32), i ≤ N → N - i < m → (∀ c, c < i → dn c = 0 ∧ sa c = nI (if c = 0 then 0 else INF)) → ∃ sa' dn', f_X9_findSoon_2 m (setS mf sa dn) (nI i) = some (nI N, setS mf sa' dn') ∧ ∀ c, c < N → dn' c = 0 ∧ sa' c = nI (if c = 0 then 0 else INF) := by
  intro m
  induction m with
  | zero => intro i sa dn _ h; omega
  | succ m ih =>
    intro i sa dn hi hm hdo
    rw [f_X9_findSoon_2]
    by_cases he : i = N
    · subst he
      rw [if_pos (show mf.2.2.1 ≤ nI i by rw [e3]; exact nI_le (Nat.le_refl _) (by omega))]
      exact ⟨sa, dn, rfl, hdo⟩
    · rw [if_neg (show ¬ mf.2.2.1 ≤ nI i by rw [e3]; exact nI_ge (by omega) (by omega))]
      have e0 : (nI i = (0 : Int32)) = (i = 0) := propext (nI_eq (b := 0) (by omega) (by omega))
      simp only [e0, inb_t (show i < 2 ^ 31 by omega) (show i < 600 by omega), nI_clamp (show i < 2 ^ 31 by omega), if_true, nar0, nI_1]
      have next : ∃ sa' dn', f_X9_findSoon_2 m (setS mf (upd sa i (nI (if i = 0 then 0 else INF))) (upd dn i 0)) (nI (i + 1)) = some (nI N, setS mf sa' dn') ∧ ∀ c, c < N → dn' c = 0 ∧ sa' c = nI (if c = 0 then 0 else INF) := by
        refine ih (i + 1) _ _ (by omega) (by omega) (fun c hc => ?_)
        by_cases hci : c = i
        · subst hci; exact ⟨upd_s, upd_s⟩
        · rw [upd_n hci, upd_n hci]; exact hdo c (by omega)
      by_cases hi0 : i = 0
      · rw [if_pos hi0]
        rw [if_pos hi0] at next
        exact next
      · rw [if_neg hi0]
        rw [if_neg hi0] at next
        exact next
theorem soonM {g : tG_} {n : Nat} (hG : GOK g n) {mf : tMF} {N : Nat} {Cs : Nat → tC} (hN : N ≤ 600) (hM : ME g n mf N Cs) (hE : MEall g n mf N Cs N) : ∃ (sa dn : Nat → Int32) (ds : Nat → Nat), f_X9_findSoon mf = some (setS mf sa dn) ∧ Dist g n N Cs ds ∧ ∀ c, c < N → sa c = nI (ds c) := by
  unfold f_X9_findSoon
  obtain ⟨sa, dn, h1, h2⟩ := ini_loop hN hM.2.2.1 100000 0 mf.2.2.2.2.2.2.1 mf.2.2.2.2.2.2.2 (by omega) (by omega) (fun c hc => by omega)
  have h1' : f_X9_findSoon_2 100000 mf 0 = _ := h1
  rw [h1']
  simp only [Option.bind_some]
  obtain ⟨sa', dn', ds, q1, q2, q3⟩ := main_loop hG hN hM hE 100000 [] (fun c => if c = 0 then 0 else INF) sa dn ⟨List.nodup_nil, fun c hc => absurd hc List.not_mem_nil, rfl, fun c hc => by
      show (if c = 0 then 0 else INF) = INF ∨ (if c = 0 then 0 else INF) ≤ _
      by_cases h0 : c = 0
      · rw [if_pos h0]; exact Or.inr (Nat.zero_le _)
      · rw [if_neg h0]; exact Or.inl rfl, fun c hc => absurd hc List.not_mem_nil, fun a b ha => absurd ha List.not_mem_nil, fun a b h t ha => absurd ha List.not_mem_nil, fun b hb hb0 hbi => absurd (if_neg hb0) hbi, fun q => absurd rfl q⟩ (fun c hc => by rw [(h2 c hc).1]; rfl) (fun c hc => ⟨(h2 c hc).2, by
      by_cases h0 : c = 0
      · rw [if_pos h0]; omega
      · rw [if_neg h0]; decide⟩) (by rw [List.length_nil]; omega)
  have q1' : f_X9_findSoon_41 100000 (setS mf sa dn) 0 = _ := q1
  rw [q1']
  exact ⟨sa', dn', ds, rfl, q2, q3⟩
