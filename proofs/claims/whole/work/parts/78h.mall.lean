/-! pure: the reference's tables, whole -/
def MTs (g : tG_) (n : Nat) (mf : tMF) (N : Nat) (Cs : Nat → tC) : Prop :=
  ME g n mf N Cs ∧ (N ≤ 600 → MEall g n mf N Cs N ∧ FT g n mf.2.2.2.2.2.1 N Cs 61 ∧ ∃ ds, Dist g n N Cs ds ∧ ∀ c, c < N → mf.2.2.2.2.2.2.1 c = nI (ds c))
def RelM (g : tG_) (n : Nat) (mf : tMF) : Prop := mf.1 = 0 ∨ (mf.1 = 1 ∧ ∃ N Cs, MTs g n mf N Cs)
theorem findAllM {g : tG_} {n : Nat} (hG : GOK g n) {mf : tMF} {mn : tC} (hR : RelM g n mf) (hz : Z4 mn) : ∃ (mn' : tC) (mf' : tMF) (N : Nat) (Cs : Nat → tC), f_X9_findAll g mn mf = some (b2 (decide (N ≤ 600)), mn', mf') ∧ Z4 mn' ∧ mf'.1 = 1 ∧ MTs g n mf' N Cs := by
  unfold f_X9_findAll
  rcases hR with h0 | ⟨h1, N, Cs, hT⟩
  · rw [if_pos h0, if_pos (show inb 0 601 = true by decide)]
    have hE0 : ME g n ((1 : Int32), vp_updL mf.2.1 (0 : Int32).toNatClampNeg (0 : Int64), (1 : Int32), mf.2.2.2.1, mf.2.2.2.2.1, mf.2.2.2.2.2.1, mf.2.2.2.2.2.2.1, mf.2.2.2.2.2.2.2) 1 (fun _ => c00) := by
      refine ⟨by omega, by omega, rfl, rfl, fun a ha => ⟨Rch0, ?_⟩, fun a b ha hb _ => by omega⟩
      show vp_updL mf.2.1 0 0 a = lN (codeN c00)
      rw [show a = 0 by omega, updL_s, code00]; rfl
    obtain ⟨c', mn', mf', N', Cs', s1, s2, s3, s4, s5⟩ := all_m hG 100000 0 _ mn 1 (fun _ => c00) hE0 (by omega) (by omega) (by omega) hz (fun _ c' hc' => by omega)
    have s1' : f_X9_findAll_26 100000 g mn ((1 : Int32), vp_updL mf.2.1 (0 : Int32).toNatClampNeg (0 : Int64), (1 : Int32), mf.2.2.2.1, mf.2.2.2.2.1, mf.2.2.2.2.2.1, mf.2.2.2.2.2.2.1, mf.2.2.2.2.2.2.2) 0 = _ := s1
    rw [s1']
    simp only [Option.bind_some]
    have e2 := s3.2.1
    have e3 := s3.2.2.1
    have el : ((600 : Int32) < mf'.2.2.1) = (600 < N') := by rw [e3]; exact propext (nI_ltI (a := 600) (by omega) (by omega))
    simp only [el]
    by_cases hN : 600 < N'
    · rw [if_pos hN, if_pos hN]
      exact ⟨mn', mf', N', Cs', by rw [decide_eq_false (by omega)]; rfl, s2, s4, s3, fun q => by omega⟩
    · rw [if_neg hN]
      have hE := s5 (by omega)
      obtain ⟨ft, t1, t2⟩ := tab_loop hG s3 (by omega) hE 100000 0 mf'.2.2.2.2.2.1 (fun s hs => by omega) (by omega) (by omega)
      have t1' : f_X9_findAll_67 100000 mf' 0 = _ := t1
      rw [t1']
      simp only [Option.bind_some]
      have s3' : ME g n (setF mf' ft) N' Cs' := s3
      obtain ⟨sa, dn, ds, q1, q2, q3⟩ := soonM hG (mf := setF mf' ft) (by omega) s3' hE
      rw [q1]
      simp only [Option.bind_some]
      have el2 : ((600 : Int32) < (setS (setF mf' ft) sa dn).2.2.1) = (600 < N') := el
      simp only [el2]
      rw [if_neg hN]
      exact ⟨mn', setS (setF mf' ft) sa dn, N', Cs', by rw [decide_eq_true (by omega)]; rfl, s2, s4, s3, fun _ => ⟨hE, t2, ds, q2, q3⟩⟩
  · rw [if_neg (by rw [h1]; decide)]
    have e2 := hT.1.2.1
    have e3 := hT.1.2.2.1
    have el : ((600 : Int32) < mf.2.2.1) = (600 < N) := by rw [e3]; exact propext (nI_ltI (a := 600) (by omega) (by omega))
    simp only [el]
    by_cases hN : 600 < N
    · rw [if_pos hN]
      exact ⟨mn, mf, N, Cs, by rw [decide_eq_false (by omega)]; rfl, hz, h1, hT⟩
    · rw [if_neg hN]
      exact ⟨mn, mf, N, Cs, by rw [decide_eq_true (by omega)]; rfl, hz, h1, hT⟩
