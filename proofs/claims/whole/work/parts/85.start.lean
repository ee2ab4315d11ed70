theorem law_arr {s : State} {args : Array Value} {ty : FieldType} (h : (Cond.arrayClass ty).before args s = true) (hn : ∀ C, ty ≠ .object C) : ∃ cA : ClassId, ArrOfT s cA ty ∧ va_RA s cA ty := by
  obtain ⟨cA, kA, comp, h1, h2, h3⟩ := Cond.arrayClass_spec h
  refine ⟨cA, fun n z => ⟨fun k h => (by cases h), kA, h2, comp, h3⟩, ?_⟩
  cases ty with
  | object C => exact absurd rfl (hn C)
  | _ => exact h1
theorem law_arrq {s : State} {args : Array Value} {C : String} (h : (Cond.arrayOver (.object C)).before args s = true) : ∃ cA : ClassId, ArrOfT s cA (.object C) ∧ va_RA s cA (.object C) := by
  obtain ⟨comp, cA, kA, h1, h2, h3, h4, h5⟩ := Cond.arrayOver_spec h
  exact ⟨cA, fun n z => ⟨fun k h => (by cases h), kA, h3, comp, h4⟩, kA, comp, h3, h4, h1, h5⟩
theorem law_dT {s : State} {args : Array Value} (hts : ∀ w ∈ lw_tbl, w.before args s = true) : ∃ dT : Nat → ClassId, ∀ (k : Nat) (q : ClassId × FieldType), (tyL dT)[k]? = some q → ArrOfT s q.1 q.2 ∧ va_RA s q.1 q.2 := by
  obtain ⟨c0, a0⟩ := law_arr (hts _ (tG_sub _ k_44)) (fun _ h => by cases h)
  obtain ⟨c1, a1⟩ := law_arr (hts _ (tG_sub _ k_118)) (fun _ h => by cases h)
  obtain ⟨c2, a2⟩ := law_arr (hts _ (tG_sub _ k_198)) (fun _ h => by cases h)
  obtain ⟨c3, a3⟩ := law_arr (hts _ (tG_sub _ k_85)) (fun _ h => by cases h)
  obtain ⟨c4, a4⟩ := law_arrq (C := "SandBench$Row") (hts _ k_25)
  refine ⟨fun k => [c0, c1, c2, c3, c4].getD k 0, fun k q hq => ?_⟩
  match k, hq with
  | 0, hq => cases hq; exact a0
  | 1, hq => cases hq; exact a1
  | 2, hq => cases hq; exact a2
  | 3, hq => cases hq; exact a3
  | 4, hq => cases hq; exact a4
  | k + 5, hq => simp [tyL] at hq
theorem apart2 {A : Nat → Prop} {ws : va_W} {u v : Nat → Nat} {n m : Nat} (h : va_D A ws) (e : ws.map Prod.fst = (List.range n).map u ++ (List.range m).map v) {j k : Nat} (hj : j < n) (hk : k < m) : u j ≠ v k := by
  have key : ∀ (i a : Nat), ((List.range n).map u ++ (List.range m).map v)[i]? = some a → ∃ p, ws[i]? = some p ∧ p.1 = a := by
    intro i a hi
    rw [← e, List.getElem?_map] at hi
    cases hw : ws[i]? with
    | none => rw [hw] at hi; cases hi
    | some p => rw [hw] at hi; exact ⟨p, rfl, Option.some.inj hi⟩
  obtain ⟨p, hp, ep⟩ := key j (u j) (by rw [List.getElem?_append_left (by simpa using hj), List.getElem?_map, List.getElem?_range hj]; rfl)
  obtain ⟨p2, hp2, ep2⟩ := key (n + k) (v k) (by rw [List.getElem?_append_right (by simp), List.length_map, List.length_range, Nat.add_sub_cancel_left, List.getElem?_map, List.getElem?_range hk]; rfl)
  intro he
  have := h.1 j (n + k) p p2 hp hp2 (by rw [ep, ep2, he])
  omega
set_option maxHeartbeats 40000000 in
set_option maxRecDepth 100000 in
theorem whole_start {p : Program} {e : Env} {s : State} {m : MethodId} {below : List Frame} {meth : Method} {c : Code} (l : Launch) {b L : Nat} {xs : Nat → Int32} (hL : L ≤ 2560) (C0 : lw_At p s m meth c b L xs) : W p l e room_1 s m #[Value.ref b] below meth c s.heap [] 0 0 (lw_Z below #[Value.ref b] s) (entryFrame m ([Value.ref b] : List Value).toArray 4) := by
  obtain ⟨hx, hb, hr, hml, hown, hts, hX, hbl, hlocks, hgv⟩ := id C0
  have hb : c.code = cL_law := hb
  have hown : s.vm.findClass RL = some m.cls := hown
  have hA : ∀ q : Nat, s.heap.size ≤ q → (fun q : Nat => s.heap.size ≤ q) q := fun _ h => h
  have hbA : ¬ (fun q : Nat => s.heap.size ≤ q) b := Nat.not_le.mpr hbl
  obtain ⟨c0, iS0, hKn0⟩ := u_known (C := RX0) (T := TX0) (N := 9) (n := 9) hts (fun w h => tG_sub _ (inX0 w h)) (hts _ (tG_sub _ k_65))
  obtain ⟨c1, iS1, hKn1⟩ := u_known (C := RX1) (T := TX1) (N := 2) (n := 2) hts (fun w h => tG_sub _ (inX1 w h)) (hts _ (tG_sub _ k_200))
  obtain ⟨c2, iS2, hKn2⟩ := u_known (C := RX2) (T := TX2) (N := 4) (n := 4) hts (fun w h => tG_sub _ (inX2 w h)) (hts _ (tG_sub _ k_67))
  obtain ⟨c3, iS3, hKn3⟩ := u_known (C := RX3) (T := TX3) (N := 4) (n := 4) hts (fun w h => tG_sub _ (inX3 w h)) (hts _ (tG_sub _ k_46))
  obtain ⟨c4, iS4, hKn4⟩ := u_known (C := RX5) (T := TX5) (N := 8) (n := 8) hts (fun w h => tG_sub _ (inX5 w h)) (hts _ (tG_sub _ k_167))
  obtain ⟨c5, iS5, hKn5⟩ := u_known (C := RX6) (T := TX6) (N := 13) (n := 13) hts (fun w h => tG_sub _ (inX6 w h)) (hts _ (tG_sub _ k_120))
  obtain ⟨c6, iS6, hKn6⟩ := u_known (C := RX7) (T := TX7) (N := 4) (n := 4) hts (fun w h => tG_sub _ (inX7 w h)) (hts _ (tG_sub _ k_26))
  obtain ⟨c7, iS7, hKn7⟩ := u_known (C := RX8) (T := TX8) (N := 7) (n := 7) hts (fun w h => tG_sub _ (inX8 w h)) (hts _ (tG_sub _ k_17))
  obtain ⟨c8, iS8, hKn8⟩ := u_known (C := RX9) (T := TX9) (N := 31) (n := 31) hts (fun w h => tG_sub _ (inX9 w h)) (hts _ (tG_sub _ k_725))
  obtain ⟨dC, dI, hKc⟩ : ∃ (dC : Nat → ClassId) (dI : Nat → Nat → Nat), ∀ (k : Nat) (q : vw_C), vwCl[k]? = some q → u_Kn s q.1 q.2.1 q.2.2 (dC k) (dI k) := by
    refine ⟨fun k => [c0, c1, c2, c3, c4, c5, c6, c7, c8].getD k 0, fun k => [iS0, iS1, iS2, iS3, iS4, iS5, iS6, iS7, iS8].getD k (fun _ => 0), ?_⟩
    intro k q hq
    match k, hq with
    | 0, hq => cases hq; exact hKn0
    | 1, hq => cases hq; exact hKn1
    | 2, hq => cases hq; exact hKn2
    | 3, hq => cases hq; exact hKn3
    | 4, hq => cases hq; exact hKn4
    | 5, hq => cases hq; exact hKn5
    | 6, hq => cases hq; exact hKn6
    | 7, hq => cases hq; exact hKn7
    | 8, hq => cases hq; exact hKn8
    | k + 9, hq => simp [vwCl] at hq
  obtain ⟨dT, hdT⟩ := law_dT hts
  have hS : va_S (fun q : Nat => s.heap.size ≤ q) s.heap s.heap [] := va_S.rf
  have hK : va_K (dC, dI) vwCl (tyL dT) s := ⟨hKc, hdT⟩
  have hP : va_P (dC, dI) vwCl [] s.heap := fun k q h => by simp at h
  have hD : va_D (fun q : Nat => s.heap.size ≤ q) [] := ⟨fun i j p q h => by simp at h, fun k q h => by simp at h⟩
  have hNX : NX s := ⟨va_Nw.of rfl (hts _ k_27), va_Nw.of rfl (hts _ k_47), va_Nw.of rfl (hts _ k_201), va_AO.of (hts _ k_25)⟩
  have hl := lv_entry ([.ref b]) (n := 4) (Nat.le_of_ble_eq_true rfl)
  rw [lg_entry_eq]
  generalize (lg_sl ([.ref b]) ++ List.replicate (4 - (lg_sl ([.ref b])).length) Slot.unset).toArray = ls at hl ⊢
  have hl : lv_has ls 4 [(0, .ref b)] := hl
  refine va_new (ci := 7) (fs := [.null, .null, .null, .null, .null, .null, .null]) (C := RX8) (T := TX8) (N := 7) hx hb hts (fun w h => tG_sub _ (inX8 w h)) tyX8 tyX8_ok hown (hts _ (tG_sub _ k_16)) (hts _ (tG_sub _ k_17)) (hts _ (tG_sub _ k_1)) hK hP hD hS hA rfl (fun j hj => by rcases (show j = 0 ∨ j = 1 ∨ j = 2 ∨ j = 3 ∨ j = 4 ∨ j = 5 ∨ j = 6 by omega) with rfl | rfl | rfl | rfl | rfl | rfl | rfl <;> rfl) (Nat.le_of_ble_eq_true rfl) (Nat.le_of_ble_eq_true rfl) dL_law_0 (fun q0v H hP hD hS => ?_)
  have hP : va_P (dC, dI) vwCl ([(q0v, .inr (7, [.null, .null, .null, .null, .null, .null, .null]))]) H := hP
  have hD : va_D (fun q : Nat => s.heap.size ≤ q) ([(q0v, .inr (7, [.null, .null, .null, .null, .null, .null, .null]))]) := hD
  refine lv_dup hx hb dL_law_3 rfl ?_
  have hPc := hP.sub (ws' := [(q0v, .inr (7, [.null, .null, .null, .null, .null, .null, .null]))]) [0] rfl
  have hFc := va_free (wc := [(q0v, .inr (7, [.null, .null, .null, .null, .null, .null, .null]))]) hD hS hA [0] rfl
  refine va_callv (va_runI (As := []) (rest := [.ref q0v]) ⟨hx, hb, hml, hown, hts⟩ (i_X8_init l (dC, dI) dT q0v H.size) (cwI 0 hts (good_C tG_sub k_20) rfl rfl rfl (hts _ (tG_sub _ k_1)) (hts _ (tG_sub _ k_18)) (hts _ (tG_sub _ k_19)) rfl (by decide +kernel) ⟨Nat.le_of_ble_eq_true rfl, Nat.le_of_ble_eq_true rfl⟩) ⟨BCN_blind, fun U hU hW => ⟨rfl, ⟨by rw [hU], by rw [hU]; exact hPc, va_K.moved hW.alike hK⟩, NX.warm hW hNX⟩⟩ rfl rfl hl.1 rfl (lv_room (Nat.le_of_ble_eq_true rfl)) dL_law_4 ⟨Nat.le_of_ble_eq_true rfl, Nat.le_of_ble_eq_true rfl⟩) hS (fun q _ h => hFc q h) hFc (fun u t H1 locs ht hvm hw hB hz1 hk1 hS => ?_)
  have hw : u 0 = q0v := hw
  subst hw
  obtain ⟨hP1, hD1⟩ := hB
  rw [ht] at hP1
  obtain ⟨hP, hD⟩ := va_join (wr := []) (w1 := sX0 dT u) hP hD [0] [] rfl rfl (by decide) (by decide) hk1 hFc hP1 hD1
  generalize H1 = H at hP hS ⊢
  have hP : va_P (dC, dI) vwCl (sX0 dT u) H := hP
  have hD : va_D (fun q : Nat => s.heap.size ≤ q) (sX0 dT u) := hD
  refine lv_astore_n (lv' := [(1, .ref (u 0)), (0, .ref b)]) hx hb dL_law_7 rfl hl (by decide) rfl (fun ls hl => ?_)
  refine va_new (ci := 8) (fs := [.null, .null, .null, .null, .null, .null, .int 0, .null, .int 0, .null, .null, .null, .long 0, .int 0, .int 0, .null, .int 0, .null, .null, .null, .null, .int 0, .int 0, .null, .int 0, .null, .null, .null, .null, .null, .null]) (C := RX9) (T := TX9) (N := 31) hx hb hts (fun w h => tG_sub _ (inX9 w h)) tyX9 tyX9_ok hown (hts _ (tG_sub _ k_724)) (hts _ (tG_sub _ k_725)) (hts _ (tG_sub _ k_9)) hK hP hD hS hA rfl (fun j hj => by rcases (show j = 0 ∨ j = 1 ∨ j = 2 ∨ j = 3 ∨ j = 4 ∨ j = 5 ∨ j = 6 ∨ j = 7 ∨ j = 8 ∨ j = 9 ∨ j = 10 ∨ j = 11 ∨ j = 12 ∨ j = 13 ∨ j = 14 ∨ j = 15 ∨ j = 16 ∨ j = 17 ∨ j = 18 ∨ j = 19 ∨ j = 20 ∨ j = 21 ∨ j = 22 ∨ j = 23 ∨ j = 24 ∨ j = 25 ∨ j = 26 ∨ j = 27 ∨ j = 28 ∨ j = 29 ∨ j = 30 by omega) with rfl | rfl | rfl | rfl | rfl | rfl | rfl | rfl | rfl | rfl | rfl | rfl | rfl | rfl | rfl | rfl | rfl | rfl | rfl | rfl | rfl | rfl | rfl | rfl | rfl | rfl | rfl | rfl | rfl | rfl | rfl <;> rfl) (Nat.le_of_ble_eq_true rfl) (Nat.le_of_ble_eq_true rfl) dL_law_8 (fun q9v H hP hD hS => ?_)
  have hP : va_P (dC, dI) vwCl (sX0 dT u ++ [(q9v, .inr (8, [.null, .null, .null, .null, .null, .null, .int 0, .null, .int 0, .null, .null, .null, .long 0, .int 0, .int 0, .null, .int 0, .null, .null, .null, .null, .int 0, .int 0, .null, .int 0, .null, .null, .null, .null, .null, .null]))]) H := hP
  have hD : va_D (fun q : Nat => s.heap.size ≤ q) (sX0 dT u ++ [(q9v, .inr (8, [.null, .null, .null, .null, .null, .null, .int 0, .null, .int 0, .null, .null, .null, .long 0, .int 0, .int 0, .null, .int 0, .null, .null, .null, .null, .int 0, .int 0, .null, .int 0, .null, .null, .null, .null, .null, .null]))]) := hD
  refine lv_dup hx hb dL_law_11 rfl ?_
  have hPc := hP.sub (ws' := [(q9v, .inr (8, [.null, .null, .null, .null, .null, .null, .int 0, .null, .int 0, .null, .null, .null, .long 0, .int 0, .int 0, .null, .int 0, .null, .null, .null, .null, .int 0, .int 0, .null, .int 0, .null, .null, .null, .null, .null, .null]))]) [41] rfl
  have hFc := va_free (wc := [(q9v, .inr (8, [.null, .null, .null, .null, .null, .null, .int 0, .null, .int 0, .null, .null, .null, .long 0, .int 0, .int 0, .null, .int 0, .null, .null, .null, .null, .int 0, .int 0, .null, .int 0, .null, .null, .null, .null, .null, .null]))]) hD hS hA [41] rfl
  refine va_callv (va_runI (As := []) (rest := [.ref q9v]) ⟨hx, hb, hml, hown, hts⟩ (i_X9_init l (dC, dI) dT q9v H.size) (cwI 0 hts (good_C tG_sub k_728) rfl rfl rfl (hts _ (tG_sub _ k_9)) (hts _ (tG_sub _ k_726)) (hts _ (tG_sub _ k_727)) rfl (by decide +kernel) ⟨Nat.le_of_ble_eq_true rfl, Nat.le_of_ble_eq_true rfl⟩) ⟨BC_blind, fun U hU hW => ⟨rfl, by rw [hU], by rw [hU]; exact hPc, va_K.moved hW.alike hK⟩⟩ rfl rfl hl.1 rfl (lv_room (Nat.le_of_ble_eq_true rfl)) dL_law_12 ⟨Nat.le_of_ble_eq_true rfl, Nat.le_of_ble_eq_true rfl⟩) hS (fun q _ h => hFc q h) hFc (fun v t H1 locs ht hvm hw hB hz1 hk1 hS => ?_)
  have hw : v 0 = q9v := hw
  subst hw
  obtain ⟨hP1, hD1⟩ := hB
  rw [ht] at hP1
  obtain ⟨hP, hD⟩ := va_join (wr := sX0 dT u) (w1 := sM0 dT v) hP hD [41] [0, 1, 2, 3, 4, 5, 6, 7, 8, 9, 10, 11, 12, 13, 14, 15, 16, 17, 18, 19, 20, 21, 22, 23, 24, 25, 26, 27, 28, 29, 30, 31, 32, 33, 34, 35, 36, 37, 38, 39, 40] rfl rfl (by decide) (by decide) hk1 hFc hP1 hD1
  generalize H1 = H at hP hS ⊢
  refine lv_astore_n (lv' := [(2, .ref (v 0)), (1, .ref (u 0)), (0, .ref b)]) hx hb dL_law_15 rfl hl (by decide) rfl (fun ls hl => ?_)
  refine lv_iconst (v := 0) hx hb dL_law_16 (by decide) ?_
  refine lv_istore_n (lv' := [(3, .int 0), (2, .ref (v 0)), (1, .ref (u 0)), (0, .ref b)]) hx hb dL_law_17 rfl hl (by decide) rfl (fun ls hl => ?_)
  refine W.widen (k := 600000) (n := 7302250) (Nat.le_of_ble_eq_true rfl) (Nat.le_of_ble_eq_true rfl) ?_
  have hPX := hP.sub (ws' := sX0 dT u) [0, 1, 2, 3, 4, 5, 6, 7, 8, 9, 10, 11, 12, 13, 14, 15, 16, 17, 18, 19, 20, 21, 22, 23, 24, 25, 26, 27, 28, 29, 30, 31, 32, 33, 34, 35, 36, 37, 38, 39, 40] rfl
  have hPM := hP.sub (ws' := sM0 dT v) [41, 42, 43, 44, 45, 46, 47, 48, 49, 50, 51, 52, 53, 54, 55, 56, 57, 58, 59, 60, 61, 62, 63] rfl
  have hDX := hD.sub (ws' := sX0 dT u) [0, 1, 2, 3, 4, 5, 6, 7, 8, 9, 10, 11, 12, 13, 14, 15, 16, 17, 18, 19, 20, 21, 22, 23, 24, 25, 26, 27, 28, 29, 30, 31, 32, 33, 34, 35, 36, 37, 38, 39, 40] (by decide) rfl
  have hDM := hD.sub (ws' := sM0 dT v) [41, 42, 43, 44, 45, 46, 47, 48, 49, 50, 51, 52, 53, 54, 55, 56, 57, 58, 59, 60, 61, 62, 63] (by decide) rfl
  have hXM : ∀ a, xA u a → ¬ mA v a := by
    rintro a ⟨j, hj, rfl⟩ ⟨k, hk, he⟩
    exact apart2 (n := 41) (m := 23) hD rfl hj hk he
  unfold sX0 at hPX hDX
  unfold sM0 at hPM hDM
  exact law_loop l hL C0 hK (xD_of hDX) (mD_of hDM) (xA_of hDX) (mA_of hDM) hXM (L + 1) 0 0 _ _ _ _ _ _ _ _ _ _ _ _ _ _ _ (by omega) (by omega) rfl Rel0 _ _ _ hPX hPM hS (lv_sub hl [3, 2, 1, 0] rfl)
