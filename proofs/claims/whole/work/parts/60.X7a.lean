set_option maxRecDepth 100000 in
set_option maxHeartbeats 4000000 in
theorem c_J7_fill_53178_3 {l : Launch} {D : va_G} {dT : Nat → ClassId} {q : Nat → Nat} (hD : xD q) {rs : (Nat → tRow)} {g : tG_} {bh : tBH} {c1 : tC} {c2 : tC} {re : tRE} {pl : tPL} {cl : tCL} {a1 : Int32} {v : (Nat → Int32)} (h : f_J7_fill_53178 (rs 0).1 20 a1 = some v) : MG l yJ7_fill_53178 cJ7_fill_53178 4 none 0 [.ref (q 3), .int a1] D (tyL dT) (wX dT q rs g bh c1 c2 re pl cl) (QV D (tyL dT) (xA q) (wX dT q (va_up rs 0 (v, (rs 0).2.1, (rs 0).2.2.1, (rs 0).2.2.2)) g bh c1 c2 re pl cl)) (xA q) := by
  refine MG.mk (by decide +kernel) (Nat.le_of_ble_eq_true rfl) ?_
  intro p e s m below meth c hx hb hr hml hown hts hlk hK hP ls hl
  have hown : s.vm.findClass RJ7 = some m.cls := hown
  have hS : va_S (xA q) s.heap s.heap [] := va_S.rf
  have hl : lv_has ls 4 [(0, .ref (q 3)), (1, .int a1)] := hl
  rw [f_J7_fill_53178] at h
  refine lv_iconst (v := 0) hx hb dJ7_fill_53178_0 (by decide) ?_
  refine lv_istore_n (lv' := [(2, .int (0 : Int32)), (0, .ref (q 3)), (1, .int a1)]) hx hb dJ7_fill_53178_1 rfl hl (by decide) rfl (fun ls hl => ?_)
  refine lv_aload_n hx hb dJ7_fill_53178_2 rfl (lv_at hl 1 rfl) ?_
  refine va_alen (v := (nI 20)) hx hb hK hP 3 0 rfl rfl rfl dJ7_fill_53178_3 ?_
  refine lv_istore_n (lv' := [(3, .int (nI 20)), (2, .int (0 : Int32)), (0, .ref (q 3)), (1, .int a1)]) hx hb dJ7_fill_53178_4 rfl hl (by decide) rfl (fun ls hl => ?_)
  have hL5_3 : ∀ (n : Nat) (a_5 : (Nat → Int32)) (x2_5 : Int32) (y : Int32 × (Nat → Int32)), f_J7_fill_53178_5 20 n a_5 a1 x2_5 (nI 20) = some y → ∀ (ls : Array Slot) (H : Heap) (locs : List Loc), lv_has ls 4 [(0, .ref (q 3)), (1, .int a1), (2, .int x2_5), (3, .int (nI 20))] → va_P D vwCl (wX dT q (va_up rs 0 (a_5, (rs 0).2.1, (rs 0).2.2.1, (rs 0).2.2.2)) g bh c1 c2 re pl cl) H → va_S (xA q) s.heap H locs → ∀ Q : State → Prop, (∀ (ls : Array Slot) (H : Heap) (locs : List Loc), lv_has ls 4 [(0, .ref (q 3)), (1, .int a1), (2, .int y.1), (3, .int (nI 20))] → va_P D vwCl (wX dT q (va_up (va_up rs 0 (a_5, (rs 0).2.1, (rs 0).2.2.1, (rs 0).2.2.2)) 0 (y.2, ((va_up rs 0 (a_5, (rs 0).2.1, (rs 0).2.2.1, (rs 0).2.2.2)) 0).2.1, ((va_up rs 0 (a_5, (rs 0).2.1, (rs 0).2.2.1, (rs 0).2.2.2)) 0).2.2.1, ((va_up rs 0 (a_5, (rs 0).2.1, (rs 0).2.2.1, (rs 0).2.2.2)) 0).2.2.2)) g bh c1 c2 re pl cl) H → va_S (xA q) s.heap H locs → W p l e (rmD 0) s m [.ref (q 3), .int a1].toArray below meth c H locs 0 0 Q (F0 m 20 ls [])) → W p l e (rmD 0) s m [.ref (q 3), .int a1].toArray below meth c H locs 0 0 Q (F0 m 5 ls []) := by
    intro n
    induction n with
    | zero => intro a_5 x2_5 y h; exact absurd h (by simp [f_J7_fill_53178_5])
    | succ n ih =>
      intro a_5 x2_5 y h ls H locs hl hP hS Q kk
      rw [f_J7_fill_53178_5] at h
      refine lv_iload_n hx hb dJ7_fill_53178_5 rfl (lv_at hl 2 rfl) ?_
      refine lv_iload_n hx hb dJ7_fill_53178_6 rfl (lv_at hl 3 rfl) ?_
      refine lv_icmp_ge (tgt := 20) hx hb dJ7_fill_53178_7 (by decide) (fun k1 => ?_) (fun k1 => ?_)
      · rw [if_pos k1] at h
        obtain rfl := Option.some.inj h
        exact kk _ _ _ (lv_sub hl [0, 1, 2, 3] rfl) hP hS
      · rw [if_neg k1] at h
        refine lv_aload_n hx hb dJ7_fill_53178_10 rfl (lv_at hl 0 rfl) ?_
        refine lv_iload_n hx hb dJ7_fill_53178_11 rfl (lv_at hl 2 rfl) ?_
        refine lv_iload_n hx hb dJ7_fill_53178_12 rfl (lv_at hl 1 rfl) ?_
        obtain ⟨k2, h⟩ := dg h
        refine va_iast (f := ((va_up rs 0 (a_5, (rs 0).2.1, (rs 0).2.2.1, (rs 0).2.2.2)) 0).1) hx hb hK hP (xD.w hD) hS 3 0 rfl rfl (inb_vp k2) dJ7_fill_53178_13 (fun H locs hP _ hS => ?_)
        have hP : va_P D vwCl (wX dT q (va_up (va_up rs 0 (a_5, (rs 0).2.1, (rs 0).2.2.1, (rs 0).2.2.2)) 0 ((upd ((va_up rs 0 (a_5, (rs 0).2.1, (rs 0).2.2.1, (rs 0).2.2.2)) 0).1 x2_5.toNatClampNeg a1), ((va_up rs 0 (a_5, (rs 0).2.1, (rs 0).2.2.1, (rs 0).2.2.2)) 0).2.1, ((va_up rs 0 (a_5, (rs 0).2.1, (rs 0).2.2.1, (rs 0).2.2.2)) 0).2.2.1, ((va_up rs 0 (a_5, (rs 0).2.1, (rs 0).2.2.1, (rs 0).2.2.2)) 0).2.2.2)) g bh c1 c2 re pl cl) H := hP
        refine lv_iinc (v := (x2_5 + (1 : Int32))) (lv' := [(2, .int (x2_5 + (1 : Int32))), (0, .ref (q 3)), (1, .int a1), (3, .int (nI 20))]) hx hb dJ7_fill_53178_14 hl (k := 2) rfl rfl (by decide) rfl (fun ls hl => ?_)
        refine lv_goto (tgt := 5) hx hb dJ7_fill_53178_17 (by decide) ?_
        exact ih _ _ _ h _ _ _ (lv_sub hl [1, 2, 0, 3] rfl) hP hS _ kk
  obtain ⟨y4, hy4, h⟩ := dq h
  refine hL5_3 _ _ _ _ hy4 _ _ _ (lv_sub hl [2, 3, 1, 0] rfl) hP hS _ (fun ls H locs hl hP hS => ?_)
  obtain rfl := Option.some.inj h
  exact rV hx hb hr hlk hK hP hS dJ7_fill_53178_20

set_option maxRecDepth 100000 in
set_option maxHeartbeats 4000000 in
theorem c_X7_come_0 {l : Launch} {D : va_G} {dT : Nat → ClassId} {q : Nat → Nat} (hD : xD q) {rs : (Nat → tRow)} {g : tG_} {bh : tBH} {c1 : tC} {c2 : tC} {re : tRE} {pl : tPL} {cl : tCL} {a1 : Int32} {a2 : Int32} {v : tRow} (h : f_X7_come (rs 0) a1 a2 = some v) : MG l yX7_come cX7_come 3 none 1 [.ref (q 2), .int a1, .int a2] D (tyL dT) (wX dT q rs g bh c1 c2 re pl cl) (QV D (tyL dT) (xA q) (wX dT q (va_up rs 0 v) g bh c1 c2 re pl cl)) (xA q) := by
  refine MG.mk (by decide +kernel) (Nat.le_of_ble_eq_true rfl) ?_
  intro p e s m below meth c hx hb hr hml hown hts hlk hK hP ls hl
  have hown : s.vm.findClass RX7 = some m.cls := hown
  have hS : va_S (xA q) s.heap s.heap [] := va_S.rf
  have hl : lv_has ls 3 [(0, .ref (q 2)), (1, .int a1), (2, .int a2)] := hl
  rw [f_X7_come] at h
  refine lv_aload_n hx hb dX7_come_0 rfl (lv_at hl 0 rfl) ?_
  refine lv_iconst (v := 1) hx hb dX7_come_1 (by decide) ?_
  refine va_put (D := D) (ci := 6) (v := .int (1 : Int32)) (ty := .boolean) (C := RX7) (T := TX7) (N := 4) hx hb hts (fun w h => sub_z _ (inX7 w h)) tyX7 tyX7_ok nmX7 hown hK hP (xD.w hD) hS 2 rfl rfl 1 (by decide) (hts _ (sub_z _ k_32)) (fun _ h => h) rfl (by decide +kernel) rfl rfl (Nat.le_of_ble_eq_true rfl) dX7_come_2 (fun H locs hP _ hS => ?_)
  have hP : va_P D vwCl (wX dT q (va_up rs 0 ((rs 0).1, (1 : Int32), (rs 0).2.2.1, (rs 0).2.2.2)) g bh c1 c2 re pl cl) H := hP
  refine lv_aload_n hx hb dX7_come_5 rfl (lv_at hl 0 rfl) ?_
  refine lv_iload_n hx hb dX7_come_6 rfl (lv_at hl 1 rfl) ?_
  refine va_put (D := D) (ci := 6) (v := .int a1) (ty := .int) (C := RX7) (T := TX7) (N := 4) hx hb hts (fun w h => sub_z _ (inX7 w h)) tyX7 tyX7_ok nmX7 hown hK hP (xD.w hD) hS 2 rfl rfl 2 (by decide) (hts _ (sub_z _ k_33)) (fun _ h => h) rfl (by decide +kernel) rfl rfl (Nat.le_of_ble_eq_true rfl) dX7_come_7 (fun H locs hP _ hS => ?_)
  have hP : va_P D vwCl (wX dT q (va_up rs 0 ((rs 0).1, (1 : Int32), a1, (rs 0).2.2.2)) g bh c1 c2 re pl cl) H := hP
  refine lv_aload_n hx hb dX7_come_10 rfl (lv_at hl 0 rfl) ?_
  refine lv_iload_n hx hb dX7_come_11 rfl (lv_at hl 2 rfl) ?_
  refine va_put (D := D) (ci := 6) (v := .int a2) (ty := .int) (C := RX7) (T := TX7) (N := 4) hx hb hts (fun w h => sub_z _ (inX7 w h)) tyX7 tyX7_ok nmX7 hown hK hP (xD.w hD) hS 2 rfl rfl 3 (by decide) (hts _ (sub_z _ k_34)) (fun _ h => h) rfl (by decide +kernel) rfl rfl (Nat.le_of_ble_eq_true rfl) dX7_come_12 (fun H locs hP _ hS => ?_)
  have hP : va_P D vwCl (wX dT q (va_up rs 0 ((rs 0).1, (1 : Int32), a1, a2)) g bh c1 c2 re pl cl) H := hP
  refine lv_aload_n hx hb dX7_come_15 rfl (lv_at hl 0 rfl) ?_
  refine va_get (D := D) (ci := 6) (v := .ref (q 3)) (C := RX7) (T := TX7) (N := 4) hx hb hts (fun w h => sub_z _ (inX7 w h)) hown hK hP 2 rfl rfl 0 (by decide) (hts _ (sub_z _ k_31)) (fun _ h => h) rfl dX7_come_16 ?_
  refine lv_iconst (v := 1) hx hb dX7_come_19 (by decide) ?_
  obtain ⟨v1, hv1, h⟩ := dq h
  refine cSv (As := [.ref (q 3), .int (1 : Int32)]) (rest := []) ⟨hx, hb, hml, hown, hts⟩ (c_J7_fill_53178_3 (dT := dT) (rs := (va_up rs 0 ((rs 0).1, (1 : Int32), a1, a2))) (g := g) (bh := bh) (c1 := c1) (c2 := c2) (re := re) (pl := pl) (cl := cl) hD hv1) (va_cwS 2 hts (good_S sub_z k_245 k_246 k_10 k_247) rfl rfl rfl (by decide +kernel) (by decide)) hK hP hS rfl hl.1 rfl (Nat.le_of_ble_eq_true rfl) dX7_come_20 (by decide) (fun H locs hP hS => ?_)
  obtain rfl := Option.some.inj h
  exact rV hx hb hr hlk hK hP hS dX7_come_23

set_option maxRecDepth 100000 in
set_option maxHeartbeats 4000000 in
theorem c_J7_fill_53178_5 {l : Launch} {D : va_G} {dT : Nat → ClassId} {q : Nat → Nat} (hD : xD q) {rs : (Nat → tRow)} {g : tG_} {bh : tBH} {c1 : tC} {c2 : tC} {re : tRE} {pl : tPL} {cl : tCL} {a1 : Int32} {v : (Nat → Int32)} (h : f_J7_fill_53178 (rs 1).1 20 a1 = some v) : MG l yJ7_fill_53178 cJ7_fill_53178 4 none 0 [.ref (q 5), .int a1] D (tyL dT) (wX dT q rs g bh c1 c2 re pl cl) (QV D (tyL dT) (xA q) (wX dT q (va_up rs 1 (v, (rs 1).2.1, (rs 1).2.2.1, (rs 1).2.2.2)) g bh c1 c2 re pl cl)) (xA q) := by
  refine MG.mk (by decide +kernel) (Nat.le_of_ble_eq_true rfl) ?_
  intro p e s m below meth c hx hb hr hml hown hts hlk hK hP ls hl
  have hown : s.vm.findClass RJ7 = some m.cls := hown
  have hS : va_S (xA q) s.heap s.heap [] := va_S.rf
  have hl : lv_has ls 4 [(0, .ref (q 5)), (1, .int a1)] := hl
  rw [f_J7_fill_53178] at h
  refine lv_iconst (v := 0) hx hb dJ7_fill_53178_0 (by decide) ?_
  refine lv_istore_n (lv' := [(2, .int (0 : Int32)), (0, .ref (q 5)), (1, .int a1)]) hx hb dJ7_fill_53178_1 rfl hl (by decide) rfl (fun ls hl => ?_)
  refine lv_aload_n hx hb dJ7_fill_53178_2 rfl (lv_at hl 1 rfl) ?_
  refine va_alen (v := (nI 20)) hx hb hK hP 5 0 rfl rfl rfl dJ7_fill_53178_3 ?_
  refine lv_istore_n (lv' := [(3, .int (nI 20)), (2, .int (0 : Int32)), (0, .ref (q 5)), (1, .int a1)]) hx hb dJ7_fill_53178_4 rfl hl (by decide) rfl (fun ls hl => ?_)
  have hL5_3 : ∀ (n : Nat) (a_5 : (Nat → Int32)) (x2_5 : Int32) (y : Int32 × (Nat → Int32)), f_J7_fill_53178_5 20 n a_5 a1 x2_5 (nI 20) = some y → ∀ (ls : Array Slot) (H : Heap) (locs : List Loc), lv_has ls 4 [(0, .ref (q 5)), (1, .int a1), (2, .int x2_5), (3, .int (nI 20))] → va_P D vwCl (wX dT q (va_up rs 1 (a_5, (rs 1).2.1, (rs 1).2.2.1, (rs 1).2.2.2)) g bh c1 c2 re pl cl) H → va_S (xA q) s.heap H locs → ∀ Q : State → Prop, (∀ (ls : Array Slot) (H : Heap) (locs : List Loc), lv_has ls 4 [(0, .ref (q 5)), (1, .int a1), (2, .int y.1), (3, .int (nI 20))] → va_P D vwCl (wX dT q (va_up (va_up rs 1 (a_5, (rs 1).2.1, (rs 1).2.2.1, (rs 1).2.2.2)) 1 (y.2, ((va_up rs 1 (a_5, (rs 1).2.1, (rs 1).2.2.1, (rs 1).2.2.2)) 1).2.1, ((va_up rs 1 (a_5, (rs 1).2.1, (rs 1).2.2.1, (rs 1).2.2.2)) 1).2.2.1, ((va_up rs 1 (a_5, (rs 1).2.1, (rs 1).2.2.1, (rs 1).2.2.2)) 1).2.2.2)) g bh c1 c2 re pl cl) H → va_S (xA q) s.heap H locs → W p l e (rmD 0) s m [.ref (q 5), .int a1].toArray below meth c H locs 0 0 Q (F0 m 20 ls [])) → W p l e (rmD 0) s m [.ref (q 5), .int a1].toArray below meth c H locs 0 0 Q (F0 m 5 ls []) := by
    intro n
    induction n with
    | zero => intro a_5 x2_5 y h; exact absurd h (by simp [f_J7_fill_53178_5])
    | succ n ih =>
      intro a_5 x2_5 y h ls H locs hl hP hS Q kk
      rw [f_J7_fill_53178_5] at h
      refine lv_iload_n hx hb dJ7_fill_53178_5 rfl (lv_at hl 2 rfl) ?_
      refine lv_iload_n hx hb dJ7_fill_53178_6 rfl (lv_at hl 3 rfl) ?_
      refine lv_icmp_ge (tgt := 20) hx hb dJ7_fill_53178_7 (by decide) (fun k1 => ?_) (fun k1 => ?_)
      · rw [if_pos k1] at h
        obtain rfl := Option.some.inj h
        exact kk _ _ _ (lv_sub hl [0, 1, 2, 3] rfl) hP hS
      · rw [if_neg k1] at h
        refine lv_aload_n hx hb dJ7_fill_53178_10 rfl (lv_at hl 0 rfl) ?_
        refine lv_iload_n hx hb dJ7_fill_53178_11 rfl (lv_at hl 2 rfl) ?_
        refine lv_iload_n hx hb dJ7_fill_53178_12 rfl (lv_at hl 1 rfl) ?_
        obtain ⟨k2, h⟩ := dg h
        refine va_iast (f := ((va_up rs 1 (a_5, (rs 1).2.1, (rs 1).2.2.1, (rs 1).2.2.2)) 1).1) hx hb hK hP (xD.w hD) hS 5 0 rfl rfl (inb_vp k2) dJ7_fill_53178_13 (fun H locs hP _ hS => ?_)
        have hP : va_P D vwCl (wX dT q (va_up (va_up rs 1 (a_5, (rs 1).2.1, (rs 1).2.2.1, (rs 1).2.2.2)) 1 ((upd ((va_up rs 1 (a_5, (rs 1).2.1, (rs 1).2.2.1, (rs 1).2.2.2)) 1).1 x2_5.toNatClampNeg a1), ((va_up rs 1 (a_5, (rs 1).2.1, (rs 1).2.2.1, (rs 1).2.2.2)) 1).2.1, ((va_up rs 1 (a_5, (rs 1).2.1, (rs 1).2.2.1, (rs 1).2.2.2)) 1).2.2.1, ((va_up rs 1 (a_5, (rs 1).2.1, (rs 1).2.2.1, (rs 1).2.2.2)) 1).2.2.2)) g bh c1 c2 re pl cl) H := hP
        refine lv_iinc (v := (x2_5 + (1 : Int32))) (lv' := [(2, .int (x2_5 + (1 : Int32))), (0, .ref (q 5)), (1, .int a1), (3, .int (nI 20))]) hx hb dJ7_fill_53178_14 hl (k := 2) rfl rfl (by decide) rfl (fun ls hl => ?_)
        refine lv_goto (tgt := 5) hx hb dJ7_fill_53178_17 (by decide) ?_
        exact ih _ _ _ h _ _ _ (lv_sub hl [1, 2, 0, 3] rfl) hP hS _ kk
  obtain ⟨y4, hy4, h⟩ := dq h
  refine hL5_3 _ _ _ _ hy4 _ _ _ (lv_sub hl [2, 3, 1, 0] rfl) hP hS _ (fun ls H locs hl hP hS => ?_)
  obtain rfl := Option.some.inj h
  exact rV hx hb hr hlk hK hP hS dJ7_fill_53178_20

set_option maxRecDepth 100000 in
set_option maxHeartbeats 4000000 in
theorem c_X7_come_1 {l : Launch} {D : va_G} {dT : Nat → ClassId} {q : Nat → Nat} (hD : xD q) {rs : (Nat → tRow)} {g : tG_} {bh : tBH} {c1 : tC} {c2 : tC} {re : tRE} {pl : tPL} {cl : tCL} {a1 : Int32} {a2 : Int32} {v : tRow} (h : f_X7_come (rs 1) a1 a2 = some v) : MG l yX7_come cX7_come 3 none 1 [.ref (q 4), .int a1, .int a2] D (tyL dT) (wX dT q rs g bh c1 c2 re pl cl) (QV D (tyL dT) (xA q) (wX dT q (va_up rs 1 v) g bh c1 c2 re pl cl)) (xA q) := by
  refine MG.mk (by decide +kernel) (Nat.le_of_ble_eq_true rfl) ?_
  intro p e s m below meth c hx hb hr hml hown hts hlk hK hP ls hl
  have hown : s.vm.findClass RX7 = some m.cls := hown
  have hS : va_S (xA q) s.heap s.heap [] := va_S.rf
  have hl : lv_has ls 3 [(0, .ref (q 4)), (1, .int a1), (2, .int a2)] := hl
  rw [f_X7_come] at h
  refine lv_aload_n hx hb dX7_come_0 rfl (lv_at hl 0 rfl) ?_
  refine lv_iconst (v := 1) hx hb dX7_come_1 (by decide) ?_
  refine va_put (D := D) (ci := 6) (v := .int (1 : Int32)) (ty := .boolean) (C := RX7) (T := TX7) (N := 4) hx hb hts (fun w h => sub_z _ (inX7 w h)) tyX7 tyX7_ok nmX7 hown hK hP (xD.w hD) hS 4 rfl rfl 1 (by decide) (hts _ (sub_z _ k_32)) (fun _ h => h) rfl (by decide +kernel) rfl rfl (Nat.le_of_ble_eq_true rfl) dX7_come_2 (fun H locs hP _ hS => ?_)
  have hP : va_P D vwCl (wX dT q (va_up rs 1 ((rs 1).1, (1 : Int32), (rs 1).2.2.1, (rs 1).2.2.2)) g bh c1 c2 re pl cl) H := hP
  refine lv_aload_n hx hb dX7_come_5 rfl (lv_at hl 0 rfl) ?_
  refine lv_iload_n hx hb dX7_come_6 rfl (lv_at hl 1 rfl) ?_
  refine va_put (D := D) (ci := 6) (v := .int a1) (ty := .int) (C := RX7) (T := TX7) (N := 4) hx hb hts (fun w h => sub_z _ (inX7 w h)) tyX7 tyX7_ok nmX7 hown hK hP (xD.w hD) hS 4 rfl rfl 2 (by decide) (hts _ (sub_z _ k_33)) (fun _ h => h) rfl (by decide +kernel) rfl rfl (Nat.le_of_ble_eq_true rfl) dX7_come_7 (fun H locs hP _ hS => ?_)
  have hP : va_P D vwCl (wX dT q (va_up rs 1 ((rs 1).1, (1 : Int32), a1, (rs 1).2.2.2)) g bh c1 c2 re pl cl) H := hP
  refine lv_aload_n hx hb dX7_come_10 rfl (lv_at hl 0 rfl) ?_
  refine lv_iload_n hx hb dX7_come_11 rfl (lv_at hl 2 rfl) ?_
  refine va_put (D := D) (ci := 6) (v := .int a2) (ty := .int) (C := RX7) (T := TX7) (N := 4) hx hb hts (fun w h => sub_z _ (inX7 w h)) tyX7 tyX7_ok nmX7 hown hK hP (xD.w hD) hS 4 rfl rfl 3 (by decide) (hts _ (sub_z _ k_34)) (fun _ h => h) rfl (by decide +kernel) rfl rfl (Nat.le_of_ble_eq_true rfl) dX7_come_12 (fun H locs hP _ hS => ?_)
  have hP : va_P D vwCl (wX dT q (va_up rs 1 ((rs 1).1, (1 : Int32), a1, a2)) g bh c1 c2 re pl cl) H := hP
  refine lv_aload_n hx hb dX7_come_15 rfl (lv_at hl 0 rfl) ?_
  refine va_get (D := D) (ci := 6) (v := .ref (q 5)) (C := RX7) (T := TX7) (N := 4) hx hb hts (fun w h => sub_z _ (inX7 w h)) hown hK hP 4 rfl rfl 0 (by decide) (hts _ (sub_z _ k_31)) (fun _ h => h) rfl dX7_come_16 ?_
  refine lv_iconst (v := 1) hx hb dX7_come_19 (by decide) ?_
  obtain ⟨v1, hv1, h⟩ := dq h
  refine cSv (As := [.ref (q 5), .int (1 : Int32)]) (rest := []) ⟨hx, hb, hml, hown, hts⟩ (c_J7_fill_53178_5 (dT := dT) (rs := (va_up rs 1 ((rs 1).1, (1 : Int32), a1, a2))) (g := g) (bh := bh) (c1 := c1) (c2 := c2) (re := re) (pl := pl) (cl := cl) hD hv1) (va_cwS 2 hts (good_S sub_z k_245 k_246 k_10 k_247) rfl rfl rfl (by decide +kernel) (by decide)) hK hP hS rfl hl.1 rfl (Nat.le_of_ble_eq_true rfl) dX7_come_20 (by decide) (fun H locs hP hS => ?_)
  obtain rfl := Option.some.inj h
  exact rV hx hb hr hlk hK hP hS dX7_come_23

set_option maxRecDepth 100000 in
set_option maxHeartbeats 4000000 in
theorem c_J7_fill_53178_7 {l : Launch} {D : va_G} {dT : Nat → ClassId} {q : Nat → Nat} (hD : xD q) {rs : (Nat → tRow)} {g : tG_} {bh : tBH} {c1 : tC} {c2 : tC} {re : tRE} {pl : tPL} {cl : tCL} {a1 : Int32} {v : (Nat → Int32)} (h : f_J7_fill_53178 (rs 2).1 20 a1 = some v) : MG l yJ7_fill_53178 cJ7_fill_53178 4 none 0 [.ref (q 7), .int a1] D (tyL dT) (wX dT q rs g bh c1 c2 re pl cl) (QV D (tyL dT) (xA q) (wX dT q (va_up rs 2 (v, (rs 2).2.1, (rs 2).2.2.1, (rs 2).2.2.2)) g bh c1 c2 re pl cl)) (xA q) := by
  refine MG.mk (by decide +kernel) (Nat.le_of_ble_eq_true rfl) ?_
  intro p e s m below meth c hx hb hr hml hown hts hlk hK hP ls hl
  have hown : s.vm.findClass RJ7 = some m.cls := hown
  have hS : va_S (xA q) s.heap s.heap [] := va_S.rf
  have hl : lv_has ls 4 [(0, .ref (q 7)), (1, .int a1)] := hl
  rw [f_J7_fill_53178] at h
  refine lv_iconst (v := 0) hx hb dJ7_fill_53178_0 (by decide) ?_
  refine lv_istore_n (lv' := [(2, .int (0 : Int32)), (0, .ref (q 7)), (1, .int a1)]) hx hb dJ7_fill_53178_1 rfl hl (by decide) rfl (fun ls hl => ?_)
  refine lv_aload_n hx hb dJ7_fill_53178_2 rfl (lv_at hl 1 rfl) ?_
  refine va_alen (v := (nI 20)) hx hb hK hP 7 0 rfl rfl rfl dJ7_fill_53178_3 ?_
  refine lv_istore_n (lv' := [(3, .int (nI 20)), (2, .int (0 : Int32)), (0, .ref (q 7)), (1, .int a1)]) hx hb dJ7_fill_53178_4 rfl hl (by decide) rfl (fun ls hl => ?_)
  have hL5_3 : ∀ (n : Nat) (a_5 : (Nat → Int32)) (x2_5 : Int32) (y : Int32 × (Nat → Int32)), f_J7_fill_53178_5 20 n a_5 a1 x2_5 (nI 20) = some y → ∀ (ls : Array Slot) (H : Heap) (locs : List Loc), lv_has ls 4 [(0, .ref (q 7)), (1, .int a1), (2, .int x2_5), (3, .int (nI 20))] → va_P D vwCl (wX dT q (va_up rs 2 (a_5, (rs 2).2.1, (rs 2).2.2.1, (rs 2).2.2.2)) g bh c1 c2 re pl cl) H → va_S (xA q) s.heap H locs → ∀ Q : State → Prop, (∀ (ls : Array Slot) (H : Heap) (locs : List Loc), lv_has ls 4 [(0, .ref (q 7)), (1, .int a1), (2, .int y.1), (3, .int (nI 20))] → va_P D vwCl (wX dT q (va_up (va_up rs 2 (a_5, (rs 2).2.1, (rs 2).2.2.1, (rs 2).2.2.2)) 2 (y.2, ((va_up rs 2 (a_5, (rs 2).2.1, (rs 2).2.2.1, (rs 2).2.2.2)) 2).2.1, ((va_up rs 2 (a_5, (rs 2).2.1, (rs 2).2.2.1, (rs 2).2.2.2)) 2).2.2.1, ((va_up rs 2 (a_5, (rs 2).2.1, (rs 2).2.2.1, (rs 2).2.2.2)) 2).2.2.2)) g bh c1 c2 re pl cl) H → va_S (xA q) s.heap H locs → W p l e (rmD 0) s m [.ref (q 7), .int a1].toArray below meth c H locs 0 0 Q (F0 m 20 ls [])) → W p l e (rmD 0) s m [.ref (q 7), .int a1].toArray below meth c H locs 0 0 Q (F0 m 5 ls []) := by
    intro n
    induction n with
    | zero => intro a_5 x2_5 y h; exact absurd h (by simp [f_J7_fill_53178_5])
    | succ n ih =>
      intro a_5 x2_5 y h ls H locs hl hP hS Q kk
      rw [f_J7_fill_53178_5] at h
      refine lv_iload_n hx hb dJ7_fill_53178_5 rfl (lv_at hl 2 rfl) ?_
      refine lv_iload_n hx hb dJ7_fill_53178_6 rfl (lv_at hl 3 rfl) ?_
      refine lv_icmp_ge (tgt := 20) hx hb dJ7_fill_53178_7 (by decide) (fun k1 => ?_) (fun k1 => ?_)
      · rw [if_pos k1] at h
        obtain rfl := Option.some.inj h
        exact kk _ _ _ (lv_sub hl [0, 1, 2, 3] rfl) hP hS
      · rw [if_neg k1] at h
        refine lv_aload_n hx hb dJ7_fill_53178_10 rfl (lv_at hl 0 rfl) ?_
        refine lv_iload_n hx hb dJ7_fill_53178_11 rfl (lv_at hl 2 rfl) ?_
        refine lv_iload_n hx hb dJ7_fill_53178_12 rfl (lv_at hl 1 rfl) ?_
        obtain ⟨k2, h⟩ := dg h
        refine va_iast (f := ((va_up rs 2 (a_5, (rs 2).2.1, (rs 2).2.2.1, (rs 2).2.2.2)) 2).1) hx hb hK hP (xD.w hD) hS 7 0 rfl rfl (inb_vp k2) dJ7_fill_53178_13 (fun H locs hP _ hS => ?_)
        have hP : va_P D vwCl (wX dT q (va_up (va_up rs 2 (a_5, (rs 2).2.1, (rs 2).2.2.1, (rs 2).2.2.2)) 2 ((upd ((va_up rs 2 (a_5, (rs 2).2.1, (rs 2).2.2.1, (rs 2).2.2.2)) 2).1 x2_5.toNatClampNeg a1), ((va_up rs 2 (a_5, (rs 2).2.1, (rs 2).2.2.1, (rs 2).2.2.2)) 2).2.1, ((va_up rs 2 (a_5, (rs 2).2.1, (rs 2).2.2.1, (rs 2).2.2.2)) 2).2.2.1, ((va_up rs 2 (a_5, (rs 2).2.1, (rs 2).2.2.1, (rs 2).2.2.2)) 2).2.2.2)) g bh c1 c2 re pl cl) H := hP
        refine lv_iinc (v := (x2_5 + (1 : Int32))) (lv' := [(2, .int (x2_5 + (1 : Int32))), (0, .ref (q 7)), (1, .int a1), (3, .int (nI 20))]) hx hb dJ7_fill_53178_14 hl (k := 2) rfl rfl (by decide) rfl (fun ls hl => ?_)
        refine lv_goto (tgt := 5) hx hb dJ7_fill_53178_17 (by decide) ?_
        exact ih _ _ _ h _ _ _ (lv_sub hl [1, 2, 0, 3] rfl) hP hS _ kk
  obtain ⟨y4, hy4, h⟩ := dq h
  refine hL5_3 _ _ _ _ hy4 _ _ _ (lv_sub hl [2, 3, 1, 0] rfl) hP hS _ (fun ls H locs hl hP hS => ?_)
  obtain rfl := Option.some.inj h
  exact rV hx hb hr hlk hK hP hS dJ7_fill_53178_20

set_option maxRecDepth 100000 in
set_option maxHeartbeats 4000000 in
theorem c_X7_come_2 {l : Launch} {D : va_G} {dT : Nat → ClassId} {q : Nat → Nat} (hD : xD q) {rs : (Nat → tRow)} {g : tG_} {bh : tBH} {c1 : tC} {c2 : tC} {re : tRE} {pl : tPL} {cl : tCL} {a1 : Int32} {a2 : Int32} {v : tRow} (h : f_X7_come (rs 2) a1 a2 = some v) : MG l yX7_come cX7_come 3 none 1 [.ref (q 6), .int a1, .int a2] D (tyL dT) (wX dT q rs g bh c1 c2 re pl cl) (QV D (tyL dT) (xA q) (wX dT q (va_up rs 2 v) g bh c1 c2 re pl cl)) (xA q) := by
  refine MG.mk (by decide +kernel) (Nat.le_of_ble_eq_true rfl) ?_
  intro p e s m below meth c hx hb hr hml hown hts hlk hK hP ls hl
  have hown : s.vm.findClass RX7 = some m.cls := hown
  have hS : va_S (xA q) s.heap s.heap [] := va_S.rf
  have hl : lv_has ls 3 [(0, .ref (q 6)), (1, .int a1), (2, .int a2)] := hl
  rw [f_X7_come] at h
  refine lv_aload_n hx hb dX7_come_0 rfl (lv_at hl 0 rfl) ?_
  refine lv_iconst (v := 1) hx hb dX7_come_1 (by decide) ?_
  refine va_put (D := D) (ci := 6) (v := .int (1 : Int32)) (ty := .boolean) (C := RX7) (T := TX7) (N := 4) hx hb hts (fun w h => sub_z _ (inX7 w h)) tyX7 tyX7_ok nmX7 hown hK hP (xD.w hD) hS 6 rfl rfl 1 (by decide) (hts _ (sub_z _ k_32)) (fun _ h => h) rfl (by decide +kernel) rfl rfl (Nat.le_of_ble_eq_true rfl) dX7_come_2 (fun H locs hP _ hS => ?_)
  have hP : va_P D vwCl (wX dT q (va_up rs 2 ((rs 2).1, (1 : Int32), (rs 2).2.2.1, (rs 2).2.2.2)) g bh c1 c2 re pl cl) H := hP
  refine lv_aload_n hx hb dX7_come_5 rfl (lv_at hl 0 rfl) ?_
  refine lv_iload_n hx hb dX7_come_6 rfl (lv_at hl 1 rfl) ?_
  refine va_put (D := D) (ci := 6) (v := .int a1) (ty := .int) (C := RX7) (T := TX7) (N := 4) hx hb hts (fun w h => sub_z _ (inX7 w h)) tyX7 tyX7_ok nmX7 hown hK hP (xD.w hD) hS 6 rfl rfl 2 (by decide) (hts _ (sub_z _ k_33)) (fun _ h => h) rfl (by decide +kernel) rfl rfl (Nat.le_of_ble_eq_true rfl) dX7_come_7 (fun H locs hP _ hS => ?_)
  have hP : va_P D vwCl (wX dT q (va_up rs 2 ((rs 2).1, (1 : Int32), a1, (rs 2).2.2.2)) g bh c1 c2 re pl cl) H := hP
  refine lv_aload_n hx hb dX7_come_10 rfl (lv_at hl 0 rfl) ?_
  refine lv_iload_n hx hb dX7_come_11 rfl (lv_at hl 2 rfl) ?_
  refine va_put (D := D) (ci := 6) (v := .int a2) (ty := .int) (C := RX7) (T := TX7) (N := 4) hx hb hts (fun w h => sub_z _ (inX7 w h)) tyX7 tyX7_ok nmX7 hown hK hP (xD.w hD) hS 6 rfl rfl 3 (by decide) (hts _ (sub_z _ k_34)) (fun _ h => h) rfl (by decide +kernel) rfl rfl (Nat.le_of_ble_eq_true rfl) dX7_come_12 (fun H locs hP _ hS => ?_)
  have hP : va_P D vwCl (wX dT q (va_up rs 2 ((rs 2).1, (1 : Int32), a1, a2)) g bh c1 c2 re pl cl) H := hP
  refine lv_aload_n hx hb dX7_come_15 rfl (lv_at hl 0 rfl) ?_
  refine va_get (D := D) (ci := 6) (v := .ref (q 7)) (C := RX7) (T := TX7) (N := 4) hx hb hts (fun w h => sub_z _ (inX7 w h)) hown hK hP 6 rfl rfl 0 (by decide) (hts _ (sub_z _ k_31)) (fun _ h => h) rfl dX7_come_16 ?_
  refine lv_iconst (v := 1) hx hb dX7_come_19 (by decide) ?_
  obtain ⟨v1, hv1, h⟩ := dq h
  refine cSv (As := [.ref (q 7), .int (1 : Int32)]) (rest := []) ⟨hx, hb, hml, hown, hts⟩ (c_J7_fill_53178_7 (dT := dT) (rs := (va_up rs 2 ((rs 2).1, (1 : Int32), a1, a2))) (g := g) (bh := bh) (c1 := c1) (c2 := c2) (re := re) (pl := pl) (cl := cl) hD hv1) (va_cwS 2 hts (good_S sub_z k_245 k_246 k_10 k_247) rfl rfl rfl (by decide +kernel) (by decide)) hK hP hS rfl hl.1 rfl (Nat.le_of_ble_eq_true rfl) dX7_come_20 (by decide) (fun H locs hP hS => ?_)
  obtain rfl := Option.some.inj h
  exact rV hx hb hr hlk hK hP hS dX7_come_23

set_option maxRecDepth 100000 in
set_option maxHeartbeats 4000000 in
theorem c_J7_fill_53178_9 {l : Launch} {D : va_G} {dT : Nat → ClassId} {q : Nat → Nat} (hD : xD q) {rs : (Nat → tRow)} {g : tG_} {bh : tBH} {c1 : tC} {c2 : tC} {re : tRE} {pl : tPL} {cl : tCL} {a1 : Int32} {v : (Nat → Int32)} (h : f_J7_fill_53178 (rs 3).1 20 a1 = some v) : MG l yJ7_fill_53178 cJ7_fill_53178 4 none 0 [.ref (q 9), .int a1] D (tyL dT) (wX dT q rs g bh c1 c2 re pl cl) (QV D (tyL dT) (xA q) (wX dT q (va_up rs 3 (v, (rs 3).2.1, (rs 3).2.2.1, (rs 3).2.2.2)) g bh c1 c2 re pl cl)) (xA q) := by
  refine MG.mk (by decide +kernel) (Nat.le_of_ble_eq_true rfl) ?_
  intro p e s m below meth c hx hb hr hml hown hts hlk hK hP ls hl
  have hown : s.vm.findClass RJ7 = some m.cls := hown
  have hS : va_S (xA q) s.heap s.heap [] := va_S.rf
  have hl : lv_has ls 4 [(0, .ref (q 9)), (1, .int a1)] := hl
  rw [f_J7_fill_53178] at h
  refine lv_iconst (v := 0) hx hb dJ7_fill_53178_0 (by decide) ?_
  refine lv_istore_n (lv' := [(2, .int (0 : Int32)), (0, .ref (q 9)), (1, .int a1)]) hx hb dJ7_fill_53178_1 rfl hl (by decide) rfl (fun ls hl => ?_)
  refine lv_aload_n hx hb dJ7_fill_53178_2 rfl (lv_at hl 1 rfl) ?_
  refine va_alen (v := (nI 20)) hx hb hK hP 9 0 rfl rfl rfl dJ7_fill_53178_3 ?_
  refine lv_istore_n (lv' := [(3, .int (nI 20)), (2, .int (0 : Int32)), (0, .ref (q 9)), (1, .int a1)]) hx hb dJ7_fill_53178_4 rfl hl (by decide) rfl (fun ls hl => ?_)
  have hL5_3 : ∀ (n : Nat) (a_5 : (Nat → Int32)) (x2_5 : Int32) (y : Int32 × (Nat → Int32)), f_J7_fill_53178_5 20 n a_5 a1 x2_5 (nI 20) = some y → ∀ (ls : Array Slot) (H : Heap) (locs : List Loc), lv_has ls 4 [(0, .ref (q 9)), (1, .int a1), (2, .int x2_5), (3, .int (nI 20))] → va_P D vwCl (wX dT q (va_up rs 3 (a_5, (rs 3).2.1, (rs 3).2.2.1, (rs 3).2.2.2)) g bh c1 c2 re pl cl) H → va_S (xA q) s.heap H locs → ∀ Q : State → Prop, (∀ (ls : Array Slot) (H : Heap) (locs : List Loc), lv_has ls 4 [(0, .ref (q 9)), (1, .int a1), (2, .int y.1), (3, .int (nI 20))] → va_P D vwCl (wX dT q (va_up (va_up rs 3 (a_5, (rs 3).2.1, (rs 3).2.2.1, (rs 3).2.2.2)) 3 (y.2, ((va_up rs 3 (a_5, (rs 3).2.1, (rs 3).2.2.1, (rs 3).2.2.2)) 3).2.1, ((va_up rs 3 (a_5, (rs 3).2.1, (rs 3).2.2.1, (rs 3).2.2.2)) 3).2.2.1, ((va_up rs 3 (a_5, (rs 3).2.1, (rs 3).2.2.1, (rs 3).2.2.2)) 3).2.2.2)) g bh c1 c2 re pl cl) H → va_S (xA q) s.heap H locs → W p l e (rmD 0) s m [.ref (q 9), .int a1].toArray below meth c H locs 0 0 Q (F0 m 20 ls [])) → W p l e (rmD 0) s m [.ref (q 9), .int a1].toArray below meth c H locs 0 0 Q (F0 m 5 ls []) := by
    intro n
    induction n with
    | zero => intro a_5 x2_5 y h; exact absurd h (by simp [f_J7_fill_53178_5])
    | succ n ih =>
      intro a_5 x2_5 y h ls H locs hl hP hS Q kk
      rw [f_J7_fill_53178_5] at h
      refine lv_iload_n hx hb dJ7_fill_53178_5 rfl (lv_at hl 2 rfl) ?_
      refine lv_iload_n hx hb dJ7_fill_53178_6 rfl (lv_at hl 3 rfl) ?_
      refine lv_icmp_ge (tgt := 20) hx hb dJ7_fill_53178_7 (by decide) (fun k1 => ?_) (fun k1 => ?_)
      · rw [if_pos k1] at h
        obtain rfl := Option.some.inj h
        exact kk _ _ _ (lv_sub hl [0, 1, 2, 3] rfl) hP hS
      · rw [if_neg k1] at h
        refine lv_aload_n hx hb dJ7_fill_53178_10 rfl (lv_at hl 0 rfl) ?_
        refine lv_iload_n hx hb dJ7_fill_53178_11 rfl (lv_at hl 2 rfl) ?_
        refine lv_iload_n hx hb dJ7_fill_53178_12 rfl (lv_at hl 1 rfl) ?_
        obtain ⟨k2, h⟩ := dg h
        refine va_iast (f := ((va_up rs 3 (a_5, (rs 3).2.1, (rs 3).2.2.1, (rs 3).2.2.2)) 3).1) hx hb hK hP (xD.w hD) hS 9 0 rfl rfl (inb_vp k2) dJ7_fill_53178_13 (fun H locs hP _ hS => ?_)
        have hP : va_P D vwCl (wX dT q (va_up (va_up rs 3 (a_5, (rs 3).2.1, (rs 3).2.2.1, (rs 3).2.2.2)) 3 ((upd ((va_up rs 3 (a_5, (rs 3).2.1, (rs 3).2.2.1, (rs 3).2.2.2)) 3).1 x2_5.toNatClampNeg a1), ((va_up rs 3 (a_5, (rs 3).2.1, (rs 3).2.2.1, (rs 3).2.2.2)) 3).2.1, ((va_up rs 3 (a_5, (rs 3).2.1, (rs 3).2.2.1, (rs 3).2.2.2)) 3).2.2.1, ((va_up rs 3 (a_5, (rs 3).2.1, (rs 3).2.2.1, (rs 3).2.2.2)) 3).2.2.2)) g bh c1 c2 re pl cl) H := hP
        refine lv_iinc (v := (x2_5 + (1 : Int32))) (lv' := [(2, .int (x2_5 + (1 : Int32))), (0, .ref (q 9)), (1, .int a1), (3, .int (nI 20))]) hx hb dJ7_fill_53178_14 hl (k := 2) rfl rfl (by decide) rfl (fun ls hl => ?_)
        refine lv_goto (tgt := 5) hx hb dJ7_fill_53178_17 (by decide) ?_
        exact ih _ _ _ h _ _ _ (lv_sub hl [1, 2, 0, 3] rfl) hP hS _ kk
  obtain ⟨y4, hy4, h⟩ := dq h
  refine hL5_3 _ _ _ _ hy4 _ _ _ (lv_sub hl [2, 3, 1, 0] rfl) hP hS _ (fun ls H locs hl hP hS => ?_)
  obtain rfl := Option.some.inj h
  exact rV hx hb hr hlk hK hP hS dJ7_fill_53178_20

set_option maxRecDepth 100000 in
set_option maxHeartbeats 4000000 in
theorem c_X7_come_3 {l : Launch} {D : va_G} {dT : Nat → ClassId} {q : Nat → Nat} (hD : xD q) {rs : (Nat → tRow)} {g : tG_} {bh : tBH} {c1 : tC} {c2 : tC} {re : tRE} {pl : tPL} {cl : tCL} {a1 : Int32} {a2 : Int32} {v : tRow} (h : f_X7_come (rs 3) a1 a2 = some v) : MG l yX7_come cX7_come 3 none 1 [.ref (q 8), .int a1, .int a2] D (tyL dT) (wX dT q rs g bh c1 c2 re pl cl) (QV D (tyL dT) (xA q) (wX dT q (va_up rs 3 v) g bh c1 c2 re pl cl)) (xA q) := by
  refine MG.mk (by decide +kernel) (Nat.le_of_ble_eq_true rfl) ?_
  intro p e s m below meth c hx hb hr hml hown hts hlk hK hP ls hl
  have hown : s.vm.findClass RX7 = some m.cls := hown
  have hS : va_S (xA q) s.heap s.heap [] := va_S.rf
  have hl : lv_has ls 3 [(0, .ref (q 8)), (1, .int a1), (2, .int a2)] := hl
  rw [f_X7_come] at h
  refine lv_aload_n hx hb dX7_come_0 rfl (lv_at hl 0 rfl) ?_
  refine lv_iconst (v := 1) hx hb dX7_come_1 (by decide) ?_
  refine va_put (D := D) (ci := 6) (v := .int (1 : Int32)) (ty := .boolean) (C := RX7) (T := TX7) (N := 4) hx hb hts (fun w h => sub_z _ (inX7 w h)) tyX7 tyX7_ok nmX7 hown hK hP (xD.w hD) hS 8 rfl rfl 1 (by decide) (hts _ (sub_z _ k_32)) (fun _ h => h) rfl (by decide +kernel) rfl rfl (Nat.le_of_ble_eq_true rfl) dX7_come_2 (fun H locs hP _ hS => ?_)
  have hP : va_P D vwCl (wX dT q (va_up rs 3 ((rs 3).1, (1 : Int32), (rs 3).2.2.1, (rs 3).2.2.2)) g bh c1 c2 re pl cl) H := hP
  refine lv_aload_n hx hb dX7_come_5 rfl (lv_at hl 0 rfl) ?_
  refine lv_iload_n hx hb dX7_come_6 rfl (lv_at hl 1 rfl) ?_
  refine va_put (D := D) (ci := 6) (v := .int a1) (ty := .int) (C := RX7) (T := TX7) (N := 4) hx hb hts (fun w h => sub_z _ (inX7 w h)) tyX7 tyX7_ok nmX7 hown hK hP (xD.w hD) hS 8 rfl rfl 2 (by decide) (hts _ (sub_z _ k_33)) (fun _ h => h) rfl (by decide +kernel) rfl rfl (Nat.le_of_ble_eq_true rfl) dX7_come_7 (fun H locs hP _ hS => ?_)
  have hP : va_P D vwCl (wX dT q (va_up rs 3 ((rs 3).1, (1 : Int32), a1, (rs 3).2.2.2)) g bh c1 c2 re pl cl) H := hP
  refine lv_aload_n hx hb dX7_come_10 rfl (lv_at hl 0 rfl) ?_
  refine lv_iload_n hx hb dX7_come_11 rfl (lv_at hl 2 rfl) ?_
  refine va_put (D := D) (ci := 6) (v := .int a2) (ty := .int) (C := RX7) (T := TX7) (N := 4) hx hb hts (fun w h => sub_z _ (inX7 w h)) tyX7 tyX7_ok nmX7 hown hK hP (xD.w hD) hS 8 rfl rfl 3 (by decide) (hts _ (sub_z _ k_34)) (fun _ h => h) rfl (by decide +kernel) rfl rfl (Nat.le_of_ble_eq_true rfl) dX7_come_12 (fun H locs hP _ hS => ?_)
  have hP : va_P D vwCl (wX dT q (va_up rs 3 ((rs 3).1, (1 : Int32), a1, a2)) g bh c1 c2 re pl cl) H := hP
  refine lv_aload_n hx hb dX7_come_15 rfl (lv_at hl 0 rfl) ?_
  refine va_get (D := D) (ci := 6) (v := .ref (q 9)) (C := RX7) (T := TX7) (N := 4) hx hb hts (fun w h => sub_z _ (inX7 w h)) hown hK hP 8 rfl rfl 0 (by decide) (hts _ (sub_z _ k_31)) (fun _ h => h) rfl dX7_come_16 ?_
  refine lv_iconst (v := 1) hx hb dX7_come_19 (by decide) ?_
  obtain ⟨v1, hv1, h⟩ := dq h
  refine cSv (As := [.ref (q 9), .int (1 : Int32)]) (rest := []) ⟨hx, hb, hml, hown, hts⟩ (c_J7_fill_53178_9 (dT := dT) (rs := (va_up rs 3 ((rs 3).1, (1 : Int32), a1, a2))) (g := g) (bh := bh) (c1 := c1) (c2 := c2) (re := re) (pl := pl) (cl := cl) hD hv1) (va_cwS 2 hts (good_S sub_z k_245 k_246 k_10 k_247) rfl rfl rfl (by decide +kernel) (by decide)) hK hP hS rfl hl.1 rfl (Nat.le_of_ble_eq_true rfl) dX7_come_20 (by decide) (fun H locs hP hS => ?_)
  obtain rfl := Option.some.inj h
  exact rV hx hb hr hlk hK hP hS dX7_come_23

theorem c_X7_come {l : Launch} {D : va_G} {dT : Nat → ClassId} {q : Nat → Nat} (hD : xD q) {rs : (Nat → tRow)} {g : tG_} {bh : tBH} {c1 : tC} {c2 : tC} {re : tRE} {pl : tPL} {cl : tCL} {j : Nat} (hj : j < 4) {a1 : Int32} {a2 : Int32} {v : tRow} (h : f_X7_come (rs j) a1 a2 = some v) : MG l yX7_come cX7_come 3 none 1 [.ref (q (2 + 2 * j)), .int a1, .int a2] D (tyL dT) (wX dT q rs g bh c1 c2 re pl cl) (QV D (tyL dT) (xA q) (wX dT q (va_up rs j v) g bh c1 c2 re pl cl)) (xA q) := by
  match j, hj with
  | 0, _ => exact c_X7_come_0 hD h
  | 1, _ => exact c_X7_come_1 hD h
  | 2, _ => exact c_X7_come_2 hD h
  | 3, _ => exact c_X7_come_3 hD h

set_option maxRecDepth 100000 in
set_option maxHeartbeats 4000000 in
theorem c_X7_go_0 {l : Launch} {D : va_G} {dT : Nat → ClassId} {q : Nat → Nat} (hD : xD q) {rs : (Nat → tRow)} {g : tG_} {bh : tBH} {c1 : tC} {c2 : tC} {re : tRE} {pl : tPL} {cl : tCL}  {v : tRow} (h : f_X7_go (rs 0) = some v) : MG l yX7_go cX7_go 1 none 0 [.ref (q 2)] D (tyL dT) (wX dT q rs g bh c1 c2 re pl cl) (QV D (tyL dT) (xA q) (wX dT q (va_up rs 0 v) g bh c1 c2 re pl cl)) (xA q) := by
  refine MG.mk (by decide +kernel) (Nat.le_of_ble_eq_true rfl) ?_
  intro p e s m below meth c hx hb hr hml hown hts hlk hK hP ls hl
  have hown : s.vm.findClass RX7 = some m.cls := hown
  have hS : va_S (xA q) s.heap s.heap [] := va_S.rf
  have hl : lv_has ls 1 [(0, .ref (q 2))] := hl
  rw [f_X7_go] at h
  refine lv_aload_n hx hb dX7_go_0 rfl (lv_at hl 0 rfl) ?_
  refine lv_iconst (v := 0) hx hb dX7_go_1 (by decide) ?_
  refine va_put (D := D) (ci := 6) (v := .int (0 : Int32)) (ty := .boolean) (C := RX7) (T := TX7) (N := 4) hx hb hts (fun w h => sub_z _ (inX7 w h)) tyX7 tyX7_ok nmX7 hown hK hP (xD.w hD) hS 2 rfl rfl 1 (by decide) (hts _ (sub_z _ k_32)) (fun _ h => h) rfl (by decide +kernel) rfl rfl (Nat.le_of_ble_eq_true rfl) dX7_go_2 (fun H locs hP _ hS => ?_)
  have hP : va_P D vwCl (wX dT q (va_up rs 0 ((rs 0).1, (0 : Int32), (rs 0).2.2.1, (rs 0).2.2.2)) g bh c1 c2 re pl cl) H := hP
  refine lv_aload_n hx hb dX7_go_5 rfl (lv_at hl 0 rfl) ?_
  refine lv_iconst (v := 0) hx hb dX7_go_6 (by decide) ?_
  refine va_put (D := D) (ci := 6) (v := .int (0 : Int32)) (ty := .int) (C := RX7) (T := TX7) (N := 4) hx hb hts (fun w h => sub_z _ (inX7 w h)) tyX7 tyX7_ok nmX7 hown hK hP (xD.w hD) hS 2 rfl rfl 3 (by decide) (hts _ (sub_z _ k_34)) (fun _ h => h) rfl (by decide +kernel) rfl rfl (Nat.le_of_ble_eq_true rfl) dX7_go_7 (fun H locs hP _ hS => ?_)
  have hP : va_P D vwCl (wX dT q (va_up rs 0 ((rs 0).1, (0 : Int32), (rs 0).2.2.1, (0 : Int32))) g bh c1 c2 re pl cl) H := hP
  obtain rfl := Option.some.inj h
  exact rV hx hb hr hlk hK hP hS dX7_go_10

set_option maxRecDepth 100000 in
set_option maxHeartbeats 4000000 in
theorem c_X7_go_1 {l : Launch} {D : va_G} {dT : Nat → ClassId} {q : Nat → Nat} (hD : xD q) {rs : (Nat → tRow)} {g : tG_} {bh : tBH} {c1 : tC} {c2 : tC} {re : tRE} {pl : tPL} {cl : tCL}  {v : tRow} (h : f_X7_go (rs 1) = some v) : MG l yX7_go cX7_go 1 none 0 [.ref (q 4)] D (tyL dT) (wX dT q rs g bh c1 c2 re pl cl) (QV D (tyL dT) (xA q) (wX dT q (va_up rs 1 v) g bh c1 c2 re pl cl)) (xA q) := by
  refine MG.mk (by decide +kernel) (Nat.le_of_ble_eq_true rfl) ?_
  intro p e s m below meth c hx hb hr hml hown hts hlk hK hP ls hl
  have hown : s.vm.findClass RX7 = some m.cls := hown
  have hS : va_S (xA q) s.heap s.heap [] := va_S.rf
  have hl : lv_has ls 1 [(0, .ref (q 4))] := hl
  rw [f_X7_go] at h
  refine lv_aload_n hx hb dX7_go_0 rfl (lv_at hl 0 rfl) ?_
  refine lv_iconst (v := 0) hx hb dX7_go_1 (by decide) ?_
  refine va_put (D := D) (ci := 6) (v := .int (0 : Int32)) (ty := .boolean) (C := RX7) (T := TX7) (N := 4) hx hb hts (fun w h => sub_z _ (inX7 w h)) tyX7 tyX7_ok nmX7 hown hK hP (xD.w hD) hS 4 rfl rfl 1 (by decide) (hts _ (sub_z _ k_32)) (fun _ h => h) rfl (by decide +kernel) rfl rfl (Nat.le_of_ble_eq_true rfl) dX7_go_2 (fun H locs hP _ hS => ?_)
  have hP : va_P D vwCl (wX dT q (va_up rs 1 ((rs 1).1, (0 : Int32), (rs 1).2.2.1, (rs 1).2.2.2)) g bh c1 c2 re pl cl) H := hP
  refine lv_aload_n hx hb dX7_go_5 rfl (lv_at hl 0 rfl) ?_
  refine lv_iconst (v := 0) hx hb dX7_go_6 (by decide) ?_
  refine va_put (D := D) (ci := 6) (v := .int (0 : Int32)) (ty := .int) (C := RX7) (T := TX7) (N := 4) hx hb hts (fun w h => sub_z _ (inX7 w h)) tyX7 tyX7_ok nmX7 hown hK hP (xD.w hD) hS 4 rfl rfl 3 (by decide) (hts _ (sub_z _ k_34)) (fun _ h => h) rfl (by decide +kernel) rfl rfl (Nat.le_of_ble_eq_true rfl) dX7_go_7 (fun H locs hP _ hS => ?_)
  have hP : va_P D vwCl (wX dT q (va_up rs 1 ((rs 1).1, (0 : Int32), (rs 1).2.2.1, (0 : Int32))) g bh c1 c2 re pl cl) H := hP
  obtain rfl := Option.some.inj h
  exact rV hx hb hr hlk hK hP hS dX7_go_10

set_option maxRecDepth 100000 in
set_option maxHeartbeats 4000000 in
theorem c_X7_go_2 {l : Launch} {D : va_G} {dT : Nat → ClassId} {q : Nat → Nat} (hD : xD q) {rs : (Nat → tRow)} {g : tG_} {bh : tBH} {c1 : tC} {c2 : tC} {re : tRE} {pl : tPL} {cl : tCL}  {v : tRow} (h : f_X7_go (rs 2) = some v) : MG l yX7_go cX7_go 1 none 0 [.ref (q 6)] D (tyL dT) (wX dT q rs g bh c1 c2 re pl cl) (QV D (tyL dT) (xA q) (wX dT q (va_up rs 2 v) g bh c1 c2 re pl cl)) (xA q) := by
  refine MG.mk (by decide +kernel) (Nat.le_of_ble_eq_true rfl) ?_
  intro p e s m below meth c hx hb hr hml hown hts hlk hK hP ls hl
  have hown : s.vm.findClass RX7 = some m.cls := hown
  have hS : va_S (xA q) s.heap s.heap [] := va_S.rf
  have hl : lv_has ls 1 [(0, .ref (q 6))] := hl
  rw [f_X7_go] at h
  refine lv_aload_n hx hb dX7_go_0 rfl (lv_at hl 0 rfl) ?_
  refine lv_iconst (v := 0) hx hb dX7_go_1 (by decide) ?_
  refine va_put (D := D) (ci := 6) (v := .int (0 : Int32)) (ty := .boolean) (C := RX7) (T := TX7) (N := 4) hx hb hts (fun w h => sub_z _ (inX7 w h)) tyX7 tyX7_ok nmX7 hown hK hP (xD.w hD) hS 6 rfl rfl 1 (by decide) (hts _ (sub_z _ k_32)) (fun _ h => h) rfl (by decide +kernel) rfl rfl (Nat.le_of_ble_eq_true rfl) dX7_go_2 (fun H locs hP _ hS => ?_)
  have hP : va_P D vwCl (wX dT q (va_up rs 2 ((rs 2).1, (0 : Int32), (rs 2).2.2.1, (rs 2).2.2.2)) g bh c1 c2 re pl cl) H := hP
  refine lv_aload_n hx hb dX7_go_5 rfl (lv_at hl 0 rfl) ?_
  refine lv_iconst (v := 0) hx hb dX7_go_6 (by decide) ?_
  refine va_put (D := D) (ci := 6) (v := .int (0 : Int32)) (ty := .int) (C := RX7) (T := TX7) (N := 4) hx hb hts (fun w h => sub_z _ (inX7 w h)) tyX7 tyX7_ok nmX7 hown hK hP (xD.w hD) hS 6 rfl rfl 3 (by decide) (hts _ (sub_z _ k_34)) (fun _ h => h) rfl (by decide +kernel) rfl rfl (Nat.le_of_ble_eq_true rfl) dX7_go_7 (fun H locs hP _ hS => ?_)
  have hP : va_P D vwCl (wX dT q (va_up rs 2 ((rs 2).1, (0 : Int32), (rs 2).2.2.1, (0 : Int32))) g bh c1 c2 re pl cl) H := hP
  obtain rfl := Option.some.inj h
  exact rV hx hb hr hlk hK hP hS dX7_go_10

set_option maxRecDepth 100000 in
set_option maxHeartbeats 4000000 in
theorem c_X7_go_3 {l : Launch} {D : va_G} {dT : Nat → ClassId} {q : Nat → Nat} (hD : xD q) {rs : (Nat → tRow)} {g : tG_} {bh : tBH} {c1 : tC} {c2 : tC} {re : tRE} {pl : tPL} {cl : tCL}  {v : tRow} (h : f_X7_go (rs 3) = some v) : MG l yX7_go cX7_go 1 none 0 [.ref (q 8)] D (tyL dT) (wX dT q rs g bh c1 c2 re pl cl) (QV D (tyL dT) (xA q) (wX dT q (va_up rs 3 v) g bh c1 c2 re pl cl)) (xA q) := by
  refine MG.mk (by decide +kernel) (Nat.le_of_ble_eq_true rfl) ?_
  intro p e s m below meth c hx hb hr hml hown hts hlk hK hP ls hl
  have hown : s.vm.findClass RX7 = some m.cls := hown
  have hS : va_S (xA q) s.heap s.heap [] := va_S.rf
  have hl : lv_has ls 1 [(0, .ref (q 8))] := hl
  rw [f_X7_go] at h
  refine lv_aload_n hx hb dX7_go_0 rfl (lv_at hl 0 rfl) ?_
  refine lv_iconst (v := 0) hx hb dX7_go_1 (by decide) ?_
  refine va_put (D := D) (ci := 6) (v := .int (0 : Int32)) (ty := .boolean) (C := RX7) (T := TX7) (N := 4) hx hb hts (fun w h => sub_z _ (inX7 w h)) tyX7 tyX7_ok nmX7 hown hK hP (xD.w hD) hS 8 rfl rfl 1 (by decide) (hts _ (sub_z _ k_32)) (fun _ h => h) rfl (by decide +kernel) rfl rfl (Nat.le_of_ble_eq_true rfl) dX7_go_2 (fun H locs hP _ hS => ?_)
  have hP : va_P D vwCl (wX dT q (va_up rs 3 ((rs 3).1, (0 : Int32), (rs 3).2.2.1, (rs 3).2.2.2)) g bh c1 c2 re pl cl) H := hP
  refine lv_aload_n hx hb dX7_go_5 rfl (lv_at hl 0 rfl) ?_
  refine lv_iconst (v := 0) hx hb dX7_go_6 (by decide) ?_
  refine va_put (D := D) (ci := 6) (v := .int (0 : Int32)) (ty := .int) (C := RX7) (T := TX7) (N := 4) hx hb hts (fun w h => sub_z _ (inX7 w h)) tyX7 tyX7_ok nmX7 hown hK hP (xD.w hD) hS 8 rfl rfl 3 (by decide) (hts _ (sub_z _ k_34)) (fun _ h => h) rfl (by decide +kernel) rfl rfl (Nat.le_of_ble_eq_true rfl) dX7_go_7 (fun H locs hP _ hS => ?_)
  have hP : va_P D vwCl (wX dT q (va_up rs 3 ((rs 3).1, (0 : Int32), (rs 3).2.2.1, (0 : Int32))) g bh c1 c2 re pl cl) H := hP
  obtain rfl := Option.some.inj h
  exact rV hx hb hr hlk hK hP hS dX7_go_10

theorem c_X7_go {l : Launch} {D : va_G} {dT : Nat → ClassId} {q : Nat → Nat} (hD : xD q) {rs : (Nat → tRow)} {g : tG_} {bh : tBH} {c1 : tC} {c2 : tC} {re : tRE} {pl : tPL} {cl : tCL} {j : Nat} (hj : j < 4)  {v : tRow} (h : f_X7_go (rs j) = some v) : MG l yX7_go cX7_go 1 none 0 [.ref (q (2 + 2 * j))] D (tyL dT) (wX dT q rs g bh c1 c2 re pl cl) (QV D (tyL dT) (xA q) (wX dT q (va_up rs j v) g bh c1 c2 re pl cl)) (xA q) := by
  match j, hj with
  | 0, _ => exact c_X7_go_0 hD h
  | 1, _ => exact c_X7_go_1 hD h
  | 2, _ => exact c_X7_go_2 hD h
  | 3, _ => exact c_X7_go_3 hD h

set_option maxRecDepth 100000 in
set_option maxHeartbeats 4000000 in
theorem c_X7_isMissing_0 {l : Launch} {D : va_G} {dT : Nat → ClassId} {q : Nat → Nat} (hD : xD q) {rs : (Nat → tRow)} {g : tG_} {bh : tBH} {c1 : tC} {c2 : tC} {re : tRE} {pl : tPL} {cl : tCL}  {v : Int32} (h : f_X7_isMissing (rs 0) = some v) : MG l yX7_isMissing cX7_isMissing 1 (some .boolean) 0 [.ref (q 2)] D (tyL dT) (wX dT q rs g bh c1 c2 re pl cl) (QI D (tyL dT) (xA q) (wX dT q rs g bh c1 c2 re pl cl) v) (xA q) := by
  refine MG.mk (by decide +kernel) (Nat.le_of_ble_eq_true rfl) ?_
  intro p e s m below meth c hx hb hr hml hown hts hlk hK hP ls hl
  have hown : s.vm.findClass RX7 = some m.cls := hown
  have hS : va_S (xA q) s.heap s.heap [] := va_S.rf
  have hl : lv_has ls 1 [(0, .ref (q 2))] := hl
  rw [f_X7_isMissing] at h
  refine lv_aload_n hx hb dX7_isMissing_0 rfl (lv_at hl 0 rfl) ?_
  refine va_get (D := D) (ci := 6) (v := .int (rs 0).2.1) (C := RX7) (T := TX7) (N := 4) hx hb hts (fun w h => sub_z _ (inX7 w h)) hown hK hP 2 rfl rfl 1 (by decide) (hts _ (sub_z _ k_32)) (fun _ h => h) rfl dX7_isMissing_1 ?_
  refine lv_if_ne (tgt := 11) hx hb dX7_isMissing_4 (by decide) (fun k1 => ?_) (fun k1 => ?_)
  · rw [if_neg k1] at h
    refine lv_iconst (v := 0) hx hb dX7_isMissing_11 (by decide) ?_
    obtain rfl := Option.some.inj h
    exact rZ (v := (0 : Int32)) hx hb hr hlk rfl hK hP hS dX7_isMissing_12
  · rw [if_pos k1] at h
    refine lv_iconst (v := 1) hx hb dX7_isMissing_7 (by decide) ?_
    refine lv_goto (tgt := 12) hx hb dX7_isMissing_8 (by decide) ?_
    obtain rfl := Option.some.inj h
    exact rZ (v := (1 : Int32)) hx hb hr hlk rfl hK hP hS dX7_isMissing_12

set_option maxRecDepth 100000 in
set_option maxHeartbeats 4000000 in
theorem c_X7_isMissing_1 {l : Launch} {D : va_G} {dT : Nat → ClassId} {q : Nat → Nat} (hD : xD q) {rs : (Nat → tRow)} {g : tG_} {bh : tBH} {c1 : tC} {c2 : tC} {re : tRE} {pl : tPL} {cl : tCL}  {v : Int32} (h : f_X7_isMissing (rs 1) = some v) : MG l yX7_isMissing cX7_isMissing 1 (some .boolean) 0 [.ref (q 4)] D (tyL dT) (wX dT q rs g bh c1 c2 re pl cl) (QI D (tyL dT) (xA q) (wX dT q rs g bh c1 c2 re pl cl) v) (xA q) := by
  refine MG.mk (by decide +kernel) (Nat.le_of_ble_eq_true rfl) ?_
  intro p e s m below meth c hx hb hr hml hown hts hlk hK hP ls hl
  have hown : s.vm.findClass RX7 = some m.cls := hown
  have hS : va_S (xA q) s.heap s.heap [] := va_S.rf
  have hl : lv_has ls 1 [(0, .ref (q 4))] := hl
  rw [f_X7_isMissing] at h
  refine lv_aload_n hx hb dX7_isMissing_0 rfl (lv_at hl 0 rfl) ?_
  refine va_get (D := D) (ci := 6) (v := .int (rs 1).2.1) (C := RX7) (T := TX7) (N := 4) hx hb hts (fun w h => sub_z _ (inX7 w h)) hown hK hP 4 rfl rfl 1 (by decide) (hts _ (sub_z _ k_32)) (fun _ h => h) rfl dX7_isMissing_1 ?_
  refine lv_if_ne (tgt := 11) hx hb dX7_isMissing_4 (by decide) (fun k1 => ?_) (fun k1 => ?_)
  · rw [if_neg k1] at h
    refine lv_iconst (v := 0) hx hb dX7_isMissing_11 (by decide) ?_
    obtain rfl := Option.some.inj h
    exact rZ (v := (0 : Int32)) hx hb hr hlk rfl hK hP hS dX7_isMissing_12
  · rw [if_pos k1] at h
    refine lv_iconst (v := 1) hx hb dX7_isMissing_7 (by decide) ?_
    refine lv_goto (tgt := 12) hx hb dX7_isMissing_8 (by decide) ?_
    obtain rfl := Option.some.inj h
    exact rZ (v := (1 : Int32)) hx hb hr hlk rfl hK hP hS dX7_isMissing_12

set_option maxRecDepth 100000 in
set_option maxHeartbeats 4000000 in
theorem c_X7_isMissing_2 {l : Launch} {D : va_G} {dT : Nat → ClassId} {q : Nat → Nat} (hD : xD q) {rs : (Nat → tRow)} {g : tG_} {bh : tBH} {c1 : tC} {c2 : tC} {re : tRE} {pl : tPL} {cl : tCL}  {v : Int32} (h : f_X7_isMissing (rs 2) = some v) : MG l yX7_isMissing cX7_isMissing 1 (some .boolean) 0 [.ref (q 6)] D (tyL dT) (wX dT q rs g bh c1 c2 re pl cl) (QI D (tyL dT) (xA q) (wX dT q rs g bh c1 c2 re pl cl) v) (xA q) := by
  refine MG.mk (by decide +kernel) (Nat.le_of_ble_eq_true rfl) ?_
  intro p e s m below meth c hx hb hr hml hown hts hlk hK hP ls hl
  have hown : s.vm.findClass RX7 = some m.cls := hown
  have hS : va_S (xA q) s.heap s.heap [] := va_S.rf
  have hl : lv_has ls 1 [(0, .ref (q 6))] := hl
  rw [f_X7_isMissing] at h
  refine lv_aload_n hx hb dX7_isMissing_0 rfl (lv_at hl 0 rfl) ?_
  refine va_get (D := D) (ci := 6) (v := .int (rs 2).2.1) (C := RX7) (T := TX7) (N := 4) hx hb hts (fun w h => sub_z _ (inX7 w h)) hown hK hP 6 rfl rfl 1 (by decide) (hts _ (sub_z _ k_32)) (fun _ h => h) rfl dX7_isMissing_1 ?_
  refine lv_if_ne (tgt := 11) hx hb dX7_isMissing_4 (by decide) (fun k1 => ?_) (fun k1 => ?_)
  · rw [if_neg k1] at h
    refine lv_iconst (v := 0) hx hb dX7_isMissing_11 (by decide) ?_
    obtain rfl := Option.some.inj h
    exact rZ (v := (0 : Int32)) hx hb hr hlk rfl hK hP hS dX7_isMissing_12
  · rw [if_pos k1] at h
    refine lv_iconst (v := 1) hx hb dX7_isMissing_7 (by decide) ?_
    refine lv_goto (tgt := 12) hx hb dX7_isMissing_8 (by decide) ?_
    obtain rfl := Option.some.inj h
    exact rZ (v := (1 : Int32)) hx hb hr hlk rfl hK hP hS dX7_isMissing_12

set_option maxRecDepth 100000 in
set_option maxHeartbeats 4000000 in
theorem c_X7_isMissing_3 {l : Launch} {D : va_G} {dT : Nat → ClassId} {q : Nat → Nat} (hD : xD q) {rs : (Nat → tRow)} {g : tG_} {bh : tBH} {c1 : tC} {c2 : tC} {re : tRE} {pl : tPL} {cl : tCL}  {v : Int32} (h : f_X7_isMissing (rs 3) = some v) : MG l yX7_isMissing cX7_isMissing 1 (some .boolean) 0 [.ref (q 8)] D (tyL dT) (wX dT q rs g bh c1 c2 re pl cl) (QI D (tyL dT) (xA q) (wX dT q rs g bh c1 c2 re pl cl) v) (xA q) := by
  refine MG.mk (by decide +kernel) (Nat.le_of_ble_eq_true rfl) ?_
  intro p e s m below meth c hx hb hr hml hown hts hlk hK hP ls hl
  have hown : s.vm.findClass RX7 = some m.cls := hown
  have hS : va_S (xA q) s.heap s.heap [] := va_S.rf
  have hl : lv_has ls 1 [(0, .ref (q 8))] := hl
  rw [f_X7_isMissing] at h
  refine lv_aload_n hx hb dX7_isMissing_0 rfl (lv_at hl 0 rfl) ?_
  refine va_get (D := D) (ci := 6) (v := .int (rs 3).2.1) (C := RX7) (T := TX7) (N := 4) hx hb hts (fun w h => sub_z _ (inX7 w h)) hown hK hP 8 rfl rfl 1 (by decide) (hts _ (sub_z _ k_32)) (fun _ h => h) rfl dX7_isMissing_1 ?_
  refine lv_if_ne (tgt := 11) hx hb dX7_isMissing_4 (by decide) (fun k1 => ?_) (fun k1 => ?_)
  · rw [if_neg k1] at h
    refine lv_iconst (v := 0) hx hb dX7_isMissing_11 (by decide) ?_
    obtain rfl := Option.some.inj h
    exact rZ (v := (0 : Int32)) hx hb hr hlk rfl hK hP hS dX7_isMissing_12
  · rw [if_pos k1] at h
    refine lv_iconst (v := 1) hx hb dX7_isMissing_7 (by decide) ?_
    refine lv_goto (tgt := 12) hx hb dX7_isMissing_8 (by decide) ?_
    obtain rfl := Option.some.inj h
    exact rZ (v := (1 : Int32)) hx hb hr hlk rfl hK hP hS dX7_isMissing_12

theorem c_X7_isMissing {l : Launch} {D : va_G} {dT : Nat → ClassId} {q : Nat → Nat} (hD : xD q) {rs : (Nat → tRow)} {g : tG_} {bh : tBH} {c1 : tC} {c2 : tC} {re : tRE} {pl : tPL} {cl : tCL} {j : Nat} (hj : j < 4)  {v : Int32} (h : f_X7_isMissing (rs j) = some v) : MG l yX7_isMissing cX7_isMissing 1 (some .boolean) 0 [.ref (q (2 + 2 * j))] D (tyL dT) (wX dT q rs g bh c1 c2 re pl cl) (QI D (tyL dT) (xA q) (wX dT q rs g bh c1 c2 re pl cl) v) (xA q) := by
  match j, hj with
  | 0, _ => exact c_X7_isMissing_0 hD h
  | 1, _ => exact c_X7_isMissing_1 hD h
  | 2, _ => exact c_X7_isMissing_2 hD h
  | 3, _ => exact c_X7_isMissing_3 hD h

set_option maxRecDepth 100000 in
set_option maxHeartbeats 4000000 in
theorem c_X7_has_0 {l : Launch} {D : va_G} {dT : Nat → ClassId} {q : Nat → Nat} (hD : xD q) {rs : (Nat → tRow)} {g : tG_} {bh : tBH} {c1 : tC} {c2 : tC} {re : tRE} {pl : tPL} {cl : tCL} {a1 : Int32} {v : Int32} (h : f_X7_has (rs 0) a1 = some v) : MG l yX7_has cX7_has 2 (some .boolean) 0 [.ref (q 2), .int a1] D (tyL dT) (wX dT q rs g bh c1 c2 re pl cl) (QI D (tyL dT) (xA q) (wX dT q rs g bh c1 c2 re pl cl) v) (xA q) := by
  refine MG.mk (by decide +kernel) (Nat.le_of_ble_eq_true rfl) ?_
  intro p e s m below meth c hx hb hr hml hown hts hlk hK hP ls hl
  have hown : s.vm.findClass RX7 = some m.cls := hown
  have hS : va_S (xA q) s.heap s.heap [] := va_S.rf
  have hl : lv_has ls 2 [(0, .ref (q 2)), (1, .int a1)] := hl
  rw [f_X7_has] at h
  refine lv_iload_n hx hb dX7_has_0 rfl (lv_at hl 1 rfl) ?_
  refine lv_if_lt (tgt := 16) hx hb dX7_has_1 (by decide) (fun k1 => ?_) (fun k1 => ?_)
  · rw [if_pos k1] at h
    refine lv_iconst (v := 0) hx hb dX7_has_16 (by decide) ?_
    obtain rfl := Option.some.inj h
    exact rZ (v := (0 : Int32)) hx hb hr hlk rfl hK hP hS dX7_has_17
  · rw [if_neg k1] at h
    refine lv_iload_n hx hb dX7_has_4 rfl (lv_at hl 1 rfl) ?_
    refine lv_aload_n hx hb dX7_has_5 rfl (lv_at hl 0 rfl) ?_
    refine va_get (D := D) (ci := 6) (v := .int (rs 0).2.2.2) (C := RX7) (T := TX7) (N := 4) hx hb hts (fun w h => sub_z _ (inX7 w h)) hown hK hP 2 rfl rfl 3 (by decide) (hts _ (sub_z _ k_34)) (fun _ h => h) rfl dX7_has_6 ?_
    refine lv_icmp_ge (tgt := 16) hx hb dX7_has_9 (by decide) (fun k2 => ?_) (fun k2 => ?_)
    · rw [if_pos k2] at h
      refine lv_iconst (v := 0) hx hb dX7_has_16 (by decide) ?_
      obtain rfl := Option.some.inj h
      exact rZ (v := (0 : Int32)) hx hb hr hlk rfl hK hP hS dX7_has_17
    · rw [if_neg k2] at h
      refine lv_iconst (v := 1) hx hb dX7_has_12 (by decide) ?_
      refine lv_goto (tgt := 17) hx hb dX7_has_13 (by decide) ?_
      obtain rfl := Option.some.inj h
      exact rZ (v := (1 : Int32)) hx hb hr hlk rfl hK hP hS dX7_has_17

set_option maxRecDepth 100000 in
set_option maxHeartbeats 4000000 in
theorem c_X7_has_1 {l : Launch} {D : va_G} {dT : Nat → ClassId} {q : Nat → Nat} (hD : xD q) {rs : (Nat → tRow)} {g : tG_} {bh : tBH} {c1 : tC} {c2 : tC} {re : tRE} {pl : tPL} {cl : tCL} {a1 : Int32} {v : Int32} (h : f_X7_has (rs 1) a1 = some v) : MG l yX7_has cX7_has 2 (some .boolean) 0 [.ref (q 4), .int a1] D (tyL dT) (wX dT q rs g bh c1 c2 re pl cl) (QI D (tyL dT) (xA q) (wX dT q rs g bh c1 c2 re pl cl) v) (xA q) := by
  refine MG.mk (by decide +kernel) (Nat.le_of_ble_eq_true rfl) ?_
  intro p e s m below meth c hx hb hr hml hown hts hlk hK hP ls hl
  have hown : s.vm.findClass RX7 = some m.cls := hown
  have hS : va_S (xA q) s.heap s.heap [] := va_S.rf
  have hl : lv_has ls 2 [(0, .ref (q 4)), (1, .int a1)] := hl
  rw [f_X7_has] at h
  refine lv_iload_n hx hb dX7_has_0 rfl (lv_at hl 1 rfl) ?_
  refine lv_if_lt (tgt := 16) hx hb dX7_has_1 (by decide) (fun k1 => ?_) (fun k1 => ?_)
  · rw [if_pos k1] at h
    refine lv_iconst (v := 0) hx hb dX7_has_16 (by decide) ?_
    obtain rfl := Option.some.inj h
    exact rZ (v := (0 : Int32)) hx hb hr hlk rfl hK hP hS dX7_has_17
  · rw [if_neg k1] at h
    refine lv_iload_n hx hb dX7_has_4 rfl (lv_at hl 1 rfl) ?_
    refine lv_aload_n hx hb dX7_has_5 rfl (lv_at hl 0 rfl) ?_
    refine va_get (D := D) (ci := 6) (v := .int (rs 1).2.2.2) (C := RX7) (T := TX7) (N := 4) hx hb hts (fun w h => sub_z _ (inX7 w h)) hown hK hP 4 rfl rfl 3 (by decide) (hts _ (sub_z _ k_34)) (fun _ h => h) rfl dX7_has_6 ?_
    refine lv_icmp_ge (tgt := 16) hx hb dX7_has_9 (by decide) (fun k2 => ?_) (fun k2 => ?_)
    · rw [if_pos k2] at h
      refine lv_iconst (v := 0) hx hb dX7_has_16 (by decide) ?_
      obtain rfl := Option.some.inj h
      exact rZ (v := (0 : Int32)) hx hb hr hlk rfl hK hP hS dX7_has_17
    · rw [if_neg k2] at h
      refine lv_iconst (v := 1) hx hb dX7_has_12 (by decide) ?_
      refine lv_goto (tgt := 17) hx hb dX7_has_13 (by decide) ?_
      obtain rfl := Option.some.inj h
      exact rZ (v := (1 : Int32)) hx hb hr hlk rfl hK hP hS dX7_has_17

set_option maxRecDepth 100000 in
set_option maxHeartbeats 4000000 in
theorem c_X7_has_2 {l : Launch} {D : va_G} {dT : Nat → ClassId} {q : Nat → Nat} (hD : xD q) {rs : (Nat → tRow)} {g : tG_} {bh : tBH} {c1 : tC} {c2 : tC} {re : tRE} {pl : tPL} {cl : tCL} {a1 : Int32} {v : Int32} (h : f_X7_has (rs 2) a1 = some v) : MG l yX7_has cX7_has 2 (some .boolean) 0 [.ref (q 6), .int a1] D (tyL dT) (wX dT q rs g bh c1 c2 re pl cl) (QI D (tyL dT) (xA q) (wX dT q rs g bh c1 c2 re pl cl) v) (xA q) := by
  refine MG.mk (by decide +kernel) (Nat.le_of_ble_eq_true rfl) ?_
  intro p e s m below meth c hx hb hr hml hown hts hlk hK hP ls hl
  have hown : s.vm.findClass RX7 = some m.cls := hown
  have hS : va_S (xA q) s.heap s.heap [] := va_S.rf
  have hl : lv_has ls 2 [(0, .ref (q 6)), (1, .int a1)] := hl
  rw [f_X7_has] at h
  refine lv_iload_n hx hb dX7_has_0 rfl (lv_at hl 1 rfl) ?_
  refine lv_if_lt (tgt := 16) hx hb dX7_has_1 (by decide) (fun k1 => ?_) (fun k1 => ?_)
  · rw [if_pos k1] at h
    refine lv_iconst (v := 0) hx hb dX7_has_16 (by decide) ?_
    obtain rfl := Option.some.inj h
    exact rZ (v := (0 : Int32)) hx hb hr hlk rfl hK hP hS dX7_has_17
  · rw [if_neg k1] at h
    refine lv_iload_n hx hb dX7_has_4 rfl (lv_at hl 1 rfl) ?_
    refine lv_aload_n hx hb dX7_has_5 rfl (lv_at hl 0 rfl) ?_
    refine va_get (D := D) (ci := 6) (v := .int (rs 2).2.2.2) (C := RX7) (T := TX7) (N := 4) hx hb hts (fun w h => sub_z _ (inX7 w h)) hown hK hP 6 rfl rfl 3 (by decide) (hts _ (sub_z _ k_34)) (fun _ h => h) rfl dX7_has_6 ?_
    refine lv_icmp_ge (tgt := 16) hx hb dX7_has_9 (by decide) (fun k2 => ?_) (fun k2 => ?_)
    · rw [if_pos k2] at h
      refine lv_iconst (v := 0) hx hb dX7_has_16 (by decide) ?_
      obtain rfl := Option.some.inj h
      exact rZ (v := (0 : Int32)) hx hb hr hlk rfl hK hP hS dX7_has_17
    · rw [if_neg k2] at h
      refine lv_iconst (v := 1) hx hb dX7_has_12 (by decide) ?_
      refine lv_goto (tgt := 17) hx hb dX7_has_13 (by decide) ?_
      obtain rfl := Option.some.inj h
      exact rZ (v := (1 : Int32)) hx hb hr hlk rfl hK hP hS dX7_has_17

set_option maxRecDepth 100000 in
set_option maxHeartbeats 4000000 in
theorem c_X7_has_3 {l : Launch} {D : va_G} {dT : Nat → ClassId} {q : Nat → Nat} (hD : xD q) {rs : (Nat → tRow)} {g : tG_} {bh : tBH} {c1 : tC} {c2 : tC} {re : tRE} {pl : tPL} {cl : tCL} {a1 : Int32} {v : Int32} (h : f_X7_has (rs 3) a1 = some v) : MG l yX7_has cX7_has 2 (some .boolean) 0 [.ref (q 8), .int a1] D (tyL dT) (wX dT q rs g bh c1 c2 re pl cl) (QI D (tyL dT) (xA q) (wX dT q rs g bh c1 c2 re pl cl) v) (xA q) := by
  refine MG.mk (by decide +kernel) (Nat.le_of_ble_eq_true rfl) ?_
  intro p e s m below meth c hx hb hr hml hown hts hlk hK hP ls hl
  have hown : s.vm.findClass RX7 = some m.cls := hown
  have hS : va_S (xA q) s.heap s.heap [] := va_S.rf
  have hl : lv_has ls 2 [(0, .ref (q 8)), (1, .int a1)] := hl
  rw [f_X7_has] at h
  refine lv_iload_n hx hb dX7_has_0 rfl (lv_at hl 1 rfl) ?_
  refine lv_if_lt (tgt := 16) hx hb dX7_has_1 (by decide) (fun k1 => ?_) (fun k1 => ?_)
  · rw [if_pos k1] at h
    refine lv_iconst (v := 0) hx hb dX7_has_16 (by decide) ?_
    obtain rfl := Option.some.inj h
    exact rZ (v := (0 : Int32)) hx hb hr hlk rfl hK hP hS dX7_has_17
  · rw [if_neg k1] at h
    refine lv_iload_n hx hb dX7_has_4 rfl (lv_at hl 1 rfl) ?_
    refine lv_aload_n hx hb dX7_has_5 rfl (lv_at hl 0 rfl) ?_
    refine va_get (D := D) (ci := 6) (v := .int (rs 3).2.2.2) (C := RX7) (T := TX7) (N := 4) hx hb hts (fun w h => sub_z _ (inX7 w h)) hown hK hP 8 rfl rfl 3 (by decide) (hts _ (sub_z _ k_34)) (fun _ h => h) rfl dX7_has_6 ?_
    refine lv_icmp_ge (tgt := 16) hx hb dX7_has_9 (by decide) (fun k2 => ?_) (fun k2 => ?_)
    · rw [if_pos k2] at h
      refine lv_iconst (v := 0) hx hb dX7_has_16 (by decide) ?_
      obtain rfl := Option.some.inj h
      exact rZ (v := (0 : Int32)) hx hb hr hlk rfl hK hP hS dX7_has_17
    · rw [if_neg k2] at h
      refine lv_iconst (v := 1) hx hb dX7_has_12 (by decide) ?_
      refine lv_goto (tgt := 17) hx hb dX7_has_13 (by decide) ?_
      obtain rfl := Option.some.inj h
      exact rZ (v := (1 : Int32)) hx hb hr hlk rfl hK hP hS dX7_has_17

theorem c_X7_has {l : Launch} {D : va_G} {dT : Nat → ClassId} {q : Nat → Nat} (hD : xD q) {rs : (Nat → tRow)} {g : tG_} {bh : tBH} {c1 : tC} {c2 : tC} {re : tRE} {pl : tPL} {cl : tCL} {j : Nat} (hj : j < 4) {a1 : Int32} {v : Int32} (h : f_X7_has (rs j) a1 = some v) : MG l yX7_has cX7_has 2 (some .boolean) 0 [.ref (q (2 + 2 * j)), .int a1] D (tyL dT) (wX dT q rs g bh c1 c2 re pl cl) (QI D (tyL dT) (xA q) (wX dT q rs g bh c1 c2 re pl cl) v) (xA q) := by
  match j, hj with
  | 0, _ => exact c_X7_has_0 hD h
  | 1, _ => exact c_X7_has_1 hD h
  | 2, _ => exact c_X7_has_2 hD h
  | 3, _ => exact c_X7_has_3 hD h

set_option maxRecDepth 100000 in
set_option maxHeartbeats 4000000 in
theorem c_X7_number_0 {l : Launch} {D : va_G} {dT : Nat → ClassId} {q : Nat → Nat} (hD : xD q) {rs : (Nat → tRow)} {g : tG_} {bh : tBH} {c1 : tC} {c2 : tC} {re : tRE} {pl : tPL} {cl : tCL} {a1 : Int32} {v : Int32} (h : f_X7_number (rs 0) a1 = some v) : MG l yX7_number cX7_number 2 (some .int) 0 [.ref (q 2), .int a1] D (tyL dT) (wX dT q rs g bh c1 c2 re pl cl) (QI D (tyL dT) (xA q) (wX dT q rs g bh c1 c2 re pl cl) v) (xA q) := by
  refine MG.mk (by decide +kernel) (Nat.le_of_ble_eq_true rfl) ?_
  intro p e s m below meth c hx hb hr hml hown hts hlk hK hP ls hl
  have hown : s.vm.findClass RX7 = some m.cls := hown
  have hS : va_S (xA q) s.heap s.heap [] := va_S.rf
  have hl : lv_has ls 2 [(0, .ref (q 2)), (1, .int a1)] := hl
  rw [f_X7_number] at h
  refine lv_aload_n hx hb dX7_number_0 rfl (lv_at hl 0 rfl) ?_
  refine va_get (D := D) (ci := 6) (v := .ref (q 3)) (C := RX7) (T := TX7) (N := 4) hx hb hts (fun w h => sub_z _ (inX7 w h)) hown hK hP 2 rfl rfl 0 (by decide) (hts _ (sub_z _ k_31)) (fun _ h => h) rfl dX7_number_1 ?_
  refine lv_iload_n hx hb dX7_number_4 rfl (lv_at hl 1 rfl) ?_
  obtain ⟨k1, h⟩ := dg h
  refine va_iald (f := (rs 0).1) hx hb hK hP 3 0 rfl rfl (inb_vp k1) dX7_number_5 ?_
  obtain rfl := Option.some.inj h
  exact rI hx hb hr hlk hK hP hS dX7_number_6

set_option maxRecDepth 100000 in
set_option maxHeartbeats 4000000 in
theorem c_X7_number_1 {l : Launch} {D : va_G} {dT : Nat → ClassId} {q : Nat → Nat} (hD : xD q) {rs : (Nat → tRow)} {g : tG_} {bh : tBH} {c1 : tC} {c2 : tC} {re : tRE} {pl : tPL} {cl : tCL} {a1 : Int32} {v : Int32} (h : f_X7_number (rs 1) a1 = some v) : MG l yX7_number cX7_number 2 (some .int) 0 [.ref (q 4), .int a1] D (tyL dT) (wX dT q rs g bh c1 c2 re pl cl) (QI D (tyL dT) (xA q) (wX dT q rs g bh c1 c2 re pl cl) v) (xA q) := by
  refine MG.mk (by decide +kernel) (Nat.le_of_ble_eq_true rfl) ?_
  intro p e s m below meth c hx hb hr hml hown hts hlk hK hP ls hl
  have hown : s.vm.findClass RX7 = some m.cls := hown
  have hS : va_S (xA q) s.heap s.heap [] := va_S.rf
  have hl : lv_has ls 2 [(0, .ref (q 4)), (1, .int a1)] := hl
  rw [f_X7_number] at h
  refine lv_aload_n hx hb dX7_number_0 rfl (lv_at hl 0 rfl) ?_
  refine va_get (D := D) (ci := 6) (v := .ref (q 5)) (C := RX7) (T := TX7) (N := 4) hx hb hts (fun w h => sub_z _ (inX7 w h)) hown hK hP 4 rfl rfl 0 (by decide) (hts _ (sub_z _ k_31)) (fun _ h => h) rfl dX7_number_1 ?_
  refine lv_iload_n hx hb dX7_number_4 rfl (lv_at hl 1 rfl) ?_
  obtain ⟨k1, h⟩ := dg h
  refine va_iald (f := (rs 1).1) hx hb hK hP 5 0 rfl rfl (inb_vp k1) dX7_number_5 ?_
  obtain rfl := Option.some.inj h
  exact rI hx hb hr hlk hK hP hS dX7_number_6

set_option maxRecDepth 100000 in
set_option maxHeartbeats 4000000 in
theorem c_X7_number_2 {l : Launch} {D : va_G} {dT : Nat → ClassId} {q : Nat → Nat} (hD : xD q) {rs : (Nat → tRow)} {g : tG_} {bh : tBH} {c1 : tC} {c2 : tC} {re : tRE} {pl : tPL} {cl : tCL} {a1 : Int32} {v : Int32} (h : f_X7_number (rs 2) a1 = some v) : MG l yX7_number cX7_number 2 (some .int) 0 [.ref (q 6), .int a1] D (tyL dT) (wX dT q rs g bh c1 c2 re pl cl) (QI D (tyL dT) (xA q) (wX dT q rs g bh c1 c2 re pl cl) v) (xA q) := by
  refine MG.mk (by decide +kernel) (Nat.le_of_ble_eq_true rfl) ?_
  intro p e s m below meth c hx hb hr hml hown hts hlk hK hP ls hl
  have hown : s.vm.findClass RX7 = some m.cls := hown
  have hS : va_S (xA q) s.heap s.heap [] := va_S.rf
  have hl : lv_has ls 2 [(0, .ref (q 6)), (1, .int a1)] := hl
  rw [f_X7_number] at h
  refine lv_aload_n hx hb dX7_number_0 rfl (lv_at hl 0 rfl) ?_
  refine va_get (D := D) (ci := 6) (v := .ref (q 7)) (C := RX7) (T := TX7) (N := 4) hx hb hts (fun w h => sub_z _ (inX7 w h)) hown hK hP 6 rfl rfl 0 (by decide) (hts _ (sub_z _ k_31)) (fun _ h => h) rfl dX7_number_1 ?_
  refine lv_iload_n hx hb dX7_number_4 rfl (lv_at hl 1 rfl) ?_
  obtain ⟨k1, h⟩ := dg h
  refine va_iald (f := (rs 2).1) hx hb hK hP 7 0 rfl rfl (inb_vp k1) dX7_number_5 ?_
  obtain rfl := Option.some.inj h
  exact rI hx hb hr hlk hK hP hS dX7_number_6

set_option maxRecDepth 100000 in
set_option maxHeartbeats 4000000 in
theorem c_X7_number_3 {l : Launch} {D : va_G} {dT : Nat → ClassId} {q : Nat → Nat} (hD : xD q) {rs : (Nat → tRow)} {g : tG_} {bh : tBH} {c1 : tC} {c2 : tC} {re : tRE} {pl : tPL} {cl : tCL} {a1 : Int32} {v : Int32} (h : f_X7_number (rs 3) a1 = some v) : MG l yX7_number cX7_number 2 (some .int) 0 [.ref (q 8), .int a1] D (tyL dT) (wX dT q rs g bh c1 c2 re pl cl) (QI D (tyL dT) (xA q) (wX dT q rs g bh c1 c2 re pl cl) v) (xA q) := by
  refine MG.mk (by decide +kernel) (Nat.le_of_ble_eq_true rfl) ?_
  intro p e s m below meth c hx hb hr hml hown hts hlk hK hP ls hl
  have hown : s.vm.findClass RX7 = some m.cls := hown
  have hS : va_S (xA q) s.heap s.heap [] := va_S.rf
  have hl : lv_has ls 2 [(0, .ref (q 8)), (1, .int a1)] := hl
  rw [f_X7_number] at h
  refine lv_aload_n hx hb dX7_number_0 rfl (lv_at hl 0 rfl) ?_
  refine va_get (D := D) (ci := 6) (v := .ref (q 9)) (C := RX7) (T := TX7) (N := 4) hx hb hts (fun w h => sub_z _ (inX7 w h)) hown hK hP 8 rfl rfl 0 (by decide) (hts _ (sub_z _ k_31)) (fun _ h => h) rfl dX7_number_1 ?_
  refine lv_iload_n hx hb dX7_number_4 rfl (lv_at hl 1 rfl) ?_
  obtain ⟨k1, h⟩ := dg h
  refine va_iald (f := (rs 3).1) hx hb hK hP 9 0 rfl rfl (inb_vp k1) dX7_number_5 ?_
  obtain rfl := Option.some.inj h
  exact rI hx hb hr hlk hK hP hS dX7_number_6

theorem c_X7_number {l : Launch} {D : va_G} {dT : Nat → ClassId} {q : Nat → Nat} (hD : xD q) {rs : (Nat → tRow)} {g : tG_} {bh : tBH} {c1 : tC} {c2 : tC} {re : tRE} {pl : tPL} {cl : tCL} {j : Nat} (hj : j < 4) {a1 : Int32} {v : Int32} (h : f_X7_number (rs j) a1 = some v) : MG l yX7_number cX7_number 2 (some .int) 0 [.ref (q (2 + 2 * j)), .int a1] D (tyL dT) (wX dT q rs g bh c1 c2 re pl cl) (QI D (tyL dT) (xA q) (wX dT q rs g bh c1 c2 re pl cl) v) (xA q) := by
  match j, hj with
  | 0, _ => exact c_X7_number_0 hD h
  | 1, _ => exact c_X7_number_1 hD h
  | 2, _ => exact c_X7_number_2 hD h
  | 3, _ => exact c_X7_number_3 hD h

set_option maxRecDepth 100000 in
set_option maxHeartbeats 4000000 in
theorem c_X7_change_0 {l : Launch} {D : va_G} {dT : Nat → ClassId} {q : Nat → Nat} (hD : xD q) {rs : (Nat → tRow)} {g : tG_} {bh : tBH} {c1 : tC} {c2 : tC} {re : tRE} {pl : tPL} {cl : tCL} {a1 : Int32} {a2 : Int32} {v : tRow} (h : f_X7_change (rs 0) a1 a2 = some v) : MG l yX7_change cX7_change 3 none 0 [.ref (q 2), .int a1, .int a2] D (tyL dT) (wX dT q rs g bh c1 c2 re pl cl) (QV D (tyL dT) (xA q) (wX dT q (va_up rs 0 v) g bh c1 c2 re pl cl)) (xA q) := by
  refine MG.mk (by decide +kernel) (Nat.le_of_ble_eq_true rfl) ?_
  intro p e s m below meth c hx hb hr hml hown hts hlk hK hP ls hl
  have hown : s.vm.findClass RX7 = some m.cls := hown
  have hS : va_S (xA q) s.heap s.heap [] := va_S.rf
  have hl : lv_has ls 3 [(0, .ref (q 2)), (1, .int a1), (2, .int a2)] := hl
  rw [f_X7_change] at h
  refine lv_aload_n hx hb dX7_change_0 rfl (lv_at hl 0 rfl) ?_
  refine va_get (D := D) (ci := 6) (v := .ref (q 3)) (C := RX7) (T := TX7) (N := 4) hx hb hts (fun w h => sub_z _ (inX7 w h)) hown hK hP 2 rfl rfl 0 (by decide) (hts _ (sub_z _ k_31)) (fun _ h => h) rfl dX7_change_1 ?_
  refine lv_iload_n hx hb dX7_change_4 rfl (lv_at hl 1 rfl) ?_
  refine lv_aload_n hx hb dX7_change_5 rfl (lv_at hl 0 rfl) ?_
  refine va_get (D := D) (ci := 6) (v := .int (rs 0).2.2.1) (C := RX7) (T := TX7) (N := 4) hx hb hts (fun w h => sub_z _ (inX7 w h)) hown hK hP 2 rfl rfl 2 (by decide) (hts _ (sub_z _ k_33)) (fun _ h => h) rfl dX7_change_6 ?_
  refine lv_if_ne (tgt := 17) hx hb dX7_change_9 (by decide) (fun k1 => ?_) (fun k1 => ?_)
  · rw [if_neg k1] at h
    refine lv_aload_n hx hb dX7_change_17 rfl (lv_at hl 0 rfl) ?_
    refine va_get (D := D) (ci := 6) (v := .int (rs 0).2.2.1) (C := RX7) (T := TX7) (N := 4) hx hb hts (fun w h => sub_z _ (inX7 w h)) hown hK hP 2 rfl rfl 2 (by decide) (hts _ (sub_z _ k_33)) (fun _ h => h) rfl dX7_change_18 ?_
    refine lv_iconst (v := 1) hx hb dX7_change_21 (by decide) ?_
    refine lv_icmp_ne (tgt := 30) hx hb dX7_change_22 (by decide) (fun k2 => ?_) (fun k2 => ?_)
    · rw [if_neg k2] at h
      refine lv_iload_n hx hb dX7_change_30 rfl (lv_at hl 2 rfl) ?_
      obtain ⟨k3, h⟩ := dg h
      refine va_iast (f := (rs 0).1) hx hb hK hP (xD.w hD) hS 3 0 rfl rfl (inb_vp k3) dX7_change_31 (fun H locs hP _ hS => ?_)
      have hP : va_P D vwCl (wX dT q (va_up rs 0 ((upd (rs 0).1 a1.toNatClampNeg a2), (rs 0).2.1, (rs 0).2.2.1, (rs 0).2.2.2)) g bh c1 c2 re pl cl) H := hP
      obtain rfl := Option.some.inj h
      exact rV hx hb hr hlk hK hP hS dX7_change_32
    · rw [if_pos k2] at h
      refine lv_iload_n hx hb dX7_change_25 rfl (lv_at hl 2 rfl) ?_
      refine lv_i2s (v := a2.toInt16.toInt32) hx hb dX7_change_26 rfl ?_
      refine lv_goto (tgt := 31) hx hb dX7_change_27 (by decide) ?_
      obtain ⟨k4, h⟩ := dg h
      refine va_iast (f := (rs 0).1) hx hb hK hP (xD.w hD) hS 3 0 rfl rfl (inb_vp k4) dX7_change_31 (fun H locs hP _ hS => ?_)
      have hP : va_P D vwCl (wX dT q (va_up rs 0 ((upd (rs 0).1 a1.toNatClampNeg a2.toInt16.toInt32), (rs 0).2.1, (rs 0).2.2.1, (rs 0).2.2.2)) g bh c1 c2 re pl cl) H := hP
      obtain rfl := Option.some.inj h
      exact rV hx hb hr hlk hK hP hS dX7_change_32
  · rw [if_pos k1] at h
    refine lv_iload_n hx hb dX7_change_12 rfl (lv_at hl 2 rfl) ?_
    refine lv_i2b (v := a2.toInt8.toInt32) hx hb dX7_change_13 rfl ?_
    refine lv_goto (tgt := 31) hx hb dX7_change_14 (by decide) ?_
    obtain ⟨k5, h⟩ := dg h
    refine va_iast (f := (rs 0).1) hx hb hK hP (xD.w hD) hS 3 0 rfl rfl (inb_vp k5) dX7_change_31 (fun H locs hP _ hS => ?_)
    have hP : va_P D vwCl (wX dT q (va_up rs 0 ((upd (rs 0).1 a1.toNatClampNeg a2.toInt8.toInt32), (rs 0).2.1, (rs 0).2.2.1, (rs 0).2.2.2)) g bh c1 c2 re pl cl) H := hP
    obtain rfl := Option.some.inj h
    exact rV hx hb hr hlk hK hP hS dX7_change_32

set_option maxRecDepth 100000 in
set_option maxHeartbeats 4000000 in
theorem c_X7_change_1 {l : Launch} {D : va_G} {dT : Nat → ClassId} {q : Nat → Nat} (hD : xD q) {rs : (Nat → tRow)} {g : tG_} {bh : tBH} {c1 : tC} {c2 : tC} {re : tRE} {pl : tPL} {cl : tCL} {a1 : Int32} {a2 : Int32} {v : tRow} (h : f_X7_change (rs 1) a1 a2 = some v) : MG l yX7_change cX7_change 3 none 0 [.ref (q 4), .int a1, .int a2] D (tyL dT) (wX dT q rs g bh c1 c2 re pl cl) (QV D (tyL dT) (xA q) (wX dT q (va_up rs 1 v) g bh c1 c2 re pl cl)) (xA q) := by
  refine MG.mk (by decide +kernel) (Nat.le_of_ble_eq_true rfl) ?_
  intro p e s m below meth c hx hb hr hml hown hts hlk hK hP ls hl
  have hown : s.vm.findClass RX7 = some m.cls := hown
  have hS : va_S (xA q) s.heap s.heap [] := va_S.rf
  have hl : lv_has ls 3 [(0, .ref (q 4)), (1, .int a1), (2, .int a2)] := hl
  rw [f_X7_change] at h
  refine lv_aload_n hx hb dX7_change_0 rfl (lv_at hl 0 rfl) ?_
  refine va_get (D := D) (ci := 6) (v := .ref (q 5)) (C := RX7) (T := TX7) (N := 4) hx hb hts (fun w h => sub_z _ (inX7 w h)) hown hK hP 4 rfl rfl 0 (by decide) (hts _ (sub_z _ k_31)) (fun _ h => h) rfl dX7_change_1 ?_
  refine lv_iload_n hx hb dX7_change_4 rfl (lv_at hl 1 rfl) ?_
  refine lv_aload_n hx hb dX7_change_5 rfl (lv_at hl 0 rfl) ?_
  refine va_get (D := D) (ci := 6) (v := .int (rs 1).2.2.1) (C := RX7) (T := TX7) (N := 4) hx hb hts (fun w h => sub_z _ (inX7 w h)) hown hK hP 4 rfl rfl 2 (by decide) (hts _ (sub_z _ k_33)) (fun _ h => h) rfl dX7_change_6 ?_
  refine lv_if_ne (tgt := 17) hx hb dX7_change_9 (by decide) (fun k1 => ?_) (fun k1 => ?_)
  · rw [if_neg k1] at h
    refine lv_aload_n hx hb dX7_change_17 rfl (lv_at hl 0 rfl) ?_
    refine va_get (D := D) (ci := 6) (v := .int (rs 1).2.2.1) (C := RX7) (T := TX7) (N := 4) hx hb hts (fun w h => sub_z _ (inX7 w h)) hown hK hP 4 rfl rfl 2 (by decide) (hts _ (sub_z _ k_33)) (fun _ h => h) rfl dX7_change_18 ?_
    refine lv_iconst (v := 1) hx hb dX7_change_21 (by decide) ?_
    refine lv_icmp_ne (tgt := 30) hx hb dX7_change_22 (by decide) (fun k2 => ?_) (fun k2 => ?_)
    · rw [if_neg k2] at h
      refine lv_iload_n hx hb dX7_change_30 rfl (lv_at hl 2 rfl) ?_
      obtain ⟨k3, h⟩ := dg h
      refine va_iast (f := (rs 1).1) hx hb hK hP (xD.w hD) hS 5 0 rfl rfl (inb_vp k3) dX7_change_31 (fun H locs hP _ hS => ?_)
      have hP : va_P D vwCl (wX dT q (va_up rs 1 ((upd (rs 1).1 a1.toNatClampNeg a2), (rs 1).2.1, (rs 1).2.2.1, (rs 1).2.2.2)) g bh c1 c2 re pl cl) H := hP
      obtain rfl := Option.some.inj h
      exact rV hx hb hr hlk hK hP hS dX7_change_32
    · rw [if_pos k2] at h
      refine lv_iload_n hx hb dX7_change_25 rfl (lv_at hl 2 rfl) ?_
      refine lv_i2s (v := a2.toInt16.toInt32) hx hb dX7_change_26 rfl ?_
      refine lv_goto (tgt := 31) hx hb dX7_change_27 (by decide) ?_
      obtain ⟨k4, h⟩ := dg h
      refine va_iast (f := (rs 1).1) hx hb hK hP (xD.w hD) hS 5 0 rfl rfl (inb_vp k4) dX7_change_31 (fun H locs hP _ hS => ?_)
      have hP : va_P D vwCl (wX dT q (va_up rs 1 ((upd (rs 1).1 a1.toNatClampNeg a2.toInt16.toInt32), (rs 1).2.1, (rs 1).2.2.1, (rs 1).2.2.2)) g bh c1 c2 re pl cl) H := hP
      obtain rfl := Option.some.inj h
      exact rV hx hb hr hlk hK hP hS dX7_change_32
  · rw [if_pos k1] at h
    refine lv_iload_n hx hb dX7_change_12 rfl (lv_at hl 2 rfl) ?_
    refine lv_i2b (v := a2.toInt8.toInt32) hx hb dX7_change_13 rfl ?_
    refine lv_goto (tgt := 31) hx hb dX7_change_14 (by decide) ?_
    obtain ⟨k5, h⟩ := dg h
    refine va_iast (f := (rs 1).1) hx hb hK hP (xD.w hD) hS 5 0 rfl rfl (inb_vp k5) dX7_change_31 (fun H locs hP _ hS => ?_)
    have hP : va_P D vwCl (wX dT q (va_up rs 1 ((upd (rs 1).1 a1.toNatClampNeg a2.toInt8.toInt32), (rs 1).2.1, (rs 1).2.2.1, (rs 1).2.2.2)) g bh c1 c2 re pl cl) H := hP
    obtain rfl := Option.some.inj h
    exact rV hx hb hr hlk hK hP hS dX7_change_32

set_option maxRecDepth 100000 in
set_option maxHeartbeats 4000000 in
theorem c_X7_change_2 {l : Launch} {D : va_G} {dT : Nat → ClassId} {q : Nat → Nat} (hD : xD q) {rs : (Nat → tRow)} {g : tG_} {bh : tBH} {c1 : tC} {c2 : tC} {re : tRE} {pl : tPL} {cl : tCL} {a1 : Int32} {a2 : Int32} {v : tRow} (h : f_X7_change (rs 2) a1 a2 = some v) : MG l yX7_change cX7_change 3 none 0 [.ref (q 6), .int a1, .int a2] D (tyL dT) (wX dT q rs g bh c1 c2 re pl cl) (QV D (tyL dT) (xA q) (wX dT q (va_up rs 2 v) g bh c1 c2 re pl cl)) (xA q) := by
  refine MG.mk (by decide +kernel) (Nat.le_of_ble_eq_true rfl) ?_
  intro p e s m below meth c hx hb hr hml hown hts hlk hK hP ls hl
  have hown : s.vm.findClass RX7 = some m.cls := hown
  have hS : va_S (xA q) s.heap s.heap [] := va_S.rf
  have hl : lv_has ls 3 [(0, .ref (q 6)), (1, .int a1), (2, .int a2)] := hl
  rw [f_X7_change] at h
  refine lv_aload_n hx hb dX7_change_0 rfl (lv_at hl 0 rfl) ?_
  refine va_get (D := D) (ci := 6) (v := .ref (q 7)) (C := RX7) (T := TX7) (N := 4) hx hb hts (fun w h => sub_z _ (inX7 w h)) hown hK hP 6 rfl rfl 0 (by decide) (hts _ (sub_z _ k_31)) (fun _ h => h) rfl dX7_change_1 ?_
  refine lv_iload_n hx hb dX7_change_4 rfl (lv_at hl 1 rfl) ?_
  refine lv_aload_n hx hb dX7_change_5 rfl (lv_at hl 0 rfl) ?_
  refine va_get (D := D) (ci := 6) (v := .int (rs 2).2.2.1) (C := RX7) (T := TX7) (N := 4) hx hb hts (fun w h => sub_z _ (inX7 w h)) hown hK hP 6 rfl rfl 2 (by decide) (hts _ (sub_z _ k_33)) (fun _ h => h) rfl dX7_change_6 ?_
  refine lv_if_ne (tgt := 17) hx hb dX7_change_9 (by decide) (fun k1 => ?_) (fun k1 => ?_)
  · rw [if_neg k1] at h
    refine lv_aload_n hx hb dX7_change_17 rfl (lv_at hl 0 rfl) ?_
    refine va_get (D := D) (ci := 6) (v := .int (rs 2).2.2.1) (C := RX7) (T := TX7) (N := 4) hx hb hts (fun w h => sub_z _ (inX7 w h)) hown hK hP 6 rfl rfl 2 (by decide) (hts _ (sub_z _ k_33)) (fun _ h => h) rfl dX7_change_18 ?_
    refine lv_iconst (v := 1) hx hb dX7_change_21 (by decide) ?_
    refine lv_icmp_ne (tgt := 30) hx hb dX7_change_22 (by decide) (fun k2 => ?_) (fun k2 => ?_)
    · rw [if_neg k2] at h
      refine lv_iload_n hx hb dX7_change_30 rfl (lv_at hl 2 rfl) ?_
      obtain ⟨k3, h⟩ := dg h
      refine va_iast (f := (rs 2).1) hx hb hK hP (xD.w hD) hS 7 0 rfl rfl (inb_vp k3) dX7_change_31 (fun H locs hP _ hS => ?_)
      have hP : va_P D vwCl (wX dT q (va_up rs 2 ((upd (rs 2).1 a1.toNatClampNeg a2), (rs 2).2.1, (rs 2).2.2.1, (rs 2).2.2.2)) g bh c1 c2 re pl cl) H := hP
      obtain rfl := Option.some.inj h
      exact rV hx hb hr hlk hK hP hS dX7_change_32
    · rw [if_pos k2] at h
      refine lv_iload_n hx hb dX7_change_25 rfl (lv_at hl 2 rfl) ?_
      refine lv_i2s (v := a2.toInt16.toInt32) hx hb dX7_change_26 rfl ?_
      refine lv_goto (tgt := 31) hx hb dX7_change_27 (by decide) ?_
      obtain ⟨k4, h⟩ := dg h
      refine va_iast (f := (rs 2).1) hx hb hK hP (xD.w hD) hS 7 0 rfl rfl (inb_vp k4) dX7_change_31 (fun H locs hP _ hS => ?_)
      have hP : va_P D vwCl (wX dT q (va_up rs 2 ((upd (rs 2).1 a1.toNatClampNeg a2.toInt16.toInt32), (rs 2).2.1, (rs 2).2.2.1, (rs 2).2.2.2)) g bh c1 c2 re pl cl) H := hP
      obtain rfl := Option.some.inj h
      exact rV hx hb hr hlk hK hP hS dX7_change_32
  · rw [if_pos k1] at h
    refine lv_iload_n hx hb dX7_change_12 rfl (lv_at hl 2 rfl) ?_
    refine lv_i2b (v := a2.toInt8.toInt32) hx hb dX7_change_13 rfl ?_
    refine lv_goto (tgt := 31) hx hb dX7_change_14 (by decide) ?_
    obtain ⟨k5, h⟩ := dg h
    refine va_iast (f := (rs 2).1) hx hb hK hP (xD.w hD) hS 7 0 rfl rfl (inb_vp k5) dX7_change_31 (fun H locs hP _ hS => ?_)
    have hP : va_P D vwCl (wX dT q (va_up rs 2 ((upd (rs 2).1 a1.toNatClampNeg a2.toInt8.toInt32), (rs 2).2.1, (rs 2).2.2.1, (rs 2).2.2.2)) g bh c1 c2 re pl cl) H := hP
    obtain rfl := Option.some.inj h
    exact rV hx hb hr hlk hK hP hS dX7_change_32

set_option maxRecDepth 100000 in
set_option maxHeartbeats 4000000 in
theorem c_X7_change_3 {l : Launch} {D : va_G} {dT : Nat → ClassId} {q : Nat → Nat} (hD : xD q) {rs : (Nat → tRow)} {g : tG_} {bh : tBH} {c1 : tC} {c2 : tC} {re : tRE} {pl : tPL} {cl : tCL} {a1 : Int32} {a2 : Int32} {v : tRow} (h : f_X7_change (rs 3) a1 a2 = some v) : MG l yX7_change cX7_change 3 none 0 [.ref (q 8), .int a1, .int a2] D (tyL dT) (wX dT q rs g bh c1 c2 re pl cl) (QV D (tyL dT) (xA q) (wX dT q (va_up rs 3 v) g bh c1 c2 re pl cl)) (xA q) := by
  refine MG.mk (by decide +kernel) (Nat.le_of_ble_eq_true rfl) ?_
  intro p e s m below meth c hx hb hr hml hown hts hlk hK hP ls hl
  have hown : s.vm.findClass RX7 = some m.cls := hown
  have hS : va_S (xA q) s.heap s.heap [] := va_S.rf
  have hl : lv_has ls 3 [(0, .ref (q 8)), (1, .int a1), (2, .int a2)] := hl
  rw [f_X7_change] at h
  refine lv_aload_n hx hb dX7_change_0 rfl (lv_at hl 0 rfl) ?_
  refine va_get (D := D) (ci := 6) (v := .ref (q 9)) (C := RX7) (T := TX7) (N := 4) hx hb hts (fun w h => sub_z _ (inX7 w h)) hown hK hP 8 rfl rfl 0 (by decide) (hts _ (sub_z _ k_31)) (fun _ h => h) rfl dX7_change_1 ?_
  refine lv_iload_n hx hb dX7_change_4 rfl (lv_at hl 1 rfl) ?_
  refine lv_aload_n hx hb dX7_change_5 rfl (lv_at hl 0 rfl) ?_
  refine va_get (D := D) (ci := 6) (v := .int (rs 3).2.2.1) (C := RX7) (T := TX7) (N := 4) hx hb hts (fun w h => sub_z _ (inX7 w h)) hown hK hP 8 rfl rfl 2 (by decide) (hts _ (sub_z _ k_33)) (fun _ h => h) rfl dX7_change_6 ?_
  refine lv_if_ne (tgt := 17) hx hb dX7_change_9 (by decide) (fun k1 => ?_) (fun k1 => ?_)
  · rw [if_neg k1] at h
    refine lv_aload_n hx hb dX7_change_17 rfl (lv_at hl 0 rfl) ?_
    refine va_get (D := D) (ci := 6) (v := .int (rs 3).2.2.1) (C := RX7) (T := TX7) (N := 4) hx hb hts (fun w h => sub_z _ (inX7 w h)) hown hK hP 8 rfl rfl 2 (by decide) (hts _ (sub_z _ k_33)) (fun _ h => h) rfl dX7_change_18 ?_
    refine lv_iconst (v := 1) hx hb dX7_change_21 (by decide) ?_
    refine lv_icmp_ne (tgt := 30) hx hb dX7_change_22 (by decide) (fun k2 => ?_) (fun k2 => ?_)
    · rw [if_neg k2] at h
      refine lv_iload_n hx hb dX7_change_30 rfl (lv_at hl 2 rfl) ?_
      obtain ⟨k3, h⟩ := dg h
      refine va_iast (f := (rs 3).1) hx hb hK hP (xD.w hD) hS 9 0 rfl rfl (inb_vp k3) dX7_change_31 (fun H locs hP _ hS => ?_)
      have hP : va_P D vwCl (wX dT q (va_up rs 3 ((upd (rs 3).1 a1.toNatClampNeg a2), (rs 3).2.1, (rs 3).2.2.1, (rs 3).2.2.2)) g bh c1 c2 re pl cl) H := hP
      obtain rfl := Option.some.inj h
      exact rV hx hb hr hlk hK hP hS dX7_change_32
    · rw [if_pos k2] at h
      refine lv_iload_n hx hb dX7_change_25 rfl (lv_at hl 2 rfl) ?_
      refine lv_i2s (v := a2.toInt16.toInt32) hx hb dX7_change_26 rfl ?_
      refine lv_goto (tgt := 31) hx hb dX7_change_27 (by decide) ?_
      obtain ⟨k4, h⟩ := dg h
      refine va_iast (f := (rs 3).1) hx hb hK hP (xD.w hD) hS 9 0 rfl rfl (inb_vp k4) dX7_change_31 (fun H locs hP _ hS => ?_)
      have hP : va_P D vwCl (wX dT q (va_up rs 3 ((upd (rs 3).1 a1.toNatClampNeg a2.toInt16.toInt32), (rs 3).2.1, (rs 3).2.2.1, (rs 3).2.2.2)) g bh c1 c2 re pl cl) H := hP
      obtain rfl := Option.some.inj h
      exact rV hx hb hr hlk hK hP hS dX7_change_32
  · rw [if_pos k1] at h
    refine lv_iload_n hx hb dX7_change_12 rfl (lv_at hl 2 rfl) ?_
    refine lv_i2b (v := a2.toInt8.toInt32) hx hb dX7_change_13 rfl ?_
    refine lv_goto (tgt := 31) hx hb dX7_change_14 (by decide) ?_
    obtain ⟨k5, h⟩ := dg h
    refine va_iast (f := (rs 3).1) hx hb hK hP (xD.w hD) hS 9 0 rfl rfl (inb_vp k5) dX7_change_31 (fun H locs hP _ hS => ?_)
    have hP : va_P D vwCl (wX dT q (va_up rs 3 ((upd (rs 3).1 a1.toNatClampNeg a2.toInt8.toInt32), (rs 3).2.1, (rs 3).2.2.1, (rs 3).2.2.2)) g bh c1 c2 re pl cl) H := hP
    obtain rfl := Option.some.inj h
    exact rV hx hb hr hlk hK hP hS dX7_change_32

theorem c_X7_change {l : Launch} {D : va_G} {dT : Nat → ClassId} {q : Nat → Nat} (hD : xD q) {rs : (Nat → tRow)} {g : tG_} {bh : tBH} {c1 : tC} {c2 : tC} {re : tRE} {pl : tPL} {cl : tCL} {j : Nat} (hj : j < 4) {a1 : Int32} {a2 : Int32} {v : tRow} (h : f_X7_change (rs j) a1 a2 = some v) : MG l yX7_change cX7_change 3 none 0 [.ref (q (2 + 2 * j)), .int a1, .int a2] D (tyL dT) (wX dT q rs g bh c1 c2 re pl cl) (QV D (tyL dT) (xA q) (wX dT q (va_up rs j v) g bh c1 c2 re pl cl)) (xA q) := by
  match j, hj with
  | 0, _ => exact c_X7_change_0 hD h
  | 1, _ => exact c_X7_change_1 hD h
  | 2, _ => exact c_X7_change_2 hD h
  | 3, _ => exact c_X7_change_3 hD h
