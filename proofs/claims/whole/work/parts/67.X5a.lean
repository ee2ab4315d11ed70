set_option maxRecDepth 100000 in
set_option maxHeartbeats 4000000 in
theorem c_X5_forget {l : Launch} {D : va_G} {dT : Nat → ClassId} {q : Nat → Nat} (hD : xD q) {rs : (Nat → tRow)} {g : tG_} {bh : tBH} {c1 : tC} {c2 : tC} {re : tRE} {pl : tPL} {cl : tCL}  {v : tPL} (h : f_X5_forget pl = some v) : MG l yX5_forget cX5_forget 1 none 0 [.ref (q 35)] D (tyL dT) (wX dT q rs g bh c1 c2 re pl cl) (QV D (tyL dT) (xA q) (wX dT q rs g bh c1 c2 re v cl)) (xA q) := by
  refine MG.mk (by decide +kernel) (Nat.le_of_ble_eq_true rfl) ?_
  intro p e s m below meth c hx hb hr hml hown hts hlk hK hP ls hl
  have hown : s.vm.findClass RX5 = some m.cls := hown
  have hS : va_S (xA q) s.heap s.heap [] := va_S.rf
  have hl : lv_has ls 1 [(0, .ref (q 35))] := hl
  rw [f_X5_forget] at h
  refine lv_aload_n hx hb dX5_forget_0 rfl (lv_at hl 0 rfl) ?_
  refine lv_iconst (v := 0) hx hb dX5_forget_1 (by decide) ?_
  refine va_put (D := D) (ci := 4) (v := .int (0 : Int32)) (ty := .boolean) (C := RX5) (T := TX5) (N := 8) hx hb hts (fun w h => sub_z _ (inX5 w h)) tyX5 tyX5_ok nmX5 hown hK hP (xD.w hD) hS 35 rfl rfl 4 (by decide) (hts _ (sub_z _ k_177)) (fun _ h => h) rfl (by decide +kernel) rfl rfl (Nat.le_of_ble_eq_true rfl) dX5_forget_2 (fun H locs hP _ hS => ?_)
  have hP : va_P D vwCl (wX dT q rs g bh c1 c2 re (pl.1, pl.2.1, pl.2.2.1, (0 : Int32), pl.2.2.2.2.1, pl.2.2.2.2.2.1, pl.2.2.2.2.2.2) cl) H := hP
  refine lv_aload_n hx hb dX5_forget_5 rfl (lv_at hl 0 rfl) ?_
  refine lv_iconst (v := 0) hx hb dX5_forget_6 (by decide) ?_
  refine va_put (D := D) (ci := 4) (v := .int (0 : Int32)) (ty := .int) (C := RX5) (T := TX5) (N := 8) hx hb hts (fun w h => sub_z _ (inX5 w h)) tyX5 tyX5_ok nmX5 hown hK hP (xD.w hD) hS 35 rfl rfl 5 (by decide) (hts _ (sub_z _ k_178)) (fun _ h => h) rfl (by decide +kernel) rfl rfl (Nat.le_of_ble_eq_true rfl) dX5_forget_7 (fun H locs hP _ hS => ?_)
  have hP : va_P D vwCl (wX dT q rs g bh c1 c2 re (pl.1, pl.2.1, pl.2.2.1, (0 : Int32), (0 : Int32), pl.2.2.2.2.2.1, pl.2.2.2.2.2.2) cl) H := hP
  refine lv_aload_n hx hb dX5_forget_10 rfl (lv_at hl 0 rfl) ?_
  refine lv_iconst (v := 0) hx hb dX5_forget_11 (by decide) ?_
  refine va_put (D := D) (ci := 4) (v := .int (0 : Int32)) (ty := .int) (C := RX5) (T := TX5) (N := 8) hx hb hts (fun w h => sub_z _ (inX5 w h)) tyX5 tyX5_ok nmX5 hown hK hP (xD.w hD) hS 35 rfl rfl 6 (by decide) (hts _ (sub_z _ k_179)) (fun _ h => h) rfl (by decide +kernel) rfl rfl (Nat.le_of_ble_eq_true rfl) dX5_forget_12 (fun H locs hP _ hS => ?_)
  have hP : va_P D vwCl (wX dT q rs g bh c1 c2 re (pl.1, pl.2.1, pl.2.2.1, (0 : Int32), (0 : Int32), (0 : Int32), pl.2.2.2.2.2.2) cl) H := hP
  obtain rfl := Option.some.inj h
  exact rV hx hb hr hlk hK hP hS dX5_forget_15

set_option maxRecDepth 100000 in
set_option maxHeartbeats 4000000 in
theorem c_J7_fill_d0a16_36 {l : Launch} {D : va_G} {dT : Nat → ClassId} {q : Nat → Nat} (hD : xD q) {rs : (Nat → tRow)} {g : tG_} {bh : tBH} {c1 : tC} {c2 : tC} {re : tRE} {pl : tPL} {cl : tCL} {a1 : Int64} {v : (Nat → Int64)} (h : f_J7_fill_d0a16 pl.1 600 a1 = some v) : MG l yJ7_fill_d0a16 cJ7_fill_d0a16 5 none 0 [.ref (q 36), .long a1] D (tyL dT) (wX dT q rs g bh c1 c2 re pl cl) (QV D (tyL dT) (xA q) (wX dT q rs g bh c1 c2 re (v, pl.2.1, pl.2.2.1, pl.2.2.2.1, pl.2.2.2.2.1, pl.2.2.2.2.2.1, pl.2.2.2.2.2.2) cl)) (xA q) := by
  refine MG.mk (by decide +kernel) (Nat.le_of_ble_eq_true rfl) ?_
  intro p e s m below meth c hx hb hr hml hown hts hlk hK hP ls hl
  have hown : s.vm.findClass RJ7 = some m.cls := hown
  have hS : va_S (xA q) s.heap s.heap [] := va_S.rf
  have hl : lv_has ls 5 [(0, .ref (q 36)), (1, .long a1)] := hl
  rw [f_J7_fill_d0a16] at h
  refine lv_iconst (v := 0) hx hb dJ7_fill_d0a16_0 (by decide) ?_
  refine lv_istore_n (lv' := [(3, .int (0 : Int32)), (0, .ref (q 36)), (1, .long a1)]) hx hb dJ7_fill_d0a16_1 rfl hl (by decide) rfl (fun ls hl => ?_)
  refine lv_aload_n hx hb dJ7_fill_d0a16_2 rfl (lv_at hl 1 rfl) ?_
  refine va_alen (v := (nI 600)) hx hb hK hP 36 1 rfl rfl rfl dJ7_fill_d0a16_3 ?_
  refine lv_istore (lv' := [(4, .int (nI 600)), (3, .int (0 : Int32)), (0, .ref (q 36)), (1, .long a1)]) hx hb dJ7_fill_d0a16_4 hl (by decide) rfl (fun ls hl => ?_)
  have hL6_3 : ∀ (n : Nat) (a_6 : (Nat → Int64)) (x3_6 : Int32) (y : Int32 × (Nat → Int64)), f_J7_fill_d0a16_6 600 n a_6 a1 x3_6 (nI 600) = some y → ∀ (ls : Array Slot) (H : Heap) (locs : List Loc), lv_has ls 5 [(0, .ref (q 36)), (1, .long a1), (3, .int x3_6), (4, .int (nI 600))] → va_P D vwCl (wX dT q rs g bh c1 c2 re (a_6, pl.2.1, pl.2.2.1, pl.2.2.2.1, pl.2.2.2.2.1, pl.2.2.2.2.2.1, pl.2.2.2.2.2.2) cl) H → va_S (xA q) s.heap H locs → ∀ Q : State → Prop, (∀ (ls : Array Slot) (H : Heap) (locs : List Loc), lv_has ls 5 [(0, .ref (q 36)), (1, .long a1), (3, .int y.1), (4, .int (nI 600))] → va_P D vwCl (wX dT q rs g bh c1 c2 re (y.2, pl.2.1, pl.2.2.1, pl.2.2.2.1, pl.2.2.2.2.1, pl.2.2.2.2.2.1, pl.2.2.2.2.2.2) cl) H → va_S (xA q) s.heap H locs → W p l e (rmD 0) s m [.ref (q 36), .long a1].toArray below meth c H locs 0 0 Q (F0 m 22 ls [])) → W p l e (rmD 0) s m [.ref (q 36), .long a1].toArray below meth c H locs 0 0 Q (F0 m 6 ls []) := by
    intro n
    induction n with
    | zero => intro a_6 x3_6 y h; exact absurd h (by simp [f_J7_fill_d0a16_6])
    | succ n ih =>
      intro a_6 x3_6 y h ls H locs hl hP hS Q kk
      rw [f_J7_fill_d0a16_6] at h
      refine lv_iload_n hx hb dJ7_fill_d0a16_6 rfl (lv_at hl 2 rfl) ?_
      refine lv_iload hx hb dJ7_fill_d0a16_7 (lv_at hl 3 rfl) ?_
      refine lv_icmp_ge (tgt := 22) hx hb dJ7_fill_d0a16_9 (by decide) (fun k1 => ?_) (fun k1 => ?_)
      · rw [if_pos k1] at h
        obtain rfl := Option.some.inj h
        exact kk _ _ _ (lv_sub hl [0, 1, 2, 3] rfl) hP hS
      · rw [if_neg k1] at h
        refine lv_aload_n hx hb dJ7_fill_d0a16_12 rfl (lv_at hl 0 rfl) ?_
        refine lv_iload_n hx hb dJ7_fill_d0a16_13 rfl (lv_at hl 2 rfl) ?_
        refine lv_lload_n hx hb dJ7_fill_d0a16_14 rfl (lv_at hl 1 rfl) ?_
        obtain ⟨k2, h⟩ := dg h
        refine va_last (f := a_6) hx hb hK hP (xD.w hD) hS 36 1 rfl rfl (inb_vp k2) dJ7_fill_d0a16_15 (fun H locs hP _ hS => ?_)
        have hP : va_P D vwCl (wX dT q rs g bh c1 c2 re ((vp_updL a_6 x3_6.toNatClampNeg a1), pl.2.1, pl.2.2.1, pl.2.2.2.1, pl.2.2.2.2.1, pl.2.2.2.2.2.1, pl.2.2.2.2.2.2) cl) H := hP
        refine lv_iinc (v := (x3_6 + (1 : Int32))) (lv' := [(3, .int (x3_6 + (1 : Int32))), (0, .ref (q 36)), (1, .long a1), (4, .int (nI 600))]) hx hb dJ7_fill_d0a16_16 hl (k := 2) rfl rfl (by decide) rfl (fun ls hl => ?_)
        refine lv_goto (tgt := 6) hx hb dJ7_fill_d0a16_19 (by decide) ?_
        exact ih _ _ _ h _ _ _ (lv_sub hl [1, 2, 0, 3] rfl) hP hS _ kk
  obtain ⟨y4, hy4, h⟩ := dq h
  refine hL6_3 _ _ _ _ hy4 _ _ _ (lv_sub hl [2, 3, 1, 0] rfl) hP hS _ (fun ls H locs hl hP hS => ?_)
  obtain rfl := Option.some.inj h
  exact rV hx hb hr hlk hK hP hS dJ7_fill_d0a16_22

set_option maxRecDepth 100000 in
set_option maxHeartbeats 4000000 in
theorem c_X5_spansByWays {l : Launch} {D : va_G} {dT : Nat → ClassId} {q : Nat → Nat} (hD : xD q) {rs : (Nat → tRow)} {g : tG_} {bh : tBH} {c1 : tC} {c2 : tC} {re : tRE} {pl : tPL} {cl : tCL} {a1 : Int32} {v : Int64} (h : f_X5_spansByWays re pl a1 = some v) : MG l yX5_spansByWays cX5_spansByWays 6 (some .long) 1 [.ref (q 35), .int a1] D (tyL dT) (wX dT q rs g bh c1 c2 re pl cl) (QL D (tyL dT) (xA q) (wX dT q rs g bh c1 c2 re pl cl) v) (xA q) := by
  refine MG.mk (by decide +kernel) (Nat.le_of_ble_eq_true rfl) ?_
  intro p e s m below meth c hx hb hr hml hown hts hlk hK hP ls hl
  have hown : s.vm.findClass RX5 = some m.cls := hown
  have hS : va_S (xA q) s.heap s.heap [] := va_S.rf
  have hl : lv_has ls 6 [(0, .ref (q 35)), (1, .int a1)] := hl
  rw [f_X5_spansByWays] at h
  refine lv_lconst (v := 1) hx hb dX5_spansByWays_0 (by decide) ?_
  refine lv_lstore_n (lv' := [(2, .long (1 : Int64)), (0, .ref (q 35)), (1, .int a1)]) hx hb dX5_spansByWays_1 rfl hl (by decide) rfl (fun ls hl => ?_)
  refine lv_aload_n hx hb dX5_spansByWays_2 rfl (lv_at hl 1 rfl) ?_
  refine va_get (D := D) (ci := 4) (v := .ref (q 27)) (C := RX5) (T := TX5) (N := 8) hx hb hts (fun w h => sub_z _ (inX5 w h)) hown hK hP 35 rfl rfl 0 (by decide) (hts _ (sub_z _ k_173)) (fun _ h => h) rfl dX5_spansByWays_3 ?_
  refine lv_iload_n hx hb dX5_spansByWays_6 rfl (lv_at hl 2 rfl) ?_
  obtain ⟨v1, hv1, h⟩ := dq h
  refine cVi (As := [.int a1]) (rest := []) ⟨hx, hb, hml, hown, hts⟩ (c_X6_startOfWays (dT := dT) (rs := rs) (g := g) (bh := bh) (c1 := c1) (c2 := c2) (re := re) (pl := pl) (cl := cl) hD hv1) (cwV 1 hts (good_V sub_z k_575 k_576 k_577 k_6 k_578) rfl rfl rfl (by decide +kernel) (by decide)) (va_recv hK hP (ci := 5) (q0 := 27) rfl rfl) hK hP hS rfl hl.1 rfl (Nat.le_of_ble_eq_true rfl) dX5_spansByWays_7 (by decide) (fun H locs hP hS => ?_)
  refine lv_istore (lv' := [(4, .int v1), (2, .long (1 : Int64)), (0, .ref (q 35)), (1, .int a1)]) hx hb dX5_spansByWays_10 hl (by decide) rfl (fun ls hl => ?_)
  have hL12_8 : ∀ (n : Nat) (x2_12 : Int64) (x4_12 : Int32) (y : Int64 × Int32), f_X5_spansByWays_12 n re pl a1 x2_12 x4_12 = some y → ∀ (ls : Array Slot) (H : Heap) (locs : List Loc), lv_has ls 6 [(0, .ref (q 35)), (1, .int a1), (2, .long x2_12), (4, .int x4_12)] → va_P D vwCl (wX dT q rs g bh c1 c2 re pl cl) H → va_S (xA q) s.heap H locs → ∀ Q : State → Prop, (∀ (ls : Array Slot) (H : Heap) (locs : List Loc), lv_has ls 6 [(0, .ref (q 35)), (1, .int a1), (2, .long y.1), (4, .int y.2)] → va_P D vwCl (wX dT q rs g bh c1 c2 re pl cl) H → va_S (xA q) s.heap H locs → W p l e (rmD 1) s m [.ref (q 35), .int a1].toArray below meth c H locs 0 0 Q (F0 m 61 ls [])) → W p l e (rmD 1) s m [.ref (q 35), .int a1].toArray below meth c H locs 0 0 Q (F0 m 12 ls []) := by
    intro n
    induction n with
    | zero => intro x2_12 x4_12 y h; exact absurd h (by simp [f_X5_spansByWays_12])
    | succ n ih =>
      intro x2_12 x4_12 y h ls H locs hl hP hS Q kk
      rw [f_X5_spansByWays_12] at h
      refine lv_iload hx hb dX5_spansByWays_12 (lv_at hl 3 rfl) ?_
      refine lv_aload_n hx hb dX5_spansByWays_14 rfl (lv_at hl 0 rfl) ?_
      refine va_get (D := D) (ci := 4) (v := .ref (q 27)) (C := RX5) (T := TX5) (N := 8) hx hb hts (fun w h => sub_z _ (inX5 w h)) hown hK hP 35 rfl rfl 0 (by decide) (hts _ (sub_z _ k_173)) (fun _ h => h) rfl dX5_spansByWays_15 ?_
      refine lv_iload_n hx hb dX5_spansByWays_18 rfl (lv_at hl 1 rfl) ?_
      obtain ⟨v2, hv2, h⟩ := dq h
      refine cVi (As := [.int a1]) (rest := [.int x4_12]) ⟨hx, hb, hml, hown, hts⟩ (c_X6_endOfWays (dT := dT) (rs := rs) (g := g) (bh := bh) (c1 := c1) (c2 := c2) (re := re) (pl := pl) (cl := cl) hD hv2) (cwV 1 hts (good_V sub_z k_579 k_580 k_581 k_6 k_582) rfl rfl rfl (by decide +kernel) (by decide)) (va_recv hK hP (ci := 5) (q0 := 27) rfl rfl) hK hP hS rfl hl.1 rfl (Nat.le_of_ble_eq_true rfl) dX5_spansByWays_19 (by decide) (fun H locs hP hS => ?_)
      refine lv_icmp_ge (tgt := 61) hx hb dX5_spansByWays_22 (by decide) (fun k3 => ?_) (fun k3 => ?_)
      · rw [if_pos k3] at h
        obtain rfl := Option.some.inj h
        exact kk _ _ _ (lv_sub hl [0, 1, 2, 3] rfl) hP hS
      · rw [if_neg k3] at h
        refine lv_aload_n hx hb dX5_spansByWays_25 rfl (lv_at hl 0 rfl) ?_
        refine va_get (D := D) (ci := 4) (v := .ref (q 27)) (C := RX5) (T := TX5) (N := 8) hx hb hts (fun w h => sub_z _ (inX5 w h)) hown hK hP 35 rfl rfl 0 (by decide) (hts _ (sub_z _ k_173)) (fun _ h => h) rfl dX5_spansByWays_26 ?_
        refine lv_iload hx hb dX5_spansByWays_29 (lv_at hl 3 rfl) ?_
        obtain ⟨v4, hv4, h⟩ := dq h
        refine cVi (As := [.int x4_12]) (rest := []) ⟨hx, hb, hml, hown, hts⟩ (c_X6_way (dT := dT) (rs := rs) (g := g) (bh := bh) (c1 := c1) (c2 := c2) (re := re) (pl := pl) (cl := cl) hD hv4) (cwV 1 hts (good_V sub_z k_583 k_584 k_585 k_6 k_586) rfl rfl rfl (by decide +kernel) (by decide)) (va_recv hK hP (ci := 5) (q0 := 27) rfl rfl) hK hP hS rfl hl.1 rfl (Nat.le_of_ble_eq_true rfl) dX5_spansByWays_31 (by decide) (fun H locs hP hS => ?_)
        refine lv_istore (lv' := [(5, .int v4), (0, .ref (q 35)), (1, .int a1), (2, .long x2_12), (4, .int x4_12)]) hx hb dX5_spansByWays_34 hl (by decide) rfl (fun ls hl => ?_)
        refine lv_lload_n hx hb dX5_spansByWays_36 rfl (lv_at hl 3 rfl) ?_
        refine lv_aload_n hx hb dX5_spansByWays_37 rfl (lv_at hl 1 rfl) ?_
        refine va_get (D := D) (ci := 4) (v := .ref (q 36)) (C := RX5) (T := TX5) (N := 8) hx hb hts (fun w h => sub_z _ (inX5 w h)) hown hK hP 35 rfl rfl 1 (by decide) (hts _ (sub_z _ k_174)) (fun _ h => h) rfl dX5_spansByWays_38 ?_
        refine lv_iload hx hb dX5_spansByWays_41 (lv_at hl 0 rfl) ?_
        obtain ⟨v5, hv5, h⟩ := dq h
        refine cSi (As := [.int v4]) (rest := [.ref (q 36), .long x2_12]) ⟨hx, hb, hml, hown, hts⟩ (c_X6_goal (dT := dT) (rs := rs) (g := g) (bh := bh) (c1 := c1) (c2 := c2) (re := re) (pl := pl) (cl := cl) hD hv5) (va_cwS 1 hts (good_S sub_z k_587 k_588 k_6 k_589) rfl rfl rfl (by decide +kernel) (by decide)) hK hP hS rfl hl.1 rfl (Nat.le_of_ble_eq_true rfl) dX5_spansByWays_43 (by decide) (fun H locs hP hS => ?_)
        obtain ⟨k6, h⟩ := dg h
        refine va_lald (f := pl.1) hx hb hK hP 36 1 rfl rfl (inb_vp k6) dX5_spansByWays_46 ?_
        refine lv_iload hx hb dX5_spansByWays_47 (lv_at hl 0 rfl) ?_
        obtain ⟨v7, hv7, h⟩ := dq h
        refine cSi (As := [.int v4]) (rest := [.long (pl.1 v5.toNatClampNeg), .long x2_12]) ⟨hx, hb, hml, hown, hts⟩ (c_X6_passing (dT := dT) (rs := rs) (g := g) (bh := bh) (c1 := c1) (c2 := c2) (re := re) (pl := pl) (cl := cl) hD hv7) (va_cwS 1 hts (good_S sub_z k_590 k_591 k_6 k_592) rfl rfl rfl (by decide +kernel) (by decide)) hK hP hS rfl hl.1 rfl (Nat.le_of_ble_eq_true rfl) dX5_spansByWays_49 (by decide) (fun H locs hP hS => ?_)
        refine lv_lshl (v := ((pl.1 v5.toNatClampNeg) <<< (v7.toInt64 &&& 63))) hx hb dX5_spansByWays_52 rfl ?_
        refine lv_lor hx hb dX5_spansByWays_53 ?_
        refine lv_lstore_n (lv' := [(2, .long (x2_12 ||| ((pl.1 v5.toNatClampNeg) <<< (v7.toInt64 &&& 63)))), (5, .int v4), (0, .ref (q 35)), (1, .int a1), (4, .int x4_12)]) hx hb dX5_spansByWays_54 rfl hl (by decide) rfl (fun ls hl => ?_)
        refine lv_iinc (v := (x4_12 + (1 : Int32))) (lv' := [(4, .int (x4_12 + (1 : Int32))), (2, .long (x2_12 ||| ((pl.1 v5.toNatClampNeg) <<< (v7.toInt64 &&& 63)))), (5, .int v4), (0, .ref (q 35)), (1, .int a1)]) hx hb dX5_spansByWays_55 hl (k := 4) rfl rfl (by decide) rfl (fun ls hl => ?_)
        refine lv_goto (tgt := 12) hx hb dX5_spansByWays_58 (by decide) ?_
        exact ih _ _ _ h _ _ _ (lv_sub hl [3, 4, 1, 0] rfl) hP hS _ kk
  obtain ⟨y9, hy9, h⟩ := dq h
  refine hL12_8 _ _ _ _ hy9 _ _ _ (lv_sub hl [2, 3, 1, 0] rfl) hP hS _ (fun ls H locs hl hP hS => ?_)
  refine lv_lload_n hx hb dX5_spansByWays_61 rfl (lv_at hl 2 rfl) ?_
  refine lv_ldc2 (v := 2305843009213693951) hx hb hown (hts _ (sub_z _ k_593)) dX5_spansByWays_62 ?_
  refine lv_land hx hb dX5_spansByWays_65 ?_
  obtain rfl := Option.some.inj h
  exact rL hx hb hr hlk hK hP hS dX5_spansByWays_66

set_option maxRecDepth 100000 in
set_option maxHeartbeats 4000000 in
theorem c_X5_findSpans {l : Launch} {D : va_G} {dT : Nat → ClassId} {q : Nat → Nat} (hD : xD q) {rs : (Nat → tRow)} {g : tG_} {bh : tBH} {c1 : tC} {c2 : tC} {re : tRE} {pl : tPL} {cl : tCL}  {v : tPL} (h : f_X5_findSpans re pl = some v) : MG l yX5_findSpans cX5_findSpans 6 none 2 [.ref (q 35)] D (tyL dT) (wX dT q rs g bh c1 c2 re pl cl) (QV D (tyL dT) (xA q) (wX dT q rs g bh c1 c2 re v cl)) (xA q) := by
  refine MG.mk (by decide +kernel) (Nat.le_of_ble_eq_true rfl) ?_
  intro p e s m below meth c hx hb hr hml hown hts hlk hK hP ls hl
  have hown : s.vm.findClass RX5 = some m.cls := hown
  have hS : va_S (xA q) s.heap s.heap [] := va_S.rf
  have hl : lv_has ls 6 [(0, .ref (q 35))] := hl
  rw [f_X5_findSpans] at h
  refine lv_aload_n hx hb dX5_findSpans_0 rfl (lv_at hl 0 rfl) ?_
  refine va_get (D := D) (ci := 4) (v := .int pl.2.2.2.1) (C := RX5) (T := TX5) (N := 8) hx hb hts (fun w h => sub_z _ (inX5 w h)) hown hK hP 35 rfl rfl 4 (by decide) (hts _ (sub_z _ k_177)) (fun _ h => h) rfl dX5_findSpans_1 ?_
  refine lv_if_eq (tgt := 8) hx hb dX5_findSpans_4 (by decide) (fun k1 => ?_) (fun k1 => ?_)
  · rw [if_pos k1] at h
    refine lv_aload_n hx hb dX5_findSpans_8 rfl (lv_at hl 0 rfl) ?_
    refine lv_iconst (v := 1) hx hb dX5_findSpans_9 (by decide) ?_
    refine va_put (D := D) (ci := 4) (v := .int (1 : Int32)) (ty := .boolean) (C := RX5) (T := TX5) (N := 8) hx hb hts (fun w h => sub_z _ (inX5 w h)) tyX5 tyX5_ok nmX5 hown hK hP (xD.w hD) hS 35 rfl rfl 4 (by decide) (hts _ (sub_z _ k_177)) (fun _ h => h) rfl (by decide +kernel) rfl rfl (Nat.le_of_ble_eq_true rfl) dX5_findSpans_10 (fun H locs hP _ hS => ?_)
    have hP : va_P D vwCl (wX dT q rs g bh c1 c2 re (pl.1, pl.2.1, pl.2.2.1, (1 : Int32), pl.2.2.2.2.1, pl.2.2.2.2.2.1, pl.2.2.2.2.2.2) cl) H := hP
    refine lv_aload_n hx hb dX5_findSpans_13 rfl (lv_at hl 0 rfl) ?_
    refine va_get (D := D) (ci := 4) (v := .ref (q 36)) (C := RX5) (T := TX5) (N := 8) hx hb hts (fun w h => sub_z _ (inX5 w h)) hown hK hP 35 rfl rfl 1 (by decide) (hts _ (sub_z _ k_174)) (fun _ h => h) rfl dX5_findSpans_14 ?_
    refine lv_lconst (v := 1) hx hb dX5_findSpans_17 (by decide) ?_
    obtain ⟨v2, hv2, h⟩ := dq h
    refine cSv (As := [.ref (q 36), .long (1 : Int64)]) (rest := []) ⟨hx, hb, hml, hown, hts⟩ (c_J7_fill_d0a16_36 (dT := dT) (rs := rs) (g := g) (bh := bh) (c1 := c1) (c2 := c2) (re := re) (pl := (pl.1, pl.2.1, pl.2.2.1, (1 : Int32), pl.2.2.2.2.1, pl.2.2.2.2.2.1, pl.2.2.2.2.2.2)) (cl := cl) hD hv2) (va_cwS 2 hts (good_S sub_z k_567 k_568 k_10 k_569) rfl rfl rfl (by decide +kernel) (by decide)) hK hP hS rfl hl.1 rfl (Nat.le_of_ble_eq_true rfl) dX5_findSpans_18 (by decide) (fun H locs hP hS => ?_)
    refine lv_iconst (v := 1) hx hb dX5_findSpans_21 (by decide) ?_
    refine lv_istore_n (lv' := [(1, .int (1 : Int32)), (0, .ref (q 35))]) hx hb dX5_findSpans_22 rfl hl (by decide) rfl (fun ls hl => ?_)
    refine lv_iconst (v := 0) hx hb dX5_findSpans_23 (by decide) ?_
    refine lv_istore_n (lv' := [(2, .int (0 : Int32)), (1, .int (1 : Int32)), (0, .ref (q 35))]) hx hb dX5_findSpans_24 rfl hl (by decide) rfl (fun ls hl => ?_)
    have hL25_14 : ∀ (n : Nat) (pl_25 : tPL) (x1_25 : Int32) (x2_25 : Int32) (y : Int32 × Int32 × tPL), f_X5_findSpans_25 n re pl_25 x1_25 x2_25 = some y → ∀ (ls : Array Slot) (H : Heap) (locs : List Loc), lv_has ls 6 [(0, .ref (q 35)), (1, .int x1_25), (2, .int x2_25)] → va_P D vwCl (wX dT q rs g bh c1 c2 re pl_25 cl) H → va_S (xA q) s.heap H locs → ∀ Q : State → Prop, (∀ (ls : Array Slot) (H : Heap) (locs : List Loc), lv_has ls 6 [(0, .ref (q 35)), (1, .int y.1), (2, .int y.2.1)] → va_P D vwCl (wX dT q rs g bh c1 c2 re y.2.2 cl) H → va_S (xA q) s.heap H locs → W p l e (rmD 2) s m [.ref (q 35)].toArray below meth c H locs 0 0 Q (F0 m 98 ls [])) → W p l e (rmD 2) s m [.ref (q 35)].toArray below meth c H locs 0 0 Q (F0 m 25 ls []) := by
      intro n
      induction n with
      | zero => intro pl_25 x1_25 x2_25 y h; exact absurd h (by simp [f_X5_findSpans_25])
      | succ n ih =>
        intro pl_25 x1_25 x2_25 y h ls H locs hl hP hS Q kk
        rw [f_X5_findSpans_25] at h
        refine lv_iload_n hx hb dX5_findSpans_25 rfl (lv_at hl 2 rfl) ?_
        refine lv_bipush (v := 60) hx hb dX5_findSpans_26 (by decide) ?_
        refine lv_icmp_ge (tgt := 98) hx hb dX5_findSpans_28 (by decide) (fun k3 => ?_) (fun k3 => ?_)
        · rw [if_pos k3] at h
          obtain rfl := Option.some.inj h
          exact kk _ _ _ (lv_sub hl [0, 1, 2] rfl) hP hS
        · rw [if_neg k3] at h
          refine lv_iload_n hx hb dX5_findSpans_31 rfl (lv_at hl 1 rfl) ?_
          refine lv_if_eq (tgt := 98) hx hb dX5_findSpans_32 (by decide) (fun k4 => ?_) (fun k4 => ?_)
          · rw [if_pos k4] at h
            obtain rfl := Option.some.inj h
            exact kk _ _ _ (lv_sub hl [0, 1, 2] rfl) hP hS
          · rw [if_neg k4] at h
            refine lv_iconst (v := 0) hx hb dX5_findSpans_35 (by decide) ?_
            refine lv_istore_n (lv' := [(1, .int (0 : Int32)), (0, .ref (q 35)), (2, .int x2_25)]) hx hb dX5_findSpans_36 rfl hl (by decide) rfl (fun ls hl => ?_)
            refine lv_aload_n hx hb dX5_findSpans_37 rfl (lv_at hl 1 rfl) ?_
            refine va_get (D := D) (ci := 4) (v := .ref (q 27)) (C := RX5) (T := TX5) (N := 8) hx hb hts (fun w h => sub_z _ (inX5 w h)) hown hK hP 35 rfl rfl 0 (by decide) (hts _ (sub_z _ k_173)) (fun _ h => h) rfl dX5_findSpans_38 ?_
            obtain ⟨v5, hv5, h⟩ := dq h
            refine cVi (As := []) (rest := []) ⟨hx, hb, hml, hown, hts⟩ (c_X6_count (dT := dT) (rs := rs) (g := g) (bh := bh) (c1 := c1) (c2 := c2) (re := re) (pl := pl_25) (cl := cl) hD hv5) (cwV 0 hts (good_V sub_z k_570 k_538 k_539 k_6 k_540) rfl rfl rfl (by decide +kernel) (by decide)) (va_recv hK hP (ci := 5) (q0 := 27) rfl rfl) hK hP hS rfl hl.1 rfl (Nat.le_of_ble_eq_true rfl) dX5_findSpans_41 (by decide) (fun H locs hP hS => ?_)
            refine lv_iconst (v := 1) hx hb dX5_findSpans_44 (by decide) ?_
            refine lv_isub hx hb dX5_findSpans_45 ?_
            refine lv_istore_n (lv' := [(3, .int (v5 - (1 : Int32))), (1, .int (0 : Int32)), (0, .ref (q 35)), (2, .int x2_25)]) hx hb dX5_findSpans_46 rfl hl (by decide) rfl (fun ls hl => ?_)
            have hL47_12 : ∀ (n : Nat) (pl_47 : tPL) (x1_47 : Int32) (x3_47 : Int32) (y : Int32 × Int32 × tPL), f_X5_findSpans_47 n re pl_47 x1_47 x2_25 x3_47 = some y → ∀ (ls : Array Slot) (H : Heap) (locs : List Loc), lv_has ls 6 [(0, .ref (q 35)), (1, .int x1_47), (2, .int x2_25), (3, .int x3_47)] → va_P D vwCl (wX dT q rs g bh c1 c2 re pl_47 cl) H → va_S (xA q) s.heap H locs → ∀ Q : State → Prop, (∀ (ls : Array Slot) (H : Heap) (locs : List Loc), lv_has ls 6 [(0, .ref (q 35)), (1, .int y.1), (2, .int x2_25), (3, .int y.2.1)] → va_P D vwCl (wX dT q rs g bh c1 c2 re y.2.2 cl) H → va_S (xA q) s.heap H locs → W p l e (rmD 2) s m [.ref (q 35)].toArray below meth c H locs 0 0 Q (F0 m 92 ls [])) → W p l e (rmD 2) s m [.ref (q 35)].toArray below meth c H locs 0 0 Q (F0 m 47 ls []) := by
              intro n
              induction n with
              | zero => intro pl_47 x1_47 x3_47 y h; exact absurd h (by simp [f_X5_findSpans_47])
              | succ n ih =>
                intro pl_47 x1_47 x3_47 y h ls H locs hl hP hS Q kk
                rw [f_X5_findSpans_47] at h
                refine lv_iload_n hx hb dX5_findSpans_47 rfl (lv_at hl 3 rfl) ?_
                refine lv_if_lt (tgt := 92) hx hb dX5_findSpans_48 (by decide) (fun k6 => ?_) (fun k6 => ?_)
                · rw [if_pos k6] at h
                  obtain rfl := Option.some.inj h
                  exact kk _ _ _ (lv_sub hl [0, 1, 2, 3] rfl) hP hS
                · rw [if_neg k6] at h
                  refine lv_aload_n hx hb dX5_findSpans_51 rfl (lv_at hl 0 rfl) ?_
                  refine lv_iload_n hx hb dX5_findSpans_52 rfl (lv_at hl 3 rfl) ?_
                  obtain ⟨v7, hv7, h⟩ := dq h
                  refine cVl (As := [.int x3_47]) (rest := []) ⟨hx, hb, hml, hown, hts⟩ (c_X5_spansByWays (dT := dT) (rs := rs) (g := g) (bh := bh) (c1 := c1) (c2 := c2) (re := re) (pl := pl_47) (cl := cl) hD hv7) (cwV 1 hts (good_V sub_z k_571 k_573 ks_13 k_7 k_574) rfl rfl rfl (by decide +kernel) (by decide)) (va_recv hK hP (ci := 4) (q0 := 35) rfl rfl) hK hP hS rfl hl.1 rfl (Nat.le_of_ble_eq_true rfl) dX5_findSpans_53 (by decide) (fun H locs hP hS => ?_)
                  refine lv_lstore (lv' := [(4, .long v7), (0, .ref (q 35)), (1, .int x1_47), (2, .int x2_25), (3, .int x3_47)]) hx hb dX5_findSpans_56 hl (by decide) rfl (fun ls hl => ?_)
                  refine lv_iload_n hx hb dX5_findSpans_58 rfl (lv_at hl 2 rfl) ?_
                  refine lv_lload hx hb dX5_findSpans_59 (lv_at hl 0 rfl) ?_
                  refine lv_aload_n hx hb dX5_findSpans_61 rfl (lv_at hl 1 rfl) ?_
                  refine va_get (D := D) (ci := 4) (v := .ref (q 36)) (C := RX5) (T := TX5) (N := 8) hx hb hts (fun w h => sub_z _ (inX5 w h)) hown hK hP 35 rfl rfl 1 (by decide) (hts _ (sub_z _ k_174)) (fun _ h => h) rfl dX5_findSpans_62 ?_
                  refine lv_iload_n hx hb dX5_findSpans_65 rfl (lv_at hl 4 rfl) ?_
                  obtain ⟨k8, h⟩ := dg h
                  refine va_lald (f := pl_47.1) hx hb hK hP 36 1 rfl rfl (inb_vp k8) dX5_findSpans_66 ?_
                  refine W.lcmp hx hb dX5_findSpans_67 ?_
                  refine lv_if_eq (tgt := 75) hx hb dX5_findSpans_68 (by decide) (fun k9 => ?_) (fun k9 => ?_)
                  · rw [if_pos k9] at h
                    refine lv_iconst (v := 0) hx hb dX5_findSpans_75 (by decide) ?_
                    refine lv_ior hx hb dX5_findSpans_76 ?_
                    refine lv_istore_n (lv' := [(1, .int (x1_47 ||| (0 : Int32))), (4, .long v7), (0, .ref (q 35)), (2, .int x2_25), (3, .int x3_47)]) hx hb dX5_findSpans_77 rfl hl (by decide) rfl (fun ls hl => ?_)
                    refine lv_aload_n hx hb dX5_findSpans_78 rfl (lv_at hl 2 rfl) ?_
                    refine va_get (D := D) (ci := 4) (v := .ref (q 36)) (C := RX5) (T := TX5) (N := 8) hx hb hts (fun w h => sub_z _ (inX5 w h)) hown hK hP 35 rfl rfl 1 (by decide) (hts _ (sub_z _ k_174)) (fun _ h => h) rfl dX5_findSpans_79 ?_
                    refine lv_iload_n hx hb dX5_findSpans_82 rfl (lv_at hl 4 rfl) ?_
                    refine lv_lload hx hb dX5_findSpans_83 (lv_at hl 1 rfl) ?_
                    obtain ⟨k10, h⟩ := dg h
                    refine va_last (f := pl_47.1) hx hb hK hP (xD.w hD) hS 36 1 rfl rfl (inb_vp k10) dX5_findSpans_85 (fun H locs hP _ hS => ?_)
                    have hP : va_P D vwCl (wX dT q rs g bh c1 c2 re ((vp_updL pl_47.1 x3_47.toNatClampNeg v7), pl_47.2.1, pl_47.2.2.1, pl_47.2.2.2.1, pl_47.2.2.2.2.1, pl_47.2.2.2.2.2.1, pl_47.2.2.2.2.2.2) cl) H := hP
                    refine lv_iinc (v := (x3_47 + (-1 : Int32))) (lv' := [(3, .int (x3_47 + (-1 : Int32))), (1, .int (x1_47 ||| (0 : Int32))), (4, .long v7), (0, .ref (q 35)), (2, .int x2_25)]) hx hb dX5_findSpans_86 hl (k := 4) rfl rfl (by decide) rfl (fun ls hl => ?_)
                    refine lv_goto (tgt := 47) hx hb dX5_findSpans_89 (by decide) ?_
                    exact ih _ _ _ _ h _ _ _ (lv_sub hl [3, 1, 4, 0] rfl) hP hS _ kk
                  · rw [if_neg k9] at h
                    refine lv_iconst (v := 1) hx hb dX5_findSpans_71 (by decide) ?_
                    refine lv_goto (tgt := 76) hx hb dX5_findSpans_72 (by decide) ?_
                    refine lv_ior hx hb dX5_findSpans_76 ?_
                    refine lv_istore_n (lv' := [(1, .int (x1_47 ||| (1 : Int32))), (4, .long v7), (0, .ref (q 35)), (2, .int x2_25), (3, .int x3_47)]) hx hb dX5_findSpans_77 rfl hl (by decide) rfl (fun ls hl => ?_)
                    refine lv_aload_n hx hb dX5_findSpans_78 rfl (lv_at hl 2 rfl) ?_
                    refine va_get (D := D) (ci := 4) (v := .ref (q 36)) (C := RX5) (T := TX5) (N := 8) hx hb hts (fun w h => sub_z _ (inX5 w h)) hown hK hP 35 rfl rfl 1 (by decide) (hts _ (sub_z _ k_174)) (fun _ h => h) rfl dX5_findSpans_79 ?_
                    refine lv_iload_n hx hb dX5_findSpans_82 rfl (lv_at hl 4 rfl) ?_
                    refine lv_lload hx hb dX5_findSpans_83 (lv_at hl 1 rfl) ?_
                    obtain ⟨k11, h⟩ := dg h
                    refine va_last (f := pl_47.1) hx hb hK hP (xD.w hD) hS 36 1 rfl rfl (inb_vp k11) dX5_findSpans_85 (fun H locs hP _ hS => ?_)
                    have hP : va_P D vwCl (wX dT q rs g bh c1 c2 re ((vp_updL pl_47.1 x3_47.toNatClampNeg v7), pl_47.2.1, pl_47.2.2.1, pl_47.2.2.2.1, pl_47.2.2.2.2.1, pl_47.2.2.2.2.2.1, pl_47.2.2.2.2.2.2) cl) H := hP
                    refine lv_iinc (v := (x3_47 + (-1 : Int32))) (lv' := [(3, .int (x3_47 + (-1 : Int32))), (1, .int (x1_47 ||| (1 : Int32))), (4, .long v7), (0, .ref (q 35)), (2, .int x2_25)]) hx hb dX5_findSpans_86 hl (k := 4) rfl rfl (by decide) rfl (fun ls hl => ?_)
                    refine lv_goto (tgt := 47) hx hb dX5_findSpans_89 (by decide) ?_
                    exact ih _ _ _ _ h _ _ _ (lv_sub hl [3, 1, 4, 0] rfl) hP hS _ kk
            obtain ⟨y13, hy13, h⟩ := dq h
            refine hL47_12 _ _ _ _ _ hy13 _ _ _ (lv_sub hl [2, 1, 3, 0] rfl) hP hS _ (fun ls H locs hl hP hS => ?_)
            refine lv_iinc (v := (x2_25 + (1 : Int32))) (lv' := [(2, .int (x2_25 + (1 : Int32))), (0, .ref (q 35)), (1, .int y13.1), (3, .int y13.2.1)]) hx hb dX5_findSpans_92 hl (k := 2) rfl rfl (by decide) rfl (fun ls hl => ?_)
            refine lv_goto (tgt := 25) hx hb dX5_findSpans_95 (by decide) ?_
            exact ih _ _ _ _ h _ _ _ (lv_sub hl [1, 2, 0] rfl) hP hS _ kk
    obtain ⟨y15, hy15, h⟩ := dq h
    refine hL25_14 _ _ _ _ _ hy15 _ _ _ (lv_sub hl [2, 1, 0] rfl) hP hS _ (fun ls H locs hl hP hS => ?_)
    obtain rfl := Option.some.inj h
    exact rV hx hb hr hlk hK hP hS dX5_findSpans_98
  · rw [if_neg k1] at h
    obtain rfl := Option.some.inj h
    exact rV hx hb hr hlk hK hP hS dX5_findSpans_7

set_option maxRecDepth 100000 in
set_option maxHeartbeats 4000000 in
theorem c_X5_goesOn {l : Launch} {D : va_G} {dT : Nat → ClassId} {q : Nat → Nat} (hD : xD q) {rs : (Nat → tRow)} {g : tG_} {bh : tBH} {c1 : tC} {c2 : tC} {re : tRE} {pl : tPL} {cl : tCL} {a1 : Int32} {a2 : Int32} {v : Int32} (h : f_X5_goesOn pl a1 a2 = some v) : MG l yX5_goesOn cX5_goesOn 3 (some .boolean) 0 [.ref (q 35), .int a1, .int a2] D (tyL dT) (wX dT q rs g bh c1 c2 re pl cl) (QI D (tyL dT) (xA q) (wX dT q rs g bh c1 c2 re pl cl) v) (xA q) := by
  refine MG.mk (by decide +kernel) (Nat.le_of_ble_eq_true rfl) ?_
  intro p e s m below meth c hx hb hr hml hown hts hlk hK hP ls hl
  have hown : s.vm.findClass RX5 = some m.cls := hown
  have hS : va_S (xA q) s.heap s.heap [] := va_S.rf
  have hl : lv_has ls 3 [(0, .ref (q 35)), (1, .int a1), (2, .int a2)] := hl
  rw [f_X5_goesOn] at h
  refine lv_aload_n hx hb dX5_goesOn_0 rfl (lv_at hl 0 rfl) ?_
  refine va_get (D := D) (ci := 4) (v := .ref (q 36)) (C := RX5) (T := TX5) (N := 8) hx hb hts (fun w h => sub_z _ (inX5 w h)) hown hK hP 35 rfl rfl 1 (by decide) (hts _ (sub_z _ k_174)) (fun _ h => h) rfl dX5_goesOn_1 ?_
  refine lv_iload_n hx hb dX5_goesOn_4 rfl (lv_at hl 1 rfl) ?_
  obtain ⟨k1, h⟩ := dg h
  refine va_lald (f := pl.1) hx hb hK hP 36 1 rfl rfl (inb_vp k1) dX5_goesOn_5 ?_
  refine lv_iload_n hx hb dX5_goesOn_6 rfl (lv_at hl 2 rfl) ?_
  refine lv_lshr (v := ((pl.1 a1.toNatClampNeg) >>> (a2.toInt64 &&& 63))) hx hb dX5_goesOn_7 rfl ?_
  refine lv_lconst (v := 1) hx hb dX5_goesOn_8 (by decide) ?_
  refine lv_land hx hb dX5_goesOn_9 ?_
  refine lv_lconst (v := 0) hx hb dX5_goesOn_10 (by decide) ?_
  refine W.lcmp hx hb dX5_goesOn_11 ?_
  refine lv_if_eq (tgt := 19) hx hb dX5_goesOn_12 (by decide) (fun k2 => ?_) (fun k2 => ?_)
  · rw [if_pos k2] at h
    refine lv_iconst (v := 0) hx hb dX5_goesOn_19 (by decide) ?_
    obtain rfl := Option.some.inj h
    exact rZ (v := (0 : Int32)) hx hb hr hlk rfl hK hP hS dX5_goesOn_20
  · rw [if_neg k2] at h
    refine lv_iconst (v := 1) hx hb dX5_goesOn_15 (by decide) ?_
    refine lv_goto (tgt := 20) hx hb dX5_goesOn_16 (by decide) ?_
    obtain rfl := Option.some.inj h
    exact rZ (v := (1 : Int32)) hx hb hr hlk rfl hK hP hS dX5_goesOn_20

set_option maxRecDepth 100000 in
set_option maxHeartbeats 4000000 in
theorem c_X5_isPure {l : Launch} {D : va_G} {dT : Nat → ClassId} {q : Nat → Nat} (hD : xD q) {rs : (Nat → tRow)} {g : tG_} {bh : tBH} {c1 : tC} {c2 : tC} {re : tRE} {pl : tPL} {cl : tCL} {a1 : Int32} {v : Int32 × tPL} (h : f_X5_isPure re pl a1 = some v) : MG l yX5_isPure cX5_isPure 2 (some .boolean) 3 [.ref (q 35), .int a1] D (tyL dT) (wX dT q rs g bh c1 c2 re pl cl) (QI D (tyL dT) (xA q) (wX dT q rs g bh c1 c2 re v.2 cl) v.1) (xA q) := by
  refine MG.mk (by decide +kernel) (Nat.le_of_ble_eq_true rfl) ?_
  intro p e s m below meth c hx hb hr hml hown hts hlk hK hP ls hl
  have hown : s.vm.findClass RX5 = some m.cls := hown
  have hS : va_S (xA q) s.heap s.heap [] := va_S.rf
  have hl : lv_has ls 2 [(0, .ref (q 35)), (1, .int a1)] := hl
  rw [f_X5_isPure] at h
  refine lv_aload_n hx hb dX5_isPure_0 rfl (lv_at hl 0 rfl) ?_
  obtain ⟨v1, hv1, h⟩ := dq h
  refine cVv (As := []) (rest := []) ⟨hx, hb, hml, hown, hts⟩ (c_X5_findSpans (dT := dT) (rs := rs) (g := g) (bh := bh) (c1 := c1) (c2 := c2) (re := re) (pl := pl) (cl := cl) hD hv1) (cwV 0 hts (good_V sub_z k_563 k_565 ks_12 k_7 k_566) rfl rfl rfl (by decide +kernel) (by decide)) (va_recv hK hP (ci := 4) (q0 := 35) rfl rfl) hK hP hS rfl hl.1 rfl (Nat.le_of_ble_eq_true rfl) dX5_isPure_1 (by decide) (fun H locs hP hS => ?_)
  refine lv_aload_n hx hb dX5_isPure_4 rfl (lv_at hl 0 rfl) ?_
  refine lv_iconst (v := 0) hx hb dX5_isPure_5 (by decide) ?_
  refine lv_iload_n hx hb dX5_isPure_6 rfl (lv_at hl 1 rfl) ?_
  obtain ⟨v2, hv2, h⟩ := dq h
  refine cVi (As := [.int (0 : Int32), .int a1]) (rest := []) ⟨hx, hb, hml, hown, hts⟩ (c_X5_goesOn (dT := dT) (rs := rs) (g := g) (bh := bh) (c1 := c1) (c2 := c2) (re := re) (pl := v1) (cl := cl) hD hv2) (cwV 2 hts (good_V sub_z k_594 k_596 ks_14 k_7 k_597) rfl rfl rfl (by decide +kernel) (by decide)) (va_recv hK hP (ci := 4) (q0 := 35) rfl rfl) hK hP hS rfl hl.1 rfl (Nat.le_of_ble_eq_true rfl) dX5_isPure_7 (by decide) (fun H locs hP hS => ?_)
  obtain ⟨k3, h⟩ := dg h
  obtain rfl := Option.some.inj h
  exact rZ hx hb hr hlk (isb_n k3) hK hP hS dX5_isPure_10

set_option maxRecDepth 100000 in
set_option maxHeartbeats 4000000 in
theorem c_J13_bitCount_95d88_x {l : Launch} {D : va_G} {dT : Nat → ClassId} {q : Nat → Nat} (hD : xD q) {rs : (Nat → tRow)} {g : tG_} {bh : tBH} {c1 : tC} {c2 : tC} {re : tRE} {pl : tPL} {cl : tCL} {a0 : Int64} {v : Int32} (h : f_J13_bitCount_95d88 a0 = some v) : MG l yJ13_bitCount_95d88 cJ13_bitCount_95d88 2 (some .int) 0 [.long a0] D (tyL dT) (wX dT q rs g bh c1 c2 re pl cl) (QI D (tyL dT) (xA q) (wX dT q rs g bh c1 c2 re pl cl) v) (xA q) := by
  refine MG.mk (by decide +kernel) (Nat.le_of_ble_eq_true rfl) ?_
  intro p e s m below meth c hx hb hr hml hown hts hlk hK hP ls hl
  have hown : s.vm.findClass RJ13 = some m.cls := hown
  have hS : va_S (xA q) s.heap s.heap [] := va_S.rf
  have hl : lv_has ls 2 [(0, .long a0)] := hl
  rw [f_J13_bitCount_95d88] at h
  refine lv_lload_n hx hb dJ13_bitCount_95d88_0 rfl (lv_at hl 0 rfl) ?_
  refine lv_lload_n hx hb dJ13_bitCount_95d88_1 rfl (lv_at hl 0 rfl) ?_
  refine lv_iconst (v := 1) hx hb dJ13_bitCount_95d88_2 (by decide) ?_
  refine lv_lushr (v := (a0.toUInt64 >>> ((1 : Int32).toInt64.toUInt64 &&& Int64.toUInt64 63)).toInt64) hx hb dJ13_bitCount_95d88_3 rfl ?_
  refine lv_ldc2 (v := 6148914691236517205) hx hb hown (hts _ (sub_z _ k_609)) dJ13_bitCount_95d88_4 ?_
  refine lv_land hx hb dJ13_bitCount_95d88_7 ?_
  refine lv_lsub hx hb dJ13_bitCount_95d88_8 ?_
  refine lv_lstore_n (lv' := [(0, .long (a0 - ((a0.toUInt64 >>> ((1 : Int32).toInt64.toUInt64 &&& Int64.toUInt64 63)).toInt64 &&& (6148914691236517205 : Int64))))]) hx hb dJ13_bitCount_95d88_9 rfl hl (by decide) rfl (fun ls hl => ?_)
  refine lv_lload_n hx hb dJ13_bitCount_95d88_10 rfl (lv_at hl 0 rfl) ?_
  refine lv_ldc2 (v := 3689348814741910323) hx hb hown (hts _ (sub_z _ k_610)) dJ13_bitCount_95d88_11 ?_
  refine lv_land hx hb dJ13_bitCount_95d88_14 ?_
  refine lv_lload_n hx hb dJ13_bitCount_95d88_15 rfl (lv_at hl 0 rfl) ?_
  refine lv_iconst (v := 2) hx hb dJ13_bitCount_95d88_16 (by decide) ?_
  refine lv_lushr (v := ((a0 - ((a0.toUInt64 >>> ((1 : Int32).toInt64.toUInt64 &&& Int64.toUInt64 63)).toInt64 &&& (6148914691236517205 : Int64))).toUInt64 >>> ((2 : Int32).toInt64.toUInt64 &&& Int64.toUInt64 63)).toInt64) hx hb dJ13_bitCount_95d88_17 rfl ?_
  refine lv_ldc2 (v := 3689348814741910323) hx hb hown (hts _ (sub_z _ k_610)) dJ13_bitCount_95d88_18 ?_
  refine lv_land hx hb dJ13_bitCount_95d88_21 ?_
  refine lv_ladd hx hb dJ13_bitCount_95d88_22 ?_
  refine lv_lstore_n (lv' := [(0, .long (((a0 - ((a0.toUInt64 >>> ((1 : Int32).toInt64.toUInt64 &&& Int64.toUInt64 63)).toInt64 &&& (6148914691236517205 : Int64))) &&& (3689348814741910323 : Int64)) + (((a0 - ((a0.toUInt64 >>> ((1 : Int32).toInt64.toUInt64 &&& Int64.toUInt64 63)).toInt64 &&& (6148914691236517205 : Int64))).toUInt64 >>> ((2 : Int32).toInt64.toUInt64 &&& Int64.toUInt64 63)).toInt64 &&& (3689348814741910323 : Int64))))]) hx hb dJ13_bitCount_95d88_23 rfl hl (by decide) rfl (fun ls hl => ?_)
  refine lv_lload_n hx hb dJ13_bitCount_95d88_24 rfl (lv_at hl 0 rfl) ?_
  refine lv_lload_n hx hb dJ13_bitCount_95d88_25 rfl (lv_at hl 0 rfl) ?_
  refine lv_iconst (v := 4) hx hb dJ13_bitCount_95d88_26 (by decide) ?_
  refine lv_lushr (v := ((((a0 - ((a0.toUInt64 >>> ((1 : Int32).toInt64.toUInt64 &&& Int64.toUInt64 63)).toInt64 &&& (6148914691236517205 : Int64))) &&& (3689348814741910323 : Int64)) + (((a0 - ((a0.toUInt64 >>> ((1 : Int32).toInt64.toUInt64 &&& Int64.toUInt64 63)).toInt64 &&& (6148914691236517205 : Int64))).toUInt64 >>> ((2 : Int32).toInt64.toUInt64 &&& Int64.toUInt64 63)).toInt64 &&& (3689348814741910323 : Int64))).toUInt64 >>> ((4 : Int32).toInt64.toUInt64 &&& Int64.toUInt64 63)).toInt64) hx hb dJ13_bitCount_95d88_27 rfl ?_
  refine lv_ladd hx hb dJ13_bitCount_95d88_28 ?_
  refine lv_ldc2 (v := 1085102592571150095) hx hb hown (hts _ (sub_z _ k_611)) dJ13_bitCount_95d88_29 ?_
  refine lv_land hx hb dJ13_bitCount_95d88_32 ?_
  refine lv_lstore_n (lv' := [(0, .long (((((a0 - ((a0.toUInt64 >>> ((1 : Int32).toInt64.toUInt64 &&& Int64.toUInt64 63)).toInt64 &&& (6148914691236517205 : Int64))) &&& (3689348814741910323 : Int64)) + (((a0 - ((a0.toUInt64 >>> ((1 : Int32).toInt64.toUInt64 &&& Int64.toUInt64 63)).toInt64 &&& (6148914691236517205 : Int64))).toUInt64 >>> ((2 : Int32).toInt64.toUInt64 &&& Int64.toUInt64 63)).toInt64 &&& (3689348814741910323 : Int64))) + ((((a0 - ((a0.toUInt64 >>> ((1 : Int32).toInt64.toUInt64 &&& Int64.toUInt64 63)).toInt64 &&& (6148914691236517205 : Int64))) &&& (3689348814741910323 : Int64)) + (((a0 - ((a0.toUInt64 >>> ((1 : Int32).toInt64.toUInt64 &&& Int64.toUInt64 63)).toInt64 &&& (6148914691236517205 : Int64))).toUInt64 >>> ((2 : Int32).toInt64.toUInt64 &&& Int64.toUInt64 63)).toInt64 &&& (3689348814741910323 : Int64))).toUInt64 >>> ((4 : Int32).toInt64.toUInt64 &&& Int64.toUInt64 63)).toInt64) &&& (1085102592571150095 : Int64)))]) hx hb dJ13_bitCount_95d88_33 rfl hl (by decide) rfl (fun ls hl => ?_)
  refine lv_lload_n hx hb dJ13_bitCount_95d88_34 rfl (lv_at hl 0 rfl) ?_
  refine lv_lload_n hx hb dJ13_bitCount_95d88_35 rfl (lv_at hl 0 rfl) ?_
  refine lv_bipush (v := 8) hx hb dJ13_bitCount_95d88_36 (by decide) ?_
  refine lv_lushr (v := ((((((a0 - ((a0.toUInt64 >>> ((1 : Int32).toInt64.toUInt64 &&& Int64.toUInt64 63)).toInt64 &&& (6148914691236517205 : Int64))) &&& (3689348814741910323 : Int64)) + (((a0 - ((a0.toUInt64 >>> ((1 : Int32).toInt64.toUInt64 &&& Int64.toUInt64 63)).toInt64 &&& (6148914691236517205 : Int64))).toUInt64 >>> ((2 : Int32).toInt64.toUInt64 &&& Int64.toUInt64 63)).toInt64 &&& (3689348814741910323 : Int64))) + ((((a0 - ((a0.toUInt64 >>> ((1 : Int32).toInt64.toUInt64 &&& Int64.toUInt64 63)).toInt64 &&& (6148914691236517205 : Int64))) &&& (3689348814741910323 : Int64)) + (((a0 - ((a0.toUInt64 >>> ((1 : Int32).toInt64.toUInt64 &&& Int64.toUInt64 63)).toInt64 &&& (6148914691236517205 : Int64))).toUInt64 >>> ((2 : Int32).toInt64.toUInt64 &&& Int64.toUInt64 63)).toInt64 &&& (3689348814741910323 : Int64))).toUInt64 >>> ((4 : Int32).toInt64.toUInt64 &&& Int64.toUInt64 63)).toInt64) &&& (1085102592571150095 : Int64)).toUInt64 >>> ((8 : Int32).toInt64.toUInt64 &&& Int64.toUInt64 63)).toInt64) hx hb dJ13_bitCount_95d88_38 rfl ?_
  refine lv_ladd hx hb dJ13_bitCount_95d88_39 ?_
  refine lv_lstore_n (lv' := [(0, .long ((((((a0 - ((a0.toUInt64 >>> ((1 : Int32).toInt64.toUInt64 &&& Int64.toUInt64 63)).toInt64 &&& (6148914691236517205 : Int64))) &&& (3689348814741910323 : Int64)) + (((a0 - ((a0.toUInt64 >>> ((1 : Int32).toInt64.toUInt64 &&& Int64.toUInt64 63)).toInt64 &&& (6148914691236517205 : Int64))).toUInt64 >>> ((2 : Int32).toInt64.toUInt64 &&& Int64.toUInt64 63)).toInt64 &&& (3689348814741910323 : Int64))) + ((((a0 - ((a0.toUInt64 >>> ((1 : Int32).toInt64.toUInt64 &&& Int64.toUInt64 63)).toInt64 &&& (6148914691236517205 : Int64))) &&& (3689348814741910323 : Int64)) + (((a0 - ((a0.toUInt64 >>> ((1 : Int32).toInt64.toUInt64 &&& Int64.toUInt64 63)).toInt64 &&& (6148914691236517205 : Int64))).toUInt64 >>> ((2 : Int32).toInt64.toUInt64 &&& Int64.toUInt64 63)).toInt64 &&& (3689348814741910323 : Int64))).toUInt64 >>> ((4 : Int32).toInt64.toUInt64 &&& Int64.toUInt64 63)).toInt64) &&& (1085102592571150095 : Int64)) + ((((((a0 - ((a0.toUInt64 >>> ((1 : Int32).toInt64.toUInt64 &&& Int64.toUInt64 63)).toInt64 &&& (6148914691236517205 : Int64))) &&& (3689348814741910323 : Int64)) + (((a0 - ((a0.toUInt64 >>> ((1 : Int32).toInt64.toUInt64 &&& Int64.toUInt64 63)).toInt64 &&& (6148914691236517205 : Int64))).toUInt64 >>> ((2 : Int32).toInt64.toUInt64 &&& Int64.toUInt64 63)).toInt64 &&& (3689348814741910323 : Int64))) + ((((a0 - ((a0.toUInt64 >>> ((1 : Int32).toInt64.toUInt64 &&& Int64.toUInt64 63)).toInt64 &&& (6148914691236517205 : Int64))) &&& (3689348814741910323 : Int64)) + (((a0 - ((a0.toUInt64 >>> ((1 : Int32).toInt64.toUInt64 &&& Int64.toUInt64 63)).toInt64 &&& (6148914691236517205 : Int64))).toUInt64 >>> ((2 : Int32).toInt64.toUInt64 &&& Int64.toUInt64 63)).toInt64 &&& (3689348814741910323 : Int64))).toUInt64 >>> ((4 : Int32).toInt64.toUInt64 &&& Int64.toUInt64 63)).toInt64) &&& (1085102592571150095 : Int64)).toUInt64 >>> ((8 : Int32).toInt64.toUInt64 &&& Int64.toUInt64 63)).toInt64))]) hx hb dJ13_bitCount_95d88_40 rfl hl (by decide) rfl (fun ls hl => ?_)
  refine lv_lload_n hx hb dJ13_bitCount_95d88_41 rfl (lv_at hl 0 rfl) ?_
  refine lv_lload_n hx hb dJ13_bitCount_95d88_42 rfl (lv_at hl 0 rfl) ?_
  refine lv_bipush (v := 16) hx hb dJ13_bitCount_95d88_43 (by decide) ?_
  refine lv_lushr (v := (((((((a0 - ((a0.toUInt64 >>> ((1 : Int32).toInt64.toUInt64 &&& Int64.toUInt64 63)).toInt64 &&& (6148914691236517205 : Int64))) &&& (3689348814741910323 : Int64)) + (((a0 - ((a0.toUInt64 >>> ((1 : Int32).toInt64.toUInt64 &&& Int64.toUInt64 63)).toInt64 &&& (6148914691236517205 : Int64))).toUInt64 >>> ((2 : Int32).toInt64.toUInt64 &&& Int64.toUInt64 63)).toInt64 &&& (3689348814741910323 : Int64))) + ((((a0 - ((a0.toUInt64 >>> ((1 : Int32).toInt64.toUInt64 &&& Int64.toUInt64 63)).toInt64 &&& (6148914691236517205 : Int64))) &&& (3689348814741910323 : Int64)) + (((a0 - ((a0.toUInt64 >>> ((1 : Int32).toInt64.toUInt64 &&& Int64.toUInt64 63)).toInt64 &&& (6148914691236517205 : Int64))).toUInt64 >>> ((2 : Int32).toInt64.toUInt64 &&& Int64.toUInt64 63)).toInt64 &&& (3689348814741910323 : Int64))).toUInt64 >>> ((4 : Int32).toInt64.toUInt64 &&& Int64.toUInt64 63)).toInt64) &&& (1085102592571150095 : Int64)) + ((((((a0 - ((a0.toUInt64 >>> ((1 : Int32).toInt64.toUInt64 &&& Int64.toUInt64 63)).toInt64 &&& (6148914691236517205 : Int64))) &&& (3689348814741910323 : Int64)) + (((a0 - ((a0.toUInt64 >>> ((1 : Int32).toInt64.toUInt64 &&& Int64.toUInt64 63)).toInt64 &&& (6148914691236517205 : Int64))).toUInt64 >>> ((2 : Int32).toInt64.toUInt64 &&& Int64.toUInt64 63)).toInt64 &&& (3689348814741910323 : Int64))) + ((((a0 - ((a0.toUInt64 >>> ((1 : Int32).toInt64.toUInt64 &&& Int64.toUInt64 63)).toInt64 &&& (6148914691236517205 : Int64))) &&& (3689348814741910323 : Int64)) + (((a0 - ((a0.toUInt64 >>> ((1 : Int32).toInt64.toUInt64 &&& Int64.toUInt64 63)).toInt64 &&& (6148914691236517205 : Int64))).toUInt64 >>> ((2 : Int32).toInt64.toUInt64 &&& Int64.toUInt64 63)).toInt64 &&& (3689348814741910323 : Int64))).toUInt64 >>> ((4 : Int32).toInt64.toUInt64 &&& Int64.toUInt64 63)).toInt64) &&& (1085102592571150095 : Int64)).toUInt64 >>> ((8 : Int32).toInt64.toUInt64 &&& Int64.toUInt64 63)).toInt64).toUInt64 >>> ((16 : Int32).toInt64.toUInt64 &&& Int64.toUInt64 63)).toInt64) hx hb dJ13_bitCount_95d88_45 rfl ?_
  refine lv_ladd hx hb dJ13_bitCount_95d88_46 ?_
  refine lv_lstore_n (lv' := [(0, .long (((((((a0 - ((a0.toUInt64 >>> ((1 : Int32).toInt64.toUInt64 &&& Int64.toUInt64 63)).toInt64 &&& (6148914691236517205 : Int64))) &&& (3689348814741910323 : Int64)) + (((a0 - ((a0.toUInt64 >>> ((1 : Int32).toInt64.toUInt64 &&& Int64.toUInt64 63)).toInt64 &&& (6148914691236517205 : Int64))).toUInt64 >>> ((2 : Int32).toInt64.toUInt64 &&& Int64.toUInt64 63)).toInt64 &&& (3689348814741910323 : Int64))) + ((((a0 - ((a0.toUInt64 >>> ((1 : Int32).toInt64.toUInt64 &&& Int64.toUInt64 63)).toInt64 &&& (6148914691236517205 : Int64))) &&& (3689348814741910323 : Int64)) + (((a0 - ((a0.toUInt64 >>> ((1 : Int32).toInt64.toUInt64 &&& Int64.toUInt64 63)).toInt64 &&& (6148914691236517205 : Int64))).toUInt64 >>> ((2 : Int32).toInt64.toUInt64 &&& Int64.toUInt64 63)).toInt64 &&& (3689348814741910323 : Int64))).toUInt64 >>> ((4 : Int32).toInt64.toUInt64 &&& Int64.toUInt64 63)).toInt64) &&& (1085102592571150095 : Int64)) + ((((((a0 - ((a0.toUInt64 >>> ((1 : Int32).toInt64.toUInt64 &&& Int64.toUInt64 63)).toInt64 &&& (6148914691236517205 : Int64))) &&& (3689348814741910323 : Int64)) + (((a0 - ((a0.toUInt64 >>> ((1 : Int32).toInt64.toUInt64 &&& Int64.toUInt64 63)).toInt64 &&& (6148914691236517205 : Int64))).toUInt64 >>> ((2 : Int32).toInt64.toUInt64 &&& Int64.toUInt64 63)).toInt64 &&& (3689348814741910323 : Int64))) + ((((a0 - ((a0.toUInt64 >>> ((1 : Int32).toInt64.toUInt64 &&& Int64.toUInt64 63)).toInt64 &&& (6148914691236517205 : Int64))) &&& (3689348814741910323 : Int64)) + (((a0 - ((a0.toUInt64 >>> ((1 : Int32).toInt64.toUInt64 &&& Int64.toUInt64 63)).toInt64 &&& (6148914691236517205 : Int64))).toUInt64 >>> ((2 : Int32).toInt64.toUInt64 &&& Int64.toUInt64 63)).toInt64 &&& (3689348814741910323 : Int64))).toUInt64 >>> ((4 : Int32).toInt64.toUInt64 &&& Int64.toUInt64 63)).toInt64) &&& (1085102592571150095 : Int64)).toUInt64 >>> ((8 : Int32).toInt64.toUInt64 &&& Int64.toUInt64 63)).toInt64) + (((((((a0 - ((a0.toUInt64 >>> ((1 : Int32).toInt64.toUInt64 &&& Int64.toUInt64 63)).toInt64 &&& (6148914691236517205 : Int64))) &&& (3689348814741910323 : Int64)) + (((a0 - ((a0.toUInt64 >>> ((1 : Int32).toInt64.toUInt64 &&& Int64.toUInt64 63)).toInt64 &&& (6148914691236517205 : Int64))).toUInt64 >>> ((2 : Int32).toInt64.toUInt64 &&& Int64.toUInt64 63)).toInt64 &&& (3689348814741910323 : Int64))) + ((((a0 - ((a0.toUInt64 >>> ((1 : Int32).toInt64.toUInt64 &&& Int64.toUInt64 63)).toInt64 &&& (6148914691236517205 : Int64))) &&& (3689348814741910323 : Int64)) + (((a0 - ((a0.toUInt64 >>> ((1 : Int32).toInt64.toUInt64 &&& Int64.toUInt64 63)).toInt64 &&& (6148914691236517205 : Int64))).toUInt64 >>> ((2 : Int32).toInt64.toUInt64 &&& Int64.toUInt64 63)).toInt64 &&& (3689348814741910323 : Int64))).toUInt64 >>> ((4 : Int32).toInt64.toUInt64 &&& Int64.toUInt64 63)).toInt64) &&& (1085102592571150095 : Int64)) + ((((((a0 - ((a0.toUInt64 >>> ((1 : Int32).toInt64.toUInt64 &&& Int64.toUInt64 63)).toInt64 &&& (6148914691236517205 : Int64))) &&& (3689348814741910323 : Int64)) + (((a0 - ((a0.toUInt64 >>> ((1 : Int32).toInt64.toUInt64 &&& Int64.toUInt64 63)).toInt64 &&& (6148914691236517205 : Int64))).toUInt64 >>> ((2 : Int32).toInt64.toUInt64 &&& Int64.toUInt64 63)).toInt64 &&& (3689348814741910323 : Int64))) + ((((a0 - ((a0.toUInt64 >>> ((1 : Int32).toInt64.toUInt64 &&& Int64.toUInt64 63)).toInt64 &&& (6148914691236517205 : Int64))) &&& (3689348814741910323 : Int64)) + (((a0 - ((a0.toUInt64 >>> ((1 : Int32).toInt64.toUInt64 &&& Int64.toUInt64 63)).toInt64 &&& (6148914691236517205 : Int64))).toUInt64 >>> ((2 : Int32).toInt64.toUInt64 &&& Int64.toUInt64 63)).toInt64 &&& (3689348814741910323 : Int64))).toUInt64 >>> ((4 : Int32).toInt64.toUInt64 &&& Int64.toUInt64 63)).toInt64) &&& (1085102592571150095 : Int64)).toUInt64 >>> ((8 : Int32).toInt64.toUInt64 &&& Int64.toUInt64 63)).toInt64).toUInt64 >>> ((16 : Int32).toInt64.toUInt64 &&& Int64.toUInt64 63)).toInt64))]) hx hb dJ13_bitCount_95d88_47 rfl hl (by decide) rfl (fun ls hl => ?_)
  refine lv_lload_n hx hb dJ13_bitCount_95d88_48 rfl (lv_at hl 0 rfl) ?_
  refine lv_lload_n hx hb dJ13_bitCount_95d88_49 rfl (lv_at hl 0 rfl) ?_
  refine lv_bipush (v := 32) hx hb dJ13_bitCount_95d88_50 (by decide) ?_
  refine lv_lushr (v := ((((((((a0 - ((a0.toUInt64 >>> ((1 : Int32).toInt64.toUInt64 &&& Int64.toUInt64 63)).toInt64 &&& (6148914691236517205 : Int64))) &&& (3689348814741910323 : Int64)) + (((a0 - ((a0.toUInt64 >>> ((1 : Int32).toInt64.toUInt64 &&& Int64.toUInt64 63)).toInt64 &&& (6148914691236517205 : Int64))).toUInt64 >>> ((2 : Int32).toInt64.toUInt64 &&& Int64.toUInt64 63)).toInt64 &&& (3689348814741910323 : Int64))) + ((((a0 - ((a0.toUInt64 >>> ((1 : Int32).toInt64.toUInt64 &&& Int64.toUInt64 63)).toInt64 &&& (6148914691236517205 : Int64))) &&& (3689348814741910323 : Int64)) + (((a0 - ((a0.toUInt64 >>> ((1 : Int32).toInt64.toUInt64 &&& Int64.toUInt64 63)).toInt64 &&& (6148914691236517205 : Int64))).toUInt64 >>> ((2 : Int32).toInt64.toUInt64 &&& Int64.toUInt64 63)).toInt64 &&& (3689348814741910323 : Int64))).toUInt64 >>> ((4 : Int32).toInt64.toUInt64 &&& Int64.toUInt64 63)).toInt64) &&& (1085102592571150095 : Int64)) + ((((((a0 - ((a0.toUInt64 >>> ((1 : Int32).toInt64.toUInt64 &&& Int64.toUInt64 63)).toInt64 &&& (6148914691236517205 : Int64))) &&& (3689348814741910323 : Int64)) + (((a0 - ((a0.toUInt64 >>> ((1 : Int32).toInt64.toUInt64 &&& Int64.toUInt64 63)).toInt64 &&& (6148914691236517205 : Int64))).toUInt64 >>> ((2 : Int32).toInt64.toUInt64 &&& Int64.toUInt64 63)).toInt64 &&& (3689348814741910323 : Int64))) + ((((a0 - ((a0.toUInt64 >>> ((1 : Int32).toInt64.toUInt64 &&& Int64.toUInt64 63)).toInt64 &&& (6148914691236517205 : Int64))) &&& (3689348814741910323 : Int64)) + (((a0 - ((a0.toUInt64 >>> ((1 : Int32).toInt64.toUInt64 &&& Int64.toUInt64 63)).toInt64 &&& (6148914691236517205 : Int64))).toUInt64 >>> ((2 : Int32).toInt64.toUInt64 &&& Int64.toUInt64 63)).toInt64 &&& (3689348814741910323 : Int64))).toUInt64 >>> ((4 : Int32).toInt64.toUInt64 &&& Int64.toUInt64 63)).toInt64) &&& (1085102592571150095 : Int64)).toUInt64 >>> ((8 : Int32).toInt64.toUInt64 &&& Int64.toUInt64 63)).toInt64) + (((((((a0 - ((a0.toUInt64 >>> ((1 : Int32).toInt64.toUInt64 &&& Int64.toUInt64 63)).toInt64 &&& (6148914691236517205 : Int64))) &&& (3689348814741910323 : Int64)) + (((a0 - ((a0.toUInt64 >>> ((1 : Int32).toInt64.toUInt64 &&& Int64.toUInt64 63)).toInt64 &&& (6148914691236517205 : Int64))).toUInt64 >>> ((2 : Int32).toInt64.toUInt64 &&& Int64.toUInt64 63)).toInt64 &&& (3689348814741910323 : Int64))) + ((((a0 - ((a0.toUInt64 >>> ((1 : Int32).toInt64.toUInt64 &&& Int64.toUInt64 63)).toInt64 &&& (6148914691236517205 : Int64))) &&& (3689348814741910323 : Int64)) + (((a0 - ((a0.toUInt64 >>> ((1 : Int32).toInt64.toUInt64 &&& Int64.toUInt64 63)).toInt64 &&& (6148914691236517205 : Int64))).toUInt64 >>> ((2 : Int32).toInt64.toUInt64 &&& Int64.toUInt64 63)).toInt64 &&& (3689348814741910323 : Int64))).toUInt64 >>> ((4 : Int32).toInt64.toUInt64 &&& Int64.toUInt64 63)).toInt64) &&& (1085102592571150095 : Int64)) + ((((((a0 - ((a0.toUInt64 >>> ((1 : Int32).toInt64.toUInt64 &&& Int64.toUInt64 63)).toInt64 &&& (6148914691236517205 : Int64))) &&& (3689348814741910323 : Int64)) + (((a0 - ((a0.toUInt64 >>> ((1 : Int32).toInt64.toUInt64 &&& Int64.toUInt64 63)).toInt64 &&& (6148914691236517205 : Int64))).toUInt64 >>> ((2 : Int32).toInt64.toUInt64 &&& Int64.toUInt64 63)).toInt64 &&& (3689348814741910323 : Int64))) + ((((a0 - ((a0.toUInt64 >>> ((1 : Int32).toInt64.toUInt64 &&& Int64.toUInt64 63)).toInt64 &&& (6148914691236517205 : Int64))) &&& (3689348814741910323 : Int64)) + (((a0 - ((a0.toUInt64 >>> ((1 : Int32).toInt64.toUInt64 &&& Int64.toUInt64 63)).toInt64 &&& (6148914691236517205 : Int64))).toUInt64 >>> ((2 : Int32).toInt64.toUInt64 &&& Int64.toUInt64 63)).toInt64 &&& (3689348814741910323 : Int64))).toUInt64 >>> ((4 : Int32).toInt64.toUInt64 &&& Int64.toUInt64 63)).toInt64) &&& (1085102592571150095 : Int64)).toUInt64 >>> ((8 : Int32).toInt64.toUInt64 &&& Int64.toUInt64 63)).toInt64).toUInt64 >>> ((16 : Int32).toInt64.toUInt64 &&& Int64.toUInt64 63)).toInt64).toUInt64 >>> ((32 : Int32).toInt64.toUInt64 &&& Int64.toUInt64 63)).toInt64) hx hb dJ13_bitCount_95d88_52 rfl ?_
  refine lv_ladd hx hb dJ13_bitCount_95d88_53 ?_
  refine lv_lstore_n (lv' := [(0, .long ((((((((a0 - ((a0.toUInt64 >>> ((1 : Int32).toInt64.toUInt64 &&& Int64.toUInt64 63)).toInt64 &&& (6148914691236517205 : Int64))) &&& (3689348814741910323 : Int64)) + (((a0 - ((a0.toUInt64 >>> ((1 : Int32).toInt64.toUInt64 &&& Int64.toUInt64 63)).toInt64 &&& (6148914691236517205 : Int64))).toUInt64 >>> ((2 : Int32).toInt64.toUInt64 &&& Int64.toUInt64 63)).toInt64 &&& (3689348814741910323 : Int64))) + ((((a0 - ((a0.toUInt64 >>> ((1 : Int32).toInt64.toUInt64 &&& Int64.toUInt64 63)).toInt64 &&& (6148914691236517205 : Int64))) &&& (3689348814741910323 : Int64)) + (((a0 - ((a0.toUInt64 >>> ((1 : Int32).toInt64.toUInt64 &&& Int64.toUInt64 63)).toInt64 &&& (6148914691236517205 : Int64))).toUInt64 >>> ((2 : Int32).toInt64.toUInt64 &&& Int64.toUInt64 63)).toInt64 &&& (3689348814741910323 : Int64))).toUInt64 >>> ((4 : Int32).toInt64.toUInt64 &&& Int64.toUInt64 63)).toInt64) &&& (1085102592571150095 : Int64)) + ((((((a0 - ((a0.toUInt64 >>> ((1 : Int32).toInt64.toUInt64 &&& Int64.toUInt64 63)).toInt64 &&& (6148914691236517205 : Int64))) &&& (3689348814741910323 : Int64)) + (((a0 - ((a0.toUInt64 >>> ((1 : Int32).toInt64.toUInt64 &&& Int64.toUInt64 63)).toInt64 &&& (6148914691236517205 : Int64))).toUInt64 >>> ((2 : Int32).toInt64.toUInt64 &&& Int64.toUInt64 63)).toInt64 &&& (3689348814741910323 : Int64))) + ((((a0 - ((a0.toUInt64 >>> ((1 : Int32).toInt64.toUInt64 &&& Int64.toUInt64 63)).toInt64 &&& (6148914691236517205 : Int64))) &&& (3689348814741910323 : Int64)) + (((a0 - ((a0.toUInt64 >>> ((1 : Int32).toInt64.toUInt64 &&& Int64.toUInt64 63)).toInt64 &&& (6148914691236517205 : Int64))).toUInt64 >>> ((2 : Int32).toInt64.toUInt64 &&& Int64.toUInt64 63)).toInt64 &&& (3689348814741910323 : Int64))).toUInt64 >>> ((4 : Int32).toInt64.toUInt64 &&& Int64.toUInt64 63)).toInt64) &&& (1085102592571150095 : Int64)).toUInt64 >>> ((8 : Int32).toInt64.toUInt64 &&& Int64.toUInt64 63)).toInt64) + (((((((a0 - ((a0.toUInt64 >>> ((1 : Int32).toInt64.toUInt64 &&& Int64.toUInt64 63)).toInt64 &&& (6148914691236517205 : Int64))) &&& (3689348814741910323 : Int64)) + (((a0 - ((a0.toUInt64 >>> ((1 : Int32).toInt64.toUInt64 &&& Int64.toUInt64 63)).toInt64 &&& (6148914691236517205 : Int64))).toUInt64 >>> ((2 : Int32).toInt64.toUInt64 &&& Int64.toUInt64 63)).toInt64 &&& (3689348814741910323 : Int64))) + ((((a0 - ((a0.toUInt64 >>> ((1 : Int32).toInt64.toUInt64 &&& Int64.toUInt64 63)).toInt64 &&& (6148914691236517205 : Int64))) &&& (3689348814741910323 : Int64)) + (((a0 - ((a0.toUInt64 >>> ((1 : Int32).toInt64.toUInt64 &&& Int64.toUInt64 63)).toInt64 &&& (6148914691236517205 : Int64))).toUInt64 >>> ((2 : Int32).toInt64.toUInt64 &&& Int64.toUInt64 63)).toInt64 &&& (3689348814741910323 : Int64))).toUInt64 >>> ((4 : Int32).toInt64.toUInt64 &&& Int64.toUInt64 63)).toInt64) &&& (1085102592571150095 : Int64)) + ((((((a0 - ((a0.toUInt64 >>> ((1 : Int32).toInt64.toUInt64 &&& Int64.toUInt64 63)).toInt64 &&& (6148914691236517205 : Int64))) &&& (3689348814741910323 : Int64)) + (((a0 - ((a0.toUInt64 >>> ((1 : Int32).toInt64.toUInt64 &&& Int64.toUInt64 63)).toInt64 &&& (6148914691236517205 : Int64))).toUInt64 >>> ((2 : Int32).toInt64.toUInt64 &&& Int64.toUInt64 63)).toInt64 &&& (3689348814741910323 : Int64))) + ((((a0 - ((a0.toUInt64 >>> ((1 : Int32).toInt64.toUInt64 &&& Int64.toUInt64 63)).toInt64 &&& (6148914691236517205 : Int64))) &&& (3689348814741910323 : Int64)) + (((a0 - ((a0.toUInt64 >>> ((1 : Int32).toInt64.toUInt64 &&& Int64.toUInt64 63)).toInt64 &&& (6148914691236517205 : Int64))).toUInt64 >>> ((2 : Int32).toInt64.toUInt64 &&& Int64.toUInt64 63)).toInt64 &&& (3689348814741910323 : Int64))).toUInt64 >>> ((4 : Int32).toInt64.toUInt64 &&& Int64.toUInt64 63)).toInt64) &&& (1085102592571150095 : Int64)).toUInt64 >>> ((8 : Int32).toInt64.toUInt64 &&& Int64.toUInt64 63)).toInt64).toUInt64 >>> ((16 : Int32).toInt64.toUInt64 &&& Int64.toUInt64 63)).toInt64) + ((((((((a0 - ((a0.toUInt64 >>> ((1 : Int32).toInt64.toUInt64 &&& Int64.toUInt64 63)).toInt64 &&& (6148914691236517205 : Int64))) &&& (3689348814741910323 : Int64)) + (((a0 - ((a0.toUInt64 >>> ((1 : Int32).toInt64.toUInt64 &&& Int64.toUInt64 63)).toInt64 &&& (6148914691236517205 : Int64))).toUInt64 >>> ((2 : Int32).toInt64.toUInt64 &&& Int64.toUInt64 63)).toInt64 &&& (3689348814741910323 : Int64))) + ((((a0 - ((a0.toUInt64 >>> ((1 : Int32).toInt64.toUInt64 &&& Int64.toUInt64 63)).toInt64 &&& (6148914691236517205 : Int64))) &&& (3689348814741910323 : Int64)) + (((a0 - ((a0.toUInt64 >>> ((1 : Int32).toInt64.toUInt64 &&& Int64.toUInt64 63)).toInt64 &&& (6148914691236517205 : Int64))).toUInt64 >>> ((2 : Int32).toInt64.toUInt64 &&& Int64.toUInt64 63)).toInt64 &&& (3689348814741910323 : Int64))).toUInt64 >>> ((4 : Int32).toInt64.toUInt64 &&& Int64.toUInt64 63)).toInt64) &&& (1085102592571150095 : Int64)) + ((((((a0 - ((a0.toUInt64 >>> ((1 : Int32).toInt64.toUInt64 &&& Int64.toUInt64 63)).toInt64 &&& (6148914691236517205 : Int64))) &&& (3689348814741910323 : Int64)) + (((a0 - ((a0.toUInt64 >>> ((1 : Int32).toInt64.toUInt64 &&& Int64.toUInt64 63)).toInt64 &&& (6148914691236517205 : Int64))).toUInt64 >>> ((2 : Int32).toInt64.toUInt64 &&& Int64.toUInt64 63)).toInt64 &&& (3689348814741910323 : Int64))) + ((((a0 - ((a0.toUInt64 >>> ((1 : Int32).toInt64.toUInt64 &&& Int64.toUInt64 63)).toInt64 &&& (6148914691236517205 : Int64))) &&& (3689348814741910323 : Int64)) + (((a0 - ((a0.toUInt64 >>> ((1 : Int32).toInt64.toUInt64 &&& Int64.toUInt64 63)).toInt64 &&& (6148914691236517205 : Int64))).toUInt64 >>> ((2 : Int32).toInt64.toUInt64 &&& Int64.toUInt64 63)).toInt64 &&& (3689348814741910323 : Int64))).toUInt64 >>> ((4 : Int32).toInt64.toUInt64 &&& Int64.toUInt64 63)).toInt64) &&& (1085102592571150095 : Int64)).toUInt64 >>> ((8 : Int32).toInt64.toUInt64 &&& Int64.toUInt64 63)).toInt64) + (((((((a0 - ((a0.toUInt64 >>> ((1 : Int32).toInt64.toUInt64 &&& Int64.toUInt64 63)).toInt64 &&& (6148914691236517205 : Int64))) &&& (3689348814741910323 : Int64)) + (((a0 - ((a0.toUInt64 >>> ((1 : Int32).toInt64.toUInt64 &&& Int64.toUInt64 63)).toInt64 &&& (6148914691236517205 : Int64))).toUInt64 >>> ((2 : Int32).toInt64.toUInt64 &&& Int64.toUInt64 63)).toInt64 &&& (3689348814741910323 : Int64))) + ((((a0 - ((a0.toUInt64 >>> ((1 : Int32).toInt64.toUInt64 &&& Int64.toUInt64 63)).toInt64 &&& (6148914691236517205 : Int64))) &&& (3689348814741910323 : Int64)) + (((a0 - ((a0.toUInt64 >>> ((1 : Int32).toInt64.toUInt64 &&& Int64.toUInt64 63)).toInt64 &&& (6148914691236517205 : Int64))).toUInt64 >>> ((2 : Int32).toInt64.toUInt64 &&& Int64.toUInt64 63)).toInt64 &&& (3689348814741910323 : Int64))).toUInt64 >>> ((4 : Int32).toInt64.toUInt64 &&& Int64.toUInt64 63)).toInt64) &&& (1085102592571150095 : Int64)) + ((((((a0 - ((a0.toUInt64 >>> ((1 : Int32).toInt64.toUInt64 &&& Int64.toUInt64 63)).toInt64 &&& (6148914691236517205 : Int64))) &&& (3689348814741910323 : Int64)) + (((a0 - ((a0.toUInt64 >>> ((1 : Int32).toInt64.toUInt64 &&& Int64.toUInt64 63)).toInt64 &&& (6148914691236517205 : Int64))).toUInt64 >>> ((2 : Int32).toInt64.toUInt64 &&& Int64.toUInt64 63)).toInt64 &&& (3689348814741910323 : Int64))) + ((((a0 - ((a0.toUInt64 >>> ((1 : Int32).toInt64.toUInt64 &&& Int64.toUInt64 63)).toInt64 &&& (6148914691236517205 : Int64))) &&& (3689348814741910323 : Int64)) + (((a0 - ((a0.toUInt64 >>> ((1 : Int32).toInt64.toUInt64 &&& Int64.toUInt64 63)).toInt64 &&& (6148914691236517205 : Int64))).toUInt64 >>> ((2 : Int32).toInt64.toUInt64 &&& Int64.toUInt64 63)).toInt64 &&& (3689348814741910323 : Int64))).toUInt64 >>> ((4 : Int32).toInt64.toUInt64 &&& Int64.toUInt64 63)).toInt64) &&& (1085102592571150095 : Int64)).toUInt64 >>> ((8 : Int32).toInt64.toUInt64 &&& Int64.toUInt64 63)).toInt64).toUInt64 >>> ((16 : Int32).toInt64.toUInt64 &&& Int64.toUInt64 63)).toInt64).toUInt64 >>> ((32 : Int32).toInt64.toUInt64 &&& Int64.toUInt64 63)).toInt64))]) hx hb dJ13_bitCount_95d88_54 rfl hl (by decide) rfl (fun ls hl => ?_)
  refine lv_lload_n hx hb dJ13_bitCount_95d88_55 rfl (lv_at hl 0 rfl) ?_
  refine lv_l2i (v := ((((((((a0 - ((a0.toUInt64 >>> ((1 : Int32).toInt64.toUInt64 &&& Int64.toUInt64 63)).toInt64 &&& (6148914691236517205 : Int64))) &&& (3689348814741910323 : Int64)) + (((a0 - ((a0.toUInt64 >>> ((1 : Int32).toInt64.toUInt64 &&& Int64.toUInt64 63)).toInt64 &&& (6148914691236517205 : Int64))).toUInt64 >>> ((2 : Int32).toInt64.toUInt64 &&& Int64.toUInt64 63)).toInt64 &&& (3689348814741910323 : Int64))) + ((((a0 - ((a0.toUInt64 >>> ((1 : Int32).toInt64.toUInt64 &&& Int64.toUInt64 63)).toInt64 &&& (6148914691236517205 : Int64))) &&& (3689348814741910323 : Int64)) + (((a0 - ((a0.toUInt64 >>> ((1 : Int32).toInt64.toUInt64 &&& Int64.toUInt64 63)).toInt64 &&& (6148914691236517205 : Int64))).toUInt64 >>> ((2 : Int32).toInt64.toUInt64 &&& Int64.toUInt64 63)).toInt64 &&& (3689348814741910323 : Int64))).toUInt64 >>> ((4 : Int32).toInt64.toUInt64 &&& Int64.toUInt64 63)).toInt64) &&& (1085102592571150095 : Int64)) + ((((((a0 - ((a0.toUInt64 >>> ((1 : Int32).toInt64.toUInt64 &&& Int64.toUInt64 63)).toInt64 &&& (6148914691236517205 : Int64))) &&& (3689348814741910323 : Int64)) + (((a0 - ((a0.toUInt64 >>> ((1 : Int32).toInt64.toUInt64 &&& Int64.toUInt64 63)).toInt64 &&& (6148914691236517205 : Int64))).toUInt64 >>> ((2 : Int32).toInt64.toUInt64 &&& Int64.toUInt64 63)).toInt64 &&& (3689348814741910323 : Int64))) + ((((a0 - ((a0.toUInt64 >>> ((1 : Int32).toInt64.toUInt64 &&& Int64.toUInt64 63)).toInt64 &&& (6148914691236517205 : Int64))) &&& (3689348814741910323 : Int64)) + (((a0 - ((a0.toUInt64 >>> ((1 : Int32).toInt64.toUInt64 &&& Int64.toUInt64 63)).toInt64 &&& (6148914691236517205 : Int64))).toUInt64 >>> ((2 : Int32).toInt64.toUInt64 &&& Int64.toUInt64 63)).toInt64 &&& (3689348814741910323 : Int64))).toUInt64 >>> ((4 : Int32).toInt64.toUInt64 &&& Int64.toUInt64 63)).toInt64) &&& (1085102592571150095 : Int64)).toUInt64 >>> ((8 : Int32).toInt64.toUInt64 &&& Int64.toUInt64 63)).toInt64) + (((((((a0 - ((a0.toUInt64 >>> ((1 : Int32).toInt64.toUInt64 &&& Int64.toUInt64 63)).toInt64 &&& (6148914691236517205 : Int64))) &&& (3689348814741910323 : Int64)) + (((a0 - ((a0.toUInt64 >>> ((1 : Int32).toInt64.toUInt64 &&& Int64.toUInt64 63)).toInt64 &&& (6148914691236517205 : Int64))).toUInt64 >>> ((2 : Int32).toInt64.toUInt64 &&& Int64.toUInt64 63)).toInt64 &&& (3689348814741910323 : Int64))) + ((((a0 - ((a0.toUInt64 >>> ((1 : Int32).toInt64.toUInt64 &&& Int64.toUInt64 63)).toInt64 &&& (6148914691236517205 : Int64))) &&& (3689348814741910323 : Int64)) + (((a0 - ((a0.toUInt64 >>> ((1 : Int32).toInt64.toUInt64 &&& Int64.toUInt64 63)).toInt64 &&& (6148914691236517205 : Int64))).toUInt64 >>> ((2 : Int32).toInt64.toUInt64 &&& Int64.toUInt64 63)).toInt64 &&& (3689348814741910323 : Int64))).toUInt64 >>> ((4 : Int32).toInt64.toUInt64 &&& Int64.toUInt64 63)).toInt64) &&& (1085102592571150095 : Int64)) + ((((((a0 - ((a0.toUInt64 >>> ((1 : Int32).toInt64.toUInt64 &&& Int64.toUInt64 63)).toInt64 &&& (6148914691236517205 : Int64))) &&& (3689348814741910323 : Int64)) + (((a0 - ((a0.toUInt64 >>> ((1 : Int32).toInt64.toUInt64 &&& Int64.toUInt64 63)).toInt64 &&& (6148914691236517205 : Int64))).toUInt64 >>> ((2 : Int32).toInt64.toUInt64 &&& Int64.toUInt64 63)).toInt64 &&& (3689348814741910323 : Int64))) + ((((a0 - ((a0.toUInt64 >>> ((1 : Int32).toInt64.toUInt64 &&& Int64.toUInt64 63)).toInt64 &&& (6148914691236517205 : Int64))) &&& (3689348814741910323 : Int64)) + (((a0 - ((a0.toUInt64 >>> ((1 : Int32).toInt64.toUInt64 &&& Int64.toUInt64 63)).toInt64 &&& (6148914691236517205 : Int64))).toUInt64 >>> ((2 : Int32).toInt64.toUInt64 &&& Int64.toUInt64 63)).toInt64 &&& (3689348814741910323 : Int64))).toUInt64 >>> ((4 : Int32).toInt64.toUInt64 &&& Int64.toUInt64 63)).toInt64) &&& (1085102592571150095 : Int64)).toUInt64 >>> ((8 : Int32).toInt64.toUInt64 &&& Int64.toUInt64 63)).toInt64).toUInt64 >>> ((16 : Int32).toInt64.toUInt64 &&& Int64.toUInt64 63)).toInt64) + ((((((((a0 - ((a0.toUInt64 >>> ((1 : Int32).toInt64.toUInt64 &&& Int64.toUInt64 63)).toInt64 &&& (6148914691236517205 : Int64))) &&& (3689348814741910323 : Int64)) + (((a0 - ((a0.toUInt64 >>> ((1 : Int32).toInt64.toUInt64 &&& Int64.toUInt64 63)).toInt64 &&& (6148914691236517205 : Int64))).toUInt64 >>> ((2 : Int32).toInt64.toUInt64 &&& Int64.toUInt64 63)).toInt64 &&& (3689348814741910323 : Int64))) + ((((a0 - ((a0.toUInt64 >>> ((1 : Int32).toInt64.toUInt64 &&& Int64.toUInt64 63)).toInt64 &&& (6148914691236517205 : Int64))) &&& (3689348814741910323 : Int64)) + (((a0 - ((a0.toUInt64 >>> ((1 : Int32).toInt64.toUInt64 &&& Int64.toUInt64 63)).toInt64 &&& (6148914691236517205 : Int64))).toUInt64 >>> ((2 : Int32).toInt64.toUInt64 &&& Int64.toUInt64 63)).toInt64 &&& (3689348814741910323 : Int64))).toUInt64 >>> ((4 : Int32).toInt64.toUInt64 &&& Int64.toUInt64 63)).toInt64) &&& (1085102592571150095 : Int64)) + ((((((a0 - ((a0.toUInt64 >>> ((1 : Int32).toInt64.toUInt64 &&& Int64.toUInt64 63)).toInt64 &&& (6148914691236517205 : Int64))) &&& (3689348814741910323 : Int64)) + (((a0 - ((a0.toUInt64 >>> ((1 : Int32).toInt64.toUInt64 &&& Int64.toUInt64 63)).toInt64 &&& (6148914691236517205 : Int64))).toUInt64 >>> ((2 : Int32).toInt64.toUInt64 &&& Int64.toUInt64 63)).toInt64 &&& (3689348814741910323 : Int64))) + ((((a0 - ((a0.toUInt64 >>> ((1 : Int32).toInt64.toUInt64 &&& Int64.toUInt64 63)).toInt64 &&& (6148914691236517205 : Int64))) &&& (3689348814741910323 : Int64)) + (((a0 - ((a0.toUInt64 >>> ((1 : Int32).toInt64.toUInt64 &&& Int64.toUInt64 63)).toInt64 &&& (6148914691236517205 : Int64))).toUInt64 >>> ((2 : Int32).toInt64.toUInt64 &&& Int64.toUInt64 63)).toInt64 &&& (3689348814741910323 : Int64))).toUInt64 >>> ((4 : Int32).toInt64.toUInt64 &&& Int64.toUInt64 63)).toInt64) &&& (1085102592571150095 : Int64)).toUInt64 >>> ((8 : Int32).toInt64.toUInt64 &&& Int64.toUInt64 63)).toInt64) + (((((((a0 - ((a0.toUInt64 >>> ((1 : Int32).toInt64.toUInt64 &&& Int64.toUInt64 63)).toInt64 &&& (6148914691236517205 : Int64))) &&& (3689348814741910323 : Int64)) + (((a0 - ((a0.toUInt64 >>> ((1 : Int32).toInt64.toUInt64 &&& Int64.toUInt64 63)).toInt64 &&& (6148914691236517205 : Int64))).toUInt64 >>> ((2 : Int32).toInt64.toUInt64 &&& Int64.toUInt64 63)).toInt64 &&& (3689348814741910323 : Int64))) + ((((a0 - ((a0.toUInt64 >>> ((1 : Int32).toInt64.toUInt64 &&& Int64.toUInt64 63)).toInt64 &&& (6148914691236517205 : Int64))) &&& (3689348814741910323 : Int64)) + (((a0 - ((a0.toUInt64 >>> ((1 : Int32).toInt64.toUInt64 &&& Int64.toUInt64 63)).toInt64 &&& (6148914691236517205 : Int64))).toUInt64 >>> ((2 : Int32).toInt64.toUInt64 &&& Int64.toUInt64 63)).toInt64 &&& (3689348814741910323 : Int64))).toUInt64 >>> ((4 : Int32).toInt64.toUInt64 &&& Int64.toUInt64 63)).toInt64) &&& (1085102592571150095 : Int64)) + ((((((a0 - ((a0.toUInt64 >>> ((1 : Int32).toInt64.toUInt64 &&& Int64.toUInt64 63)).toInt64 &&& (6148914691236517205 : Int64))) &&& (3689348814741910323 : Int64)) + (((a0 - ((a0.toUInt64 >>> ((1 : Int32).toInt64.toUInt64 &&& Int64.toUInt64 63)).toInt64 &&& (6148914691236517205 : Int64))).toUInt64 >>> ((2 : Int32).toInt64.toUInt64 &&& Int64.toUInt64 63)).toInt64 &&& (3689348814741910323 : Int64))) + ((((a0 - ((a0.toUInt64 >>> ((1 : Int32).toInt64.toUInt64 &&& Int64.toUInt64 63)).toInt64 &&& (6148914691236517205 : Int64))) &&& (3689348814741910323 : Int64)) + (((a0 - ((a0.toUInt64 >>> ((1 : Int32).toInt64.toUInt64 &&& Int64.toUInt64 63)).toInt64 &&& (6148914691236517205 : Int64))).toUInt64 >>> ((2 : Int32).toInt64.toUInt64 &&& Int64.toUInt64 63)).toInt64 &&& (3689348814741910323 : Int64))).toUInt64 >>> ((4 : Int32).toInt64.toUInt64 &&& Int64.toUInt64 63)).toInt64) &&& (1085102592571150095 : Int64)).toUInt64 >>> ((8 : Int32).toInt64.toUInt64 &&& Int64.toUInt64 63)).toInt64).toUInt64 >>> ((16 : Int32).toInt64.toUInt64 &&& Int64.toUInt64 63)).toInt64).toUInt64 >>> ((32 : Int32).toInt64.toUInt64 &&& Int64.toUInt64 63)).toInt64).toInt32) hx hb dJ13_bitCount_95d88_56 rfl ?_
  refine lv_bipush (v := 127) hx hb dJ13_bitCount_95d88_57 (by decide) ?_
  refine lv_iand hx hb dJ13_bitCount_95d88_59 ?_
  obtain rfl := Option.some.inj h
  exact rI hx hb hr hlk hK hP hS dJ13_bitCount_95d88_60

set_option maxRecDepth 100000 in
set_option maxHeartbeats 4000000 in
theorem c_X5_pureUpTo {l : Launch} {D : va_G} {dT : Nat → ClassId} {q : Nat → Nat} (hD : xD q) {rs : (Nat → tRow)} {g : tG_} {bh : tBH} {c1 : tC} {c2 : tC} {re : tRE} {pl : tPL} {cl : tCL} {a1 : Int32} {v : Int32 × tPL} (h : f_X5_pureUpTo re pl a1 = some v) : MG l yX5_pureUpTo cX5_pureUpTo 4 (some .int) 3 [.ref (q 35), .int a1] D (tyL dT) (wX dT q rs g bh c1 c2 re pl cl) (QI D (tyL dT) (xA q) (wX dT q rs g bh c1 c2 re v.2 cl) v.1) (xA q) := by
  refine MG.mk (by decide +kernel) (Nat.le_of_ble_eq_true rfl) ?_
  intro p e s m below meth c hx hb hr hml hown hts hlk hK hP ls hl
  have hown : s.vm.findClass RX5 = some m.cls := hown
  have hS : va_S (xA q) s.heap s.heap [] := va_S.rf
  have hl : lv_has ls 4 [(0, .ref (q 35)), (1, .int a1)] := hl
  rw [f_X5_pureUpTo] at h
  refine lv_aload_n hx hb dX5_pureUpTo_0 rfl (lv_at hl 0 rfl) ?_
  obtain ⟨v1, hv1, h⟩ := dq h
  refine cVv (As := []) (rest := []) ⟨hx, hb, hml, hown, hts⟩ (c_X5_findSpans (dT := dT) (rs := rs) (g := g) (bh := bh) (c1 := c1) (c2 := c2) (re := re) (pl := pl) (cl := cl) hD hv1) (cwV 0 hts (good_V sub_z k_563 k_565 ks_12 k_7 k_566) rfl rfl rfl (by decide +kernel) (by decide)) (va_recv hK hP (ci := 4) (q0 := 35) rfl rfl) hK hP hS rfl hl.1 rfl (Nat.le_of_ble_eq_true rfl) dX5_pureUpTo_1 (by decide) (fun H locs hP hS => ?_)
  refine lv_lconst (v := 1) hx hb dX5_pureUpTo_4 (by decide) ?_
  refine lv_iload_n hx hb dX5_pureUpTo_5 rfl (lv_at hl 1 rfl) ?_
  refine lv_iconst (v := 1) hx hb dX5_pureUpTo_6 (by decide) ?_
  refine lv_iadd hx hb dX5_pureUpTo_7 ?_
  refine lv_lshl (v := ((1 : Int64) <<< ((a1 + (1 : Int32)).toInt64 &&& 63))) hx hb dX5_pureUpTo_8 rfl ?_
  refine lv_lconst (v := 1) hx hb dX5_pureUpTo_9 (by decide) ?_
  refine lv_lsub hx hb dX5_pureUpTo_10 ?_
  refine lv_lstore_n (lv' := [(2, .long (((1 : Int64) <<< ((a1 + (1 : Int32)).toInt64 &&& 63)) - (1 : Int64))), (0, .ref (q 35)), (1, .int a1)]) hx hb dX5_pureUpTo_11 rfl hl (by decide) rfl (fun ls hl => ?_)
  refine lv_aload_n hx hb dX5_pureUpTo_12 rfl (lv_at hl 1 rfl) ?_
  refine va_get (D := D) (ci := 4) (v := .ref (q 36)) (C := RX5) (T := TX5) (N := 8) hx hb hts (fun w h => sub_z _ (inX5 w h)) hown hK hP 35 rfl rfl 1 (by decide) (hts _ (sub_z _ k_174)) (fun _ h => h) rfl dX5_pureUpTo_13 ?_
  refine lv_iconst (v := 0) hx hb dX5_pureUpTo_16 (by decide) ?_
  obtain ⟨k2, h⟩ := dg h
  refine va_lald (f := v1.1) hx hb hK hP 36 1 rfl rfl (inb_vp k2) dX5_pureUpTo_17 ?_
  refine lv_lload_n hx hb dX5_pureUpTo_18 rfl (lv_at hl 0 rfl) ?_
  refine lv_land hx hb dX5_pureUpTo_19 ?_
  obtain ⟨v3, hv3, h⟩ := dq h
  refine cSi (As := [.long ((v1.1 (0 : Int32).toNatClampNeg) &&& (((1 : Int64) <<< ((a1 + (1 : Int32)).toInt64 &&& 63)) - (1 : Int64)))]) (rest := []) ⟨hx, hb, hml, hown, hts⟩ (c_J13_bitCount_95d88_x (dT := dT) (rs := rs) (g := g) (bh := bh) (c1 := c1) (c2 := c2) (re := re) (pl := v1) (cl := cl) hD hv3) (va_cwS 1 hts (good_S sub_z k_606 k_607 k_15 k_608) rfl rfl rfl (by decide +kernel) (by decide)) hK hP hS rfl hl.1 rfl (Nat.le_of_ble_eq_true rfl) dX5_pureUpTo_20 (by decide) (fun H locs hP hS => ?_)
  refine lv_iconst (v := 1) hx hb dX5_pureUpTo_23 (by decide) ?_
  refine lv_isub hx hb dX5_pureUpTo_24 ?_
  obtain rfl := Option.some.inj h
  exact rI hx hb hr hlk hK hP hS dX5_pureUpTo_25

set_option maxRecDepth 100000 in
set_option maxHeartbeats 4000000 in
theorem c_X5_soonestEnd {l : Launch} {D : va_G} {dT : Nat → ClassId} {q : Nat → Nat} (hD : xD q) {rs : (Nat → tRow)} {g : tG_} {bh : tBH} {c1 : tC} {c2 : tC} {re : tRE} {pl : tPL} {cl : tCL} {a1 : Int32} {v : Int32 × tPL} (h : f_X5_soonestEnd re pl a1 = some v) : MG l yX5_soonestEnd cX5_soonestEnd 5 (some .int) 3 [.ref (q 35), .int a1] D (tyL dT) (wX dT q rs g bh c1 c2 re pl cl) (QI D (tyL dT) (xA q) (wX dT q rs g bh c1 c2 re v.2 cl) v.1) (xA q) := by
  refine MG.mk (by decide +kernel) (Nat.le_of_ble_eq_true rfl) ?_
  intro p e s m below meth c hx hb hr hml hown hts hlk hK hP ls hl
  have hown : s.vm.findClass RX5 = some m.cls := hown
  have hS : va_S (xA q) s.heap s.heap [] := va_S.rf
  have hl : lv_has ls 5 [(0, .ref (q 35)), (1, .int a1)] := hl
  rw [f_X5_soonestEnd] at h
  refine lv_aload_n hx hb dX5_soonestEnd_0 rfl (lv_at hl 0 rfl) ?_
  obtain ⟨v1, hv1, h⟩ := dq h
  refine cVv (As := []) (rest := []) ⟨hx, hb, hml, hown, hts⟩ (c_X5_findSpans (dT := dT) (rs := rs) (g := g) (bh := bh) (c1 := c1) (c2 := c2) (re := re) (pl := pl) (cl := cl) hD hv1) (cwV 0 hts (good_V sub_z k_563 k_565 ks_12 k_7 k_566) rfl rfl rfl (by decide +kernel) (by decide)) (va_recv hK hP (ci := 4) (q0 := 35) rfl rfl) hK hP hS rfl hl.1 rfl (Nat.le_of_ble_eq_true rfl) dX5_soonestEnd_1 (by decide) (fun H locs hP hS => ?_)
  refine lv_bipush (v := -7) hx hb dX5_soonestEnd_4 (by decide) ?_
  refine lv_istore_n (lv' := [(2, .int (-7 : Int32)), (0, .ref (q 35)), (1, .int a1)]) hx hb dX5_soonestEnd_6 rfl hl (by decide) rfl (fun ls hl => ?_)
  refine lv_iconst (v := 0) hx hb dX5_soonestEnd_7 (by decide) ?_
  refine lv_istore_n (lv' := [(3, .int (0 : Int32)), (2, .int (-7 : Int32)), (0, .ref (q 35)), (1, .int a1)]) hx hb dX5_soonestEnd_8 rfl hl (by decide) rfl (fun ls hl => ?_)
  have hL9_9 : ∀ (n : Nat) (x2_9 : Int32) (x3_9 : Int32) (y : Int32 × Int32), f_X5_soonestEnd_9 n re v1 a1 x2_9 x3_9 = some y → ∀ (ls : Array Slot) (H : Heap) (locs : List Loc), lv_has ls 5 [(0, .ref (q 35)), (1, .int a1), (2, .int x2_9), (3, .int x3_9)] → va_P D vwCl (wX dT q rs g bh c1 c2 re v1 cl) H → va_S (xA q) s.heap H locs → ∀ Q : State → Prop, (∀ (ls : Array Slot) (H : Heap) (locs : List Loc), lv_has ls 5 [(0, .ref (q 35)), (1, .int a1), (2, .int y.1), (3, .int y.2)] → va_P D vwCl (wX dT q rs g bh c1 c2 re v1 cl) H → va_S (xA q) s.heap H locs → W p l e (rmD 3) s m [.ref (q 35), .int a1].toArray below meth c H locs 0 0 Q (F0 m 62 ls [])) → W p l e (rmD 3) s m [.ref (q 35), .int a1].toArray below meth c H locs 0 0 Q (F0 m 9 ls []) := by
    intro n
    induction n with
    | zero => intro x2_9 x3_9 y h; exact absurd h (by simp [f_X5_soonestEnd_9])
    | succ n ih =>
      intro x2_9 x3_9 y h ls H locs hl hP hS Q kk
      rw [f_X5_soonestEnd_9] at h
      refine lv_iload_n hx hb dX5_soonestEnd_9 rfl (lv_at hl 3 rfl) ?_
      refine lv_aload_n hx hb dX5_soonestEnd_10 rfl (lv_at hl 0 rfl) ?_
      refine va_get (D := D) (ci := 4) (v := .ref (q 27)) (C := RX5) (T := TX5) (N := 8) hx hb hts (fun w h => sub_z _ (inX5 w h)) hown hK hP 35 rfl rfl 0 (by decide) (hts _ (sub_z _ k_173)) (fun _ h => h) rfl dX5_soonestEnd_11 ?_
      obtain ⟨v2, hv2, h⟩ := dq h
      refine cVi (As := []) (rest := [.int x3_9]) ⟨hx, hb, hml, hown, hts⟩ (c_X6_count (dT := dT) (rs := rs) (g := g) (bh := bh) (c1 := c1) (c2 := c2) (re := re) (pl := v1) (cl := cl) hD hv2) (cwV 0 hts (good_V sub_z k_570 k_538 k_539 k_6 k_540) rfl rfl rfl (by decide +kernel) (by decide)) (va_recv hK hP (ci := 5) (q0 := 27) rfl rfl) hK hP hS rfl hl.1 rfl (Nat.le_of_ble_eq_true rfl) dX5_soonestEnd_14 (by decide) (fun H locs hP hS => ?_)
      refine lv_icmp_ge (tgt := 62) hx hb dX5_soonestEnd_17 (by decide) (fun k3 => ?_) (fun k3 => ?_)
      · rw [if_pos k3] at h
        obtain rfl := Option.some.inj h
        exact kk _ _ _ (lv_sub hl [0, 1, 2, 3] rfl) hP hS
      · rw [if_neg k3] at h
        refine lv_aload_n hx hb dX5_soonestEnd_20 rfl (lv_at hl 0 rfl) ?_
        refine va_get (D := D) (ci := 4) (v := .ref (q 27)) (C := RX5) (T := TX5) (N := 8) hx hb hts (fun w h => sub_z _ (inX5 w h)) hown hK hP 35 rfl rfl 0 (by decide) (hts _ (sub_z _ k_173)) (fun _ h => h) rfl dX5_soonestEnd_21 ?_
        refine lv_iload_n hx hb dX5_soonestEnd_24 rfl (lv_at hl 3 rfl) ?_
        obtain ⟨v4, hv4, h⟩ := dq h
        refine cVi (As := [.int x3_9]) (rest := []) ⟨hx, hb, hml, hown, hts⟩ (c_X6_earliestOf (dT := dT) (rs := rs) (g := g) (bh := bh) (c1 := c1) (c2 := c2) (re := re) (pl := v1) (cl := cl) hD hv4) (cwV 1 hts (good_V sub_z k_628 k_629 k_630 k_6 k_631) rfl rfl rfl (by decide +kernel) (by decide)) (va_recv hK hP (ci := 5) (q0 := 27) rfl rfl) hK hP hS rfl hl.1 rfl (Nat.le_of_ble_eq_true rfl) dX5_soonestEnd_25 (by decide) (fun H locs hP hS => ?_)
        refine lv_iload_n hx hb dX5_soonestEnd_28 rfl (lv_at hl 1 rfl) ?_
        refine lv_iadd hx hb dX5_soonestEnd_29 ?_
        refine lv_istore (lv' := [(4, .int (v4 + a1)), (0, .ref (q 35)), (1, .int a1), (2, .int x2_9), (3, .int x3_9)]) hx hb dX5_soonestEnd_30 hl (by decide) rfl (fun ls hl => ?_)
        refine lv_aload_n hx hb dX5_soonestEnd_32 rfl (lv_at hl 1 rfl) ?_
        refine lv_iload_n hx hb dX5_soonestEnd_33 rfl (lv_at hl 4 rfl) ?_
        refine lv_iload_n hx hb dX5_soonestEnd_34 rfl (lv_at hl 2 rfl) ?_
        obtain ⟨v5, hv5, h⟩ := dq h
        refine cVi (As := [.int x3_9, .int a1]) (rest := []) ⟨hx, hb, hml, hown, hts⟩ (c_X5_goesOn (dT := dT) (rs := rs) (g := g) (bh := bh) (c1 := c1) (c2 := c2) (re := re) (pl := v1) (cl := cl) hD hv5) (cwV 2 hts (good_V sub_z k_594 k_596 ks_14 k_7 k_597) rfl rfl rfl (by decide +kernel) (by decide)) (va_recv hK hP (ci := 4) (q0 := 35) rfl rfl) hK hP hS rfl hl.1 rfl (Nat.le_of_ble_eq_true rfl) dX5_soonestEnd_35 (by decide) (fun H locs hP hS => ?_)
        refine lv_if_eq (tgt := 56) hx hb dX5_soonestEnd_38 (by decide) (fun k6 => ?_) (fun k6 => ?_)
        · rw [if_pos k6] at h
          refine lv_iinc (v := (x3_9 + (1 : Int32))) (lv' := [(3, .int (x3_9 + (1 : Int32))), (4, .int (v4 + a1)), (0, .ref (q 35)), (1, .int a1), (2, .int x2_9)]) hx hb dX5_soonestEnd_56 hl (k := 4) rfl rfl (by decide) rfl (fun ls hl => ?_)
          refine lv_goto (tgt := 9) hx hb dX5_soonestEnd_59 (by decide) ?_
          exact ih _ _ _ h _ _ _ (lv_sub hl [2, 3, 4, 0] rfl) hP hS _ kk
        · rw [if_neg k6] at h
          refine lv_iload_n hx hb dX5_soonestEnd_41 rfl (lv_at hl 3 rfl) ?_
          refine lv_bipush (v := -7) hx hb dX5_soonestEnd_42 (by decide) ?_
          refine lv_icmp_eq (tgt := 53) hx hb dX5_soonestEnd_44 (by decide) (fun k7 => ?_) (fun k7 => ?_)
          · rw [if_pos k7] at h
            refine lv_iload hx hb dX5_soonestEnd_53 (lv_at hl 0 rfl) ?_
            refine lv_istore_n (lv' := [(2, .int (v4 + a1)), (4, .int (v4 + a1)), (0, .ref (q 35)), (1, .int a1), (3, .int x3_9)]) hx hb dX5_soonestEnd_55 rfl hl (by decide) rfl (fun ls hl => ?_)
            refine lv_iinc (v := (x3_9 + (1 : Int32))) (lv' := [(3, .int (x3_9 + (1 : Int32))), (2, .int (v4 + a1)), (4, .int (v4 + a1)), (0, .ref (q 35)), (1, .int a1)]) hx hb dX5_soonestEnd_56 hl (k := 4) rfl rfl (by decide) rfl (fun ls hl => ?_)
            refine lv_goto (tgt := 9) hx hb dX5_soonestEnd_59 (by decide) ?_
            exact ih _ _ _ h _ _ _ (lv_sub hl [3, 4, 1, 0] rfl) hP hS _ kk
          · rw [if_neg k7] at h
            refine lv_iload hx hb dX5_soonestEnd_47 (lv_at hl 0 rfl) ?_
            refine lv_iload_n hx hb dX5_soonestEnd_49 rfl (lv_at hl 3 rfl) ?_
            refine lv_icmp_ge (tgt := 56) hx hb dX5_soonestEnd_50 (by decide) (fun k8 => ?_) (fun k8 => ?_)
            · rw [if_pos k8] at h
              refine lv_iinc (v := (x3_9 + (1 : Int32))) (lv' := [(3, .int (x3_9 + (1 : Int32))), (4, .int (v4 + a1)), (0, .ref (q 35)), (1, .int a1), (2, .int x2_9)]) hx hb dX5_soonestEnd_56 hl (k := 4) rfl rfl (by decide) rfl (fun ls hl => ?_)
              refine lv_goto (tgt := 9) hx hb dX5_soonestEnd_59 (by decide) ?_
              exact ih _ _ _ h _ _ _ (lv_sub hl [2, 3, 4, 0] rfl) hP hS _ kk
            · rw [if_neg k8] at h
              refine lv_iload hx hb dX5_soonestEnd_53 (lv_at hl 0 rfl) ?_
              refine lv_istore_n (lv' := [(2, .int (v4 + a1)), (4, .int (v4 + a1)), (0, .ref (q 35)), (1, .int a1), (3, .int x3_9)]) hx hb dX5_soonestEnd_55 rfl hl (by decide) rfl (fun ls hl => ?_)
              refine lv_iinc (v := (x3_9 + (1 : Int32))) (lv' := [(3, .int (x3_9 + (1 : Int32))), (2, .int (v4 + a1)), (4, .int (v4 + a1)), (0, .ref (q 35)), (1, .int a1)]) hx hb dX5_soonestEnd_56 hl (k := 4) rfl rfl (by decide) rfl (fun ls hl => ?_)
              refine lv_goto (tgt := 9) hx hb dX5_soonestEnd_59 (by decide) ?_
              exact ih _ _ _ h _ _ _ (lv_sub hl [3, 4, 1, 0] rfl) hP hS _ kk
  obtain ⟨y10, hy10, h⟩ := dq h
  refine hL9_9 _ _ _ _ hy10 _ _ _ (lv_sub hl [2, 3, 1, 0] rfl) hP hS _ (fun ls H locs hl hP hS => ?_)
  refine lv_iload_n hx hb dX5_soonestEnd_62 rfl (lv_at hl 2 rfl) ?_
  obtain rfl := Option.some.inj h
  exact rI hx hb hr hlk hK hP hS dX5_soonestEnd_63

set_option maxRecDepth 100000 in
set_option maxHeartbeats 4000000 in
theorem c_X5_sumBy {l : Launch} {D : va_G} {dT : Nat → ClassId} {q : Nat → Nat} (hD : xD q) {rs : (Nat → tRow)} {g : tG_} {bh : tBH} {c1 : tC} {c2 : tC} {re : tRE} {pl : tPL} {cl : tCL} {a1 : Int32} {a2 : Int32} {v : Int32} (h : f_X5_sumBy pl a1 a2 = some v) : MG l yX5_sumBy cX5_sumBy 4 (some .int) 1 [.ref (q 35), .int a1, .int a2] D (tyL dT) (wX dT q rs g bh c1 c2 re pl cl) (QI D (tyL dT) (xA q) (wX dT q rs g bh c1 c2 re pl cl) v) (xA q) := by
  refine MG.mk (by decide +kernel) (Nat.le_of_ble_eq_true rfl) ?_
  intro p e s m below meth c hx hb hr hml hown hts hlk hK hP ls hl
  have hown : s.vm.findClass RX5 = some m.cls := hown
  have hS : va_S (xA q) s.heap s.heap [] := va_S.rf
  have hl : lv_has ls 4 [(0, .ref (q 35)), (1, .int a1), (2, .int a2)] := hl
  rw [f_X5_sumBy] at h
  refine lv_iload_n hx hb dX5_sumBy_0 rfl (lv_at hl 2 rfl) ?_
  refine lv_iload_n hx hb dX5_sumBy_1 rfl (lv_at hl 1 rfl) ?_
  obtain ⟨v1, hv1, h⟩ := dq h
  refine cSi (As := [.int a1]) (rest := [.int a2]) ⟨hx, hb, hml, hown, hts⟩ (c_X6_passing (dT := dT) (rs := rs) (g := g) (bh := bh) (c1 := c1) (c2 := c2) (re := re) (pl := pl) (cl := cl) hD hv1) (va_cwS 1 hts (good_S sub_z k_590 k_591 k_6 k_592) rfl rfl rfl (by decide +kernel) (by decide)) hK hP hS rfl hl.1 rfl (Nat.le_of_ble_eq_true rfl) dX5_sumBy_2 (by decide) (fun H locs hP hS => ?_)
  refine lv_isub hx hb dX5_sumBy_5 ?_
  refine lv_istore_n (lv' := [(3, .int (a2 - v1)), (0, .ref (q 35)), (1, .int a1), (2, .int a2)]) hx hb dX5_sumBy_6 rfl hl (by decide) rfl (fun ls hl => ?_)
  refine lv_iload_n hx hb dX5_sumBy_7 rfl (lv_at hl 0 rfl) ?_
  refine lv_if_ge (tgt := 17) hx hb dX5_sumBy_8 (by decide) (fun k2 => ?_) (fun k2 => ?_)
  · rw [if_pos k2] at h
    refine lv_iload_n hx hb dX5_sumBy_17 rfl (lv_at hl 2 rfl) ?_
    obtain ⟨v3, hv3, h⟩ := dq h
    refine cSi (As := [.int a1]) (rest := []) ⟨hx, hb, hml, hown, hts⟩ (c_X6_counted (dT := dT) (rs := rs) (g := g) (bh := bh) (c1 := c1) (c2 := c2) (re := re) (pl := pl) (cl := cl) hD hv3) (va_cwS 1 hts (good_S sub_z k_640 k_641 k_6 k_642) rfl rfl rfl (by decide +kernel) (by decide)) hK hP hS rfl hl.1 rfl (Nat.le_of_ble_eq_true rfl) dX5_sumBy_18 (by decide) (fun H locs hP hS => ?_)
    refine lv_aload_n hx hb dX5_sumBy_21 rfl (lv_at hl 1 rfl) ?_
    refine va_get (D := D) (ci := 4) (v := .ref (q 37)) (C := RX5) (T := TX5) (N := 8) hx hb hts (fun w h => sub_z _ (inX5 w h)) hown hK hP 35 rfl rfl 2 (by decide) (hts _ (sub_z _ k_175)) (fun _ h => h) rfl dX5_sumBy_22 ?_
    refine lv_iload_n hx hb dX5_sumBy_25 rfl (lv_at hl 0 rfl) ?_
    refine lv_sipush (v := 600) hx hb dX5_sumBy_26 (by decide) ?_
    refine lv_imul hx hb dX5_sumBy_29 ?_
    refine lv_iload_n hx hb dX5_sumBy_30 rfl (lv_at hl 2 rfl) ?_
    obtain ⟨v4, hv4, h⟩ := dq h
    refine cSi (As := [.int a1]) (rest := [.int ((a2 - v1) * (600 : Int32)), .ref (q 37), .int v3]) ⟨hx, hb, hml, hown, hts⟩ (c_X6_goal (dT := dT) (rs := rs) (g := g) (bh := bh) (c1 := c1) (c2 := c2) (re := re) (pl := pl) (cl := cl) hD hv4) (va_cwS 1 hts (good_S sub_z k_587 k_588 k_6 k_589) rfl rfl rfl (by decide +kernel) (by decide)) hK hP hS rfl hl.1 rfl (Nat.le_of_ble_eq_true rfl) dX5_sumBy_31 (by decide) (fun H locs hP hS => ?_)
    refine lv_iadd hx hb dX5_sumBy_34 ?_
    obtain ⟨k5, h⟩ := dg h
    refine va_sald (f := pl.2.1) hx hb hK hP 37 2 rfl rfl (inb_vp k5) dX5_sumBy_35 ?_
    refine lv_iadd hx hb dX5_sumBy_36 ?_
    obtain rfl := Option.some.inj h
    exact rI hx hb hr hlk hK hP hS dX5_sumBy_37
  · rw [if_neg k2] at h
    refine lv_sipush (v := 10000) hx hb dX5_sumBy_11 (by decide) ?_
    refine lv_goto (tgt := 37) hx hb dX5_sumBy_14 (by decide) ?_
    obtain rfl := Option.some.inj h
    exact rI hx hb hr hlk hK hP hS dX5_sumBy_37

set_option maxRecDepth 100000 in
set_option maxHeartbeats 4000000 in
theorem c_X5_bestWay {l : Launch} {D : va_G} {dT : Nat → ClassId} {q : Nat → Nat} (hD : xD q) {rs : (Nat → tRow)} {g : tG_} {bh : tBH} {c1 : tC} {c2 : tC} {re : tRE} {pl : tPL} {cl : tCL} {a1 : Int32} {a2 : Int32} {v : Int32} (h : f_X5_bestWay re pl a1 a2 = some v) : MG l yX5_bestWay cX5_bestWay 9 (some .int) 2 [.ref (q 35), .int a1, .int a2] D (tyL dT) (wX dT q rs g bh c1 c2 re pl cl) (QI D (tyL dT) (xA q) (wX dT q rs g bh c1 c2 re pl cl) v) (xA q) := by
  refine MG.mk (by decide +kernel) (Nat.le_of_ble_eq_true rfl) ?_
  intro p e s m below meth c hx hb hr hml hown hts hlk hK hP ls hl
  have hown : s.vm.findClass RX5 = some m.cls := hown
  have hS : va_S (xA q) s.heap s.heap [] := va_S.rf
  have hl : lv_has ls 9 [(0, .ref (q 35)), (1, .int a1), (2, .int a2)] := hl
  rw [f_X5_bestWay] at h
  refine lv_iconst (v := 0) hx hb dX5_bestWay_0 (by decide) ?_
  refine lv_istore_n (lv' := [(3, .int (0 : Int32)), (0, .ref (q 35)), (1, .int a1), (2, .int a2)]) hx hb dX5_bestWay_1 rfl hl (by decide) rfl (fun ls hl => ?_)
  refine lv_sipush (v := 10000) hx hb dX5_bestWay_2 (by decide) ?_
  refine lv_istore (lv' := [(4, .int (10000 : Int32)), (3, .int (0 : Int32)), (0, .ref (q 35)), (1, .int a1), (2, .int a2)]) hx hb dX5_bestWay_5 hl (by decide) rfl (fun ls hl => ?_)
  refine lv_aload_n hx hb dX5_bestWay_7 rfl (lv_at hl 2 rfl) ?_
  refine va_get (D := D) (ci := 4) (v := .ref (q 27)) (C := RX5) (T := TX5) (N := 8) hx hb hts (fun w h => sub_z _ (inX5 w h)) hown hK hP 35 rfl rfl 0 (by decide) (hts _ (sub_z _ k_173)) (fun _ h => h) rfl dX5_bestWay_8 ?_
  refine lv_iload_n hx hb dX5_bestWay_11 rfl (lv_at hl 3 rfl) ?_
  obtain ⟨v1, hv1, h⟩ := dq h
  refine cVi (As := [.int a1]) (rest := []) ⟨hx, hb, hml, hown, hts⟩ (c_X6_endOfWays (dT := dT) (rs := rs) (g := g) (bh := bh) (c1 := c1) (c2 := c2) (re := re) (pl := pl) (cl := cl) hD hv1) (cwV 1 hts (good_V sub_z k_579 k_580 k_581 k_6 k_582) rfl rfl rfl (by decide +kernel) (by decide)) (va_recv hK hP (ci := 5) (q0 := 27) rfl rfl) hK hP hS rfl hl.1 rfl (Nat.le_of_ble_eq_true rfl) dX5_bestWay_12 (by decide) (fun H locs hP hS => ?_)
  refine lv_istore (lv' := [(5, .int v1), (4, .int (10000 : Int32)), (3, .int (0 : Int32)), (0, .ref (q 35)), (1, .int a1), (2, .int a2)]) hx hb dX5_bestWay_15 hl (by decide) rfl (fun ls hl => ?_)
  refine lv_aload_n hx hb dX5_bestWay_17 rfl (lv_at hl 3 rfl) ?_
  refine va_get (D := D) (ci := 4) (v := .ref (q 27)) (C := RX5) (T := TX5) (N := 8) hx hb hts (fun w h => sub_z _ (inX5 w h)) hown hK hP 35 rfl rfl 0 (by decide) (hts _ (sub_z _ k_173)) (fun _ h => h) rfl dX5_bestWay_18 ?_
  refine lv_iload_n hx hb dX5_bestWay_21 rfl (lv_at hl 4 rfl) ?_
  obtain ⟨v2, hv2, h⟩ := dq h
  refine cVi (As := [.int a1]) (rest := []) ⟨hx, hb, hml, hown, hts⟩ (c_X6_startOfWays (dT := dT) (rs := rs) (g := g) (bh := bh) (c1 := c1) (c2 := c2) (re := re) (pl := pl) (cl := cl) hD hv2) (cwV 1 hts (good_V sub_z k_575 k_576 k_577 k_6 k_578) rfl rfl rfl (by decide +kernel) (by decide)) (va_recv hK hP (ci := 5) (q0 := 27) rfl rfl) hK hP hS rfl hl.1 rfl (Nat.le_of_ble_eq_true rfl) dX5_bestWay_22 (by decide) (fun H locs hP hS => ?_)
  refine lv_istore (lv' := [(6, .int v2), (5, .int v1), (4, .int (10000 : Int32)), (3, .int (0 : Int32)), (0, .ref (q 35)), (1, .int a1), (2, .int a2)]) hx hb dX5_bestWay_25 hl (by decide) rfl (fun ls hl => ?_)
  have hL27_7 : ∀ (n : Nat) (x3_27 : Int32) (x4_27 : Int32) (x6_27 : Int32) (y : Int32 × Int32 × Int32), f_X5_bestWay_27 n re pl a1 a2 x3_27 x4_27 v1 x6_27 = some y → ∀ (ls : Array Slot) (H : Heap) (locs : List Loc), lv_has ls 9 [(0, .ref (q 35)), (1, .int a1), (2, .int a2), (3, .int x3_27), (4, .int x4_27), (5, .int v1), (6, .int x6_27)] → va_P D vwCl (wX dT q rs g bh c1 c2 re pl cl) H → va_S (xA q) s.heap H locs → ∀ Q : State → Prop, (∀ (ls : Array Slot) (H : Heap) (locs : List Loc), lv_has ls 9 [(0, .ref (q 35)), (1, .int a1), (2, .int a2), (3, .int y.1), (4, .int y.2.1), (5, .int v1), (6, .int y.2.2)] → va_P D vwCl (wX dT q rs g bh c1 c2 re pl cl) H → va_S (xA q) s.heap H locs → W p l e (rmD 2) s m [.ref (q 35), .int a1, .int a2].toArray below meth c H locs 0 0 Q (F0 m 74 ls [])) → W p l e (rmD 2) s m [.ref (q 35), .int a1, .int a2].toArray below meth c H locs 0 0 Q (F0 m 27 ls []) := by
    intro n
    induction n with
    | zero => intro x3_27 x4_27 x6_27 y h; exact absurd h (by simp [f_X5_bestWay_27])
    | succ n ih =>
      intro x3_27 x4_27 x6_27 y h ls H locs hl hP hS Q kk
      rw [f_X5_bestWay_27] at h
      refine lv_iload hx hb dX5_bestWay_27 (lv_at hl 6 rfl) ?_
      refine lv_iload hx hb dX5_bestWay_29 (lv_at hl 5 rfl) ?_
      refine lv_icmp_ge (tgt := 74) hx hb dX5_bestWay_31 (by decide) (fun k3 => ?_) (fun k3 => ?_)
      · rw [if_pos k3] at h
        obtain rfl := Option.some.inj h
        exact kk _ _ _ (lv_sub hl [0, 1, 2, 3, 4, 5, 6] rfl) hP hS
      · rw [if_neg k3] at h
        refine lv_aload_n hx hb dX5_bestWay_34 rfl (lv_at hl 0 rfl) ?_
        refine va_get (D := D) (ci := 4) (v := .ref (q 27)) (C := RX5) (T := TX5) (N := 8) hx hb hts (fun w h => sub_z _ (inX5 w h)) hown hK hP 35 rfl rfl 0 (by decide) (hts _ (sub_z _ k_173)) (fun _ h => h) rfl dX5_bestWay_35 ?_
        refine lv_iload hx hb dX5_bestWay_38 (lv_at hl 6 rfl) ?_
        obtain ⟨v4, hv4, h⟩ := dq h
        refine cVi (As := [.int x6_27]) (rest := []) ⟨hx, hb, hml, hown, hts⟩ (c_X6_way (dT := dT) (rs := rs) (g := g) (bh := bh) (c1 := c1) (c2 := c2) (re := re) (pl := pl) (cl := cl) hD hv4) (cwV 1 hts (good_V sub_z k_583 k_584 k_585 k_6 k_586) rfl rfl rfl (by decide +kernel) (by decide)) (va_recv hK hP (ci := 5) (q0 := 27) rfl rfl) hK hP hS rfl hl.1 rfl (Nat.le_of_ble_eq_true rfl) dX5_bestWay_40 (by decide) (fun H locs hP hS => ?_)
        refine lv_istore (lv' := [(7, .int v4), (0, .ref (q 35)), (1, .int a1), (2, .int a2), (3, .int x3_27), (4, .int x4_27), (5, .int v1), (6, .int x6_27)]) hx hb dX5_bestWay_43 hl (by decide) rfl (fun ls hl => ?_)
        refine lv_aload_n hx hb dX5_bestWay_45 rfl (lv_at hl 1 rfl) ?_
        refine lv_iload hx hb dX5_bestWay_46 (lv_at hl 0 rfl) ?_
        refine lv_iload_n hx hb dX5_bestWay_48 rfl (lv_at hl 3 rfl) ?_
        obtain ⟨v5, hv5, h⟩ := dq h
        refine cVi (As := [.int v4, .int a2]) (rest := []) ⟨hx, hb, hml, hown, hts⟩ (c_X5_sumBy (dT := dT) (rs := rs) (g := g) (bh := bh) (c1 := c1) (c2 := c2) (re := re) (pl := pl) (cl := cl) hD hv5) (cwV 2 hts (good_V sub_z k_636 k_638 ks_18 k_7 k_639) rfl rfl rfl (by decide +kernel) (by decide)) (va_recv hK hP (ci := 4) (q0 := 35) rfl rfl) hK hP hS rfl hl.1 rfl (Nat.le_of_ble_eq_true rfl) dX5_bestWay_49 (by decide) (fun H locs hP hS => ?_)
        refine lv_istore (lv' := [(8, .int v5), (7, .int v4), (0, .ref (q 35)), (1, .int a1), (2, .int a2), (3, .int x3_27), (4, .int x4_27), (5, .int v1), (6, .int x6_27)]) hx hb dX5_bestWay_52 hl (by decide) rfl (fun ls hl => ?_)
        refine lv_iload hx hb dX5_bestWay_54 (lv_at hl 0 rfl) ?_
        refine lv_iload hx hb dX5_bestWay_56 (lv_at hl 6 rfl) ?_
        refine lv_icmp_ge (tgt := 68) hx hb dX5_bestWay_58 (by decide) (fun k6 => ?_) (fun k6 => ?_)
        · rw [if_pos k6] at h
          refine lv_iinc (v := (x6_27 + (1 : Int32))) (lv' := [(6, .int (x6_27 + (1 : Int32))), (8, .int v5), (7, .int v4), (0, .ref (q 35)), (1, .int a1), (2, .int a2), (3, .int x3_27), (4, .int x4_27), (5, .int v1)]) hx hb dX5_bestWay_68 hl (k := 8) rfl rfl (by decide) rfl (fun ls hl => ?_)
          refine lv_goto (tgt := 27) hx hb dX5_bestWay_71 (by decide) ?_
          exact ih _ _ _ _ h _ _ _ (lv_sub hl [3, 4, 5, 6, 7, 8, 0] rfl) hP hS _ kk
        · rw [if_neg k6] at h
          refine lv_iload hx hb dX5_bestWay_61 (lv_at hl 0 rfl) ?_
          refine lv_istore (lv' := [(4, .int v5), (8, .int v5), (7, .int v4), (0, .ref (q 35)), (1, .int a1), (2, .int a2), (3, .int x3_27), (5, .int v1), (6, .int x6_27)]) hx hb dX5_bestWay_63 hl (by decide) rfl (fun ls hl => ?_)
          refine lv_iload hx hb dX5_bestWay_65 (lv_at hl 2 rfl) ?_
          refine lv_istore_n (lv' := [(3, .int v4), (4, .int v5), (8, .int v5), (7, .int v4), (0, .ref (q 35)), (1, .int a1), (2, .int a2), (5, .int v1), (6, .int x6_27)]) hx hb dX5_bestWay_67 rfl hl (by decide) rfl (fun ls hl => ?_)
          refine lv_iinc (v := (x6_27 + (1 : Int32))) (lv' := [(6, .int (x6_27 + (1 : Int32))), (3, .int v4), (4, .int v5), (8, .int v5), (7, .int v4), (0, .ref (q 35)), (1, .int a1), (2, .int a2), (5, .int v1)]) hx hb dX5_bestWay_68 hl (k := 8) rfl rfl (by decide) rfl (fun ls hl => ?_)
          refine lv_goto (tgt := 27) hx hb dX5_bestWay_71 (by decide) ?_
          exact ih _ _ _ _ h _ _ _ (lv_sub hl [5, 6, 7, 1, 2, 8, 0] rfl) hP hS _ kk
  obtain ⟨y8, hy8, h⟩ := dq h
  refine hL27_7 _ _ _ _ _ hy8 _ _ _ (lv_sub hl [4, 5, 6, 3, 2, 1, 0] rfl) hP hS _ (fun ls H locs hl hP hS => ?_)
  refine lv_iload_n hx hb dX5_bestWay_74 rfl (lv_at hl 3 rfl) ?_
  obtain rfl := Option.some.inj h
  exact rI hx hb hr hlk hK hP hS dX5_bestWay_75

set_option maxRecDepth 100000 in
set_option maxHeartbeats 4000000 in
theorem c_X5_sumFrom {l : Launch} {D : va_G} {dT : Nat → ClassId} {q : Nat → Nat} (hD : xD q) {rs : (Nat → tRow)} {g : tG_} {bh : tBH} {c1 : tC} {c2 : tC} {re : tRE} {pl : tPL} {cl : tCL} {a1 : Int32} {a2 : Int32} {v : Int32} (h : f_X5_sumFrom re pl a1 a2 = some v) : MG l yX5_sumFrom cX5_sumFrom 3 (some .int) 3 [.ref (q 35), .int a1, .int a2] D (tyL dT) (wX dT q rs g bh c1 c2 re pl cl) (QI D (tyL dT) (xA q) (wX dT q rs g bh c1 c2 re pl cl) v) (xA q) := by
  refine MG.mk (by decide +kernel) (Nat.le_of_ble_eq_true rfl) ?_
  intro p e s m below meth c hx hb hr hml hown hts hlk hK hP ls hl
  have hown : s.vm.findClass RX5 = some m.cls := hown
  have hS : va_S (xA q) s.heap s.heap [] := va_S.rf
  have hl : lv_has ls 3 [(0, .ref (q 35)), (1, .int a1), (2, .int a2)] := hl
  rw [f_X5_sumFrom] at h
  refine lv_iload_n hx hb dX5_sumFrom_0 rfl (lv_at hl 2 rfl) ?_
  refine lv_if_ne (tgt := 6) hx hb dX5_sumFrom_1 (by decide) (fun k1 => ?_) (fun k1 => ?_)
  · rw [if_neg k1] at h
    refine lv_aload_n hx hb dX5_sumFrom_6 rfl (lv_at hl 0 rfl) ?_
    refine lv_iload_n hx hb dX5_sumFrom_7 rfl (lv_at hl 1 rfl) ?_
    refine lv_iload_n hx hb dX5_sumFrom_8 rfl (lv_at hl 2 rfl) ?_
    obtain ⟨v2, hv2, h⟩ := dq h
    refine cVi (As := [.int a1, .int a2]) (rest := []) ⟨hx, hb, hml, hown, hts⟩ (c_X5_goesOn (dT := dT) (rs := rs) (g := g) (bh := bh) (c1 := c1) (c2 := c2) (re := re) (pl := pl) (cl := cl) hD hv2) (cwV 2 hts (good_V sub_z k_594 k_596 ks_14 k_7 k_597) rfl rfl rfl (by decide +kernel) (by decide)) (va_recv hK hP (ci := 4) (q0 := 35) rfl rfl) hK hP hS rfl hl.1 rfl (Nat.le_of_ble_eq_true rfl) dX5_sumFrom_9 (by decide) (fun H locs hP hS => ?_)
    refine lv_if_eq (tgt := 30) hx hb dX5_sumFrom_12 (by decide) (fun k3 => ?_) (fun k3 => ?_)
    · rw [if_pos k3] at h
      refine lv_sipush (v := 10000) hx hb dX5_sumFrom_30 (by decide) ?_
      obtain rfl := Option.some.inj h
      exact rI hx hb hr hlk hK hP hS dX5_sumFrom_33
    · rw [if_neg k3] at h
      refine lv_aload_n hx hb dX5_sumFrom_15 rfl (lv_at hl 0 rfl) ?_
      refine va_get (D := D) (ci := 4) (v := .ref (q 27)) (C := RX5) (T := TX5) (N := 8) hx hb hts (fun w h => sub_z _ (inX5 w h)) hown hK hP 35 rfl rfl 0 (by decide) (hts _ (sub_z _ k_173)) (fun _ h => h) rfl dX5_sumFrom_16 ?_
      refine lv_iload_n hx hb dX5_sumFrom_19 rfl (lv_at hl 1 rfl) ?_
      obtain ⟨v4, hv4, h⟩ := dq h
      refine cVi (As := [.int a1]) (rest := []) ⟨hx, hb, hml, hown, hts⟩ (c_X6_earliestOf (dT := dT) (rs := rs) (g := g) (bh := bh) (c1 := c1) (c2 := c2) (re := re) (pl := pl) (cl := cl) hD hv4) (cwV 1 hts (good_V sub_z k_628 k_629 k_630 k_6 k_631) rfl rfl rfl (by decide +kernel) (by decide)) (va_recv hK hP (ci := 5) (q0 := 27) rfl rfl) hK hP hS rfl hl.1 rfl (Nat.le_of_ble_eq_true rfl) dX5_sumFrom_20 (by decide) (fun H locs hP hS => ?_)
      refine lv_iload_n hx hb dX5_sumFrom_23 rfl (lv_at hl 2 rfl) ?_
      refine lv_iadd hx hb dX5_sumFrom_24 ?_
      refine lv_bipush (v := 60) hx hb dX5_sumFrom_25 (by decide) ?_
      refine lv_icmp_le (tgt := 34) hx hb dX5_sumFrom_27 (by decide) (fun k5 => ?_) (fun k5 => ?_)
      · rw [if_pos k5] at h
        refine lv_aload_n hx hb dX5_sumFrom_34 rfl (lv_at hl 0 rfl) ?_
        refine lv_aload_n hx hb dX5_sumFrom_35 rfl (lv_at hl 0 rfl) ?_
        refine lv_iload_n hx hb dX5_sumFrom_36 rfl (lv_at hl 1 rfl) ?_
        refine lv_iload_n hx hb dX5_sumFrom_37 rfl (lv_at hl 2 rfl) ?_
        obtain ⟨v6, hv6, h⟩ := dq h
        refine cVi (As := [.int a1, .int a2]) (rest := [.ref (q 35)]) ⟨hx, hb, hml, hown, hts⟩ (c_X5_bestWay (dT := dT) (rs := rs) (g := g) (bh := bh) (c1 := c1) (c2 := c2) (re := re) (pl := pl) (cl := cl) hD hv6) (cwV 2 hts (good_V sub_z k_632 k_634 ks_17 k_7 k_635) rfl rfl rfl (by decide +kernel) (by decide)) (va_recv hK hP (ci := 4) (q0 := 35) rfl rfl) hK hP hS rfl hl.1 rfl (Nat.le_of_ble_eq_true rfl) dX5_sumFrom_38 (by decide) (fun H locs hP hS => ?_)
        refine lv_iload_n hx hb dX5_sumFrom_41 rfl (lv_at hl 2 rfl) ?_
        obtain ⟨v7, hv7, h⟩ := dq h
        refine cVi (As := [.int v6, .int a2]) (rest := []) ⟨hx, hb, hml, hown, hts⟩ (c_X5_sumBy (dT := dT) (rs := rs) (g := g) (bh := bh) (c1 := c1) (c2 := c2) (re := re) (pl := pl) (cl := cl) hD hv7) (cwV 2 hts (good_V sub_z k_636 k_638 ks_18 k_7 k_639) rfl rfl rfl (by decide +kernel) (by decide)) (va_recv hK hP (ci := 4) (q0 := 35) rfl rfl) hK hP hS rfl hl.1 rfl (Nat.le_of_ble_eq_true rfl) dX5_sumFrom_42 (by decide) (fun H locs hP hS => ?_)
        obtain rfl := Option.some.inj h
        exact rI hx hb hr hlk hK hP hS dX5_sumFrom_45
      · rw [if_neg k5] at h
        refine lv_sipush (v := 10000) hx hb dX5_sumFrom_30 (by decide) ?_
        obtain rfl := Option.some.inj h
        exact rI hx hb hr hlk hK hP hS dX5_sumFrom_33
  · rw [if_pos k1] at h
    refine lv_iconst (v := 0) hx hb dX5_sumFrom_4 (by decide) ?_
    obtain rfl := Option.some.inj h
    exact rI hx hb hr hlk hK hP hS dX5_sumFrom_5

set_option maxRecDepth 100000 in
set_option maxHeartbeats 4000000 in
theorem c_X5_findSums {l : Launch} {D : va_G} {dT : Nat → ClassId} {q : Nat → Nat} (hD : xD q) {rs : (Nat → tRow)} {g : tG_} {bh : tBH} {c1 : tC} {c2 : tC} {re : tRE} {pl : tPL} {cl : tCL} {a1 : Int32} {v : tPL} (h : f_X5_findSums re pl a1 = some v) : MG l yX5_findSums cX5_findSums 4 none 4 [.ref (q 35), .int a1] D (tyL dT) (wX dT q rs g bh c1 c2 re pl cl) (QV D (tyL dT) (xA q) (wX dT q rs g bh c1 c2 re v cl)) (xA q) := by
  refine MG.mk (by decide +kernel) (Nat.le_of_ble_eq_true rfl) ?_
  intro p e s m below meth c hx hb hr hml hown hts hlk hK hP ls hl
  have hown : s.vm.findClass RX5 = some m.cls := hown
  have hS : va_S (xA q) s.heap s.heap [] := va_S.rf
  have hl : lv_has ls 4 [(0, .ref (q 35)), (1, .int a1)] := hl
  rw [f_X5_findSums] at h
  refine lv_aload_n hx hb dX5_findSums_0 rfl (lv_at hl 0 rfl) ?_
  refine va_get (D := D) (ci := 4) (v := .int pl.2.2.2.2.1) (C := RX5) (T := TX5) (N := 8) hx hb hts (fun w h => sub_z _ (inX5 w h)) hown hK hP 35 rfl rfl 5 (by decide) (hts _ (sub_z _ k_178)) (fun _ h => h) rfl dX5_findSums_1 ?_
  refine lv_istore_n (lv' := [(2, .int pl.2.2.2.2.1), (0, .ref (q 35)), (1, .int a1)]) hx hb dX5_findSums_4 rfl hl (by decide) rfl (fun ls hl => ?_)
  have hL5_8 : ∀ (n : Nat) (pl_5 : tPL) (x2_5 : Int32) (y : Int32 × tPL), f_X5_findSums_5 n re pl_5 a1 x2_5 = some y → ∀ (ls : Array Slot) (H : Heap) (locs : List Loc), lv_has ls 4 [(0, .ref (q 35)), (1, .int a1), (2, .int x2_5)] → va_P D vwCl (wX dT q rs g bh c1 c2 re pl_5 cl) H → va_S (xA q) s.heap H locs → ∀ Q : State → Prop, (∀ (ls : Array Slot) (H : Heap) (locs : List Loc), lv_has ls 4 [(0, .ref (q 35)), (1, .int a1), (2, .int y.1)] → va_P D vwCl (wX dT q rs g bh c1 c2 re y.2 cl) H → va_S (xA q) s.heap H locs → W p l e (rmD 4) s m [.ref (q 35), .int a1].toArray below meth c H locs 0 0 Q (F0 m 54 ls [])) → W p l e (rmD 4) s m [.ref (q 35), .int a1].toArray below meth c H locs 0 0 Q (F0 m 5 ls []) := by
    intro n
    induction n with
    | zero => intro pl_5 x2_5 y h; exact absurd h (by simp [f_X5_findSums_5])
    | succ n ih =>
      intro pl_5 x2_5 y h ls H locs hl hP hS Q kk
      rw [f_X5_findSums_5] at h
      refine lv_iload_n hx hb dX5_findSums_5 rfl (lv_at hl 2 rfl) ?_
      refine lv_iload_n hx hb dX5_findSums_6 rfl (lv_at hl 1 rfl) ?_
      refine lv_icmp_gt (tgt := 54) hx hb dX5_findSums_7 (by decide) (fun k1 => ?_) (fun k1 => ?_)
      · rw [if_pos k1] at h
        obtain rfl := Option.some.inj h
        exact kk _ _ _ (lv_sub hl [0, 1, 2] rfl) hP hS
      · rw [if_neg k1] at h
        refine lv_iconst (v := 0) hx hb dX5_findSums_10 (by decide) ?_
        refine lv_istore_n (lv' := [(3, .int (0 : Int32)), (0, .ref (q 35)), (1, .int a1), (2, .int x2_5)]) hx hb dX5_findSums_11 rfl hl (by decide) rfl (fun ls hl => ?_)
        have hL12_6 : ∀ (n : Nat) (pl_12 : tPL) (x3_12 : Int32) (y : Int32 × tPL), f_X5_findSums_12 n re pl_12 a1 x2_5 x3_12 = some y → ∀ (ls : Array Slot) (H : Heap) (locs : List Loc), lv_has ls 4 [(0, .ref (q 35)), (1, .int a1), (2, .int x2_5), (3, .int x3_12)] → va_P D vwCl (wX dT q rs g bh c1 c2 re pl_12 cl) H → va_S (xA q) s.heap H locs → ∀ Q : State → Prop, (∀ (ls : Array Slot) (H : Heap) (locs : List Loc), lv_has ls 4 [(0, .ref (q 35)), (1, .int a1), (2, .int x2_5), (3, .int y.1)] → va_P D vwCl (wX dT q rs g bh c1 c2 re y.2 cl) H → va_S (xA q) s.heap H locs → W p l e (rmD 4) s m [.ref (q 35), .int a1].toArray below meth c H locs 0 0 Q (F0 m 48 ls [])) → W p l e (rmD 4) s m [.ref (q 35), .int a1].toArray below meth c H locs 0 0 Q (F0 m 12 ls []) := by
          intro n
          induction n with
          | zero => intro pl_12 x3_12 y h; exact absurd h (by simp [f_X5_findSums_12])
          | succ n ih =>
            intro pl_12 x3_12 y h ls H locs hl hP hS Q kk
            rw [f_X5_findSums_12] at h
            refine lv_iload_n hx hb dX5_findSums_12 rfl (lv_at hl 3 rfl) ?_
            refine lv_aload_n hx hb dX5_findSums_13 rfl (lv_at hl 0 rfl) ?_
            refine va_get (D := D) (ci := 4) (v := .ref (q 27)) (C := RX5) (T := TX5) (N := 8) hx hb hts (fun w h => sub_z _ (inX5 w h)) hown hK hP 35 rfl rfl 0 (by decide) (hts _ (sub_z _ k_173)) (fun _ h => h) rfl dX5_findSums_14 ?_
            obtain ⟨v2, hv2, h⟩ := dq h
            refine cVi (As := []) (rest := [.int x3_12]) ⟨hx, hb, hml, hown, hts⟩ (c_X6_count (dT := dT) (rs := rs) (g := g) (bh := bh) (c1 := c1) (c2 := c2) (re := re) (pl := pl_12) (cl := cl) hD hv2) (cwV 0 hts (good_V sub_z k_570 k_538 k_539 k_6 k_540) rfl rfl rfl (by decide +kernel) (by decide)) (va_recv hK hP (ci := 5) (q0 := 27) rfl rfl) hK hP hS rfl hl.1 rfl (Nat.le_of_ble_eq_true rfl) dX5_findSums_17 (by decide) (fun H locs hP hS => ?_)
            refine lv_icmp_ge (tgt := 48) hx hb dX5_findSums_20 (by decide) (fun k3 => ?_) (fun k3 => ?_)
            · rw [if_pos k3] at h
              obtain rfl := Option.some.inj h
              exact kk _ _ _ (lv_sub hl [0, 1, 2, 3] rfl) hP hS
            · rw [if_neg k3] at h
              refine lv_aload_n hx hb dX5_findSums_23 rfl (lv_at hl 0 rfl) ?_
              refine va_get (D := D) (ci := 4) (v := .ref (q 37)) (C := RX5) (T := TX5) (N := 8) hx hb hts (fun w h => sub_z _ (inX5 w h)) hown hK hP 35 rfl rfl 2 (by decide) (hts _ (sub_z _ k_175)) (fun _ h => h) rfl dX5_findSums_24 ?_
              refine lv_iload_n hx hb dX5_findSums_27 rfl (lv_at hl 2 rfl) ?_
              refine lv_sipush (v := 600) hx hb dX5_findSums_28 (by decide) ?_
              refine lv_imul hx hb dX5_findSums_31 ?_
              refine lv_iload_n hx hb dX5_findSums_32 rfl (lv_at hl 3 rfl) ?_
              refine lv_iadd hx hb dX5_findSums_33 ?_
              refine lv_aload_n hx hb dX5_findSums_34 rfl (lv_at hl 0 rfl) ?_
              refine lv_iload_n hx hb dX5_findSums_35 rfl (lv_at hl 3 rfl) ?_
              refine lv_iload_n hx hb dX5_findSums_36 rfl (lv_at hl 2 rfl) ?_
              obtain ⟨v4, hv4, h⟩ := dq h
              refine cVi (As := [.int x3_12, .int x2_5]) (rest := [.int ((x2_5 * (600 : Int32)) + x3_12), .ref (q 37)]) ⟨hx, hb, hml, hown, hts⟩ (c_X5_sumFrom (dT := dT) (rs := rs) (g := g) (bh := bh) (c1 := c1) (c2 := c2) (re := re) (pl := pl_12) (cl := cl) hD hv4) (cwV 2 hts (good_V sub_z k_624 k_626 ks_16 k_7 k_627) rfl rfl rfl (by decide +kernel) (by decide)) (va_recv hK hP (ci := 4) (q0 := 35) rfl rfl) hK hP hS rfl hl.1 rfl (Nat.le_of_ble_eq_true rfl) dX5_findSums_37 (by decide) (fun H locs hP hS => ?_)
              refine lv_i2s (v := v4.toInt16.toInt32) hx hb dX5_findSums_40 rfl ?_
              obtain ⟨k5, h⟩ := dg h
              refine va_sast (f := pl_12.2.1) hx hb hK hP (xD.w hD) hS 37 2 rfl rfl (inb_vp k5) dX5_findSums_41 (fun H locs hP _ hS => ?_)
              have hP : va_P D vwCl (wX dT q rs g bh c1 c2 re (pl_12.1, (upd pl_12.2.1 ((x2_5 * (600 : Int32)) + x3_12).toNatClampNeg (vp_nar .short v4.toInt16.toInt32)), pl_12.2.2.1, pl_12.2.2.2.1, pl_12.2.2.2.2.1, pl_12.2.2.2.2.2.1, pl_12.2.2.2.2.2.2) cl) H := hP
              refine lv_iinc (v := (x3_12 + (1 : Int32))) (lv' := [(3, .int (x3_12 + (1 : Int32))), (0, .ref (q 35)), (1, .int a1), (2, .int x2_5)]) hx hb dX5_findSums_42 hl (k := 3) rfl rfl (by decide) rfl (fun ls hl => ?_)
              refine lv_goto (tgt := 12) hx hb dX5_findSums_45 (by decide) ?_
              exact ih _ _ _ h _ _ _ (lv_sub hl [1, 2, 3, 0] rfl) hP hS _ kk
        obtain ⟨y7, hy7, h⟩ := dq h
        refine hL12_6 _ _ _ _ hy7 _ _ _ (lv_sub hl [1, 2, 3, 0] rfl) hP hS _ (fun ls H locs hl hP hS => ?_)
        refine lv_iinc (v := (x2_5 + (1 : Int32))) (lv' := [(2, .int (x2_5 + (1 : Int32))), (0, .ref (q 35)), (1, .int a1), (3, .int y7.1)]) hx hb dX5_findSums_48 hl (k := 2) rfl rfl (by decide) rfl (fun ls hl => ?_)
        refine lv_goto (tgt := 5) hx hb dX5_findSums_51 (by decide) ?_
        exact ih _ _ _ h _ _ _ (lv_sub hl [1, 2, 0] rfl) hP hS _ kk
  obtain ⟨y9, hy9, h⟩ := dq h
  refine hL5_8 _ _ _ _ hy9 _ _ _ (lv_sub hl [1, 2, 0] rfl) hP hS _ (fun ls H locs hl hP hS => ?_)
  refine lv_aload_n hx hb dX5_findSums_54 rfl (lv_at hl 0 rfl) ?_
  refine lv_aload_n hx hb dX5_findSums_55 rfl (lv_at hl 0 rfl) ?_
  refine va_get (D := D) (ci := 4) (v := .int y9.2.2.2.2.2.1) (C := RX5) (T := TX5) (N := 8) hx hb hts (fun w h => sub_z _ (inX5 w h)) hown hK hP 35 rfl rfl 5 (by decide) (hts _ (sub_z _ k_178)) (fun _ h => h) rfl dX5_findSums_56 ?_
  refine lv_iload_n hx hb dX5_findSums_59 rfl (lv_at hl 1 rfl) ?_
  refine lv_iconst (v := 1) hx hb dX5_findSums_60 (by decide) ?_
  refine lv_iadd hx hb dX5_findSums_61 ?_
  refine va_mmax hx hb (hml.trans hl.1.symm) hown (hts _ (sub_z _ k_643)) (hts _ (sub_z _ k_466)) (hts _ (sub_z _ k_12)) (hts _ (sub_z _ k_mmax)) (by decide) (Nat.le_of_ble_eq_true rfl) (Nat.le_refl _) (Nat.le_refl _) dX5_findSums_62 ?_
  refine va_put (D := D) (ci := 4) (v := .int (if y9.2.2.2.2.2.1 < (a1 + (1 : Int32)) then (a1 + (1 : Int32)) else y9.2.2.2.2.2.1)) (ty := .int) (C := RX5) (T := TX5) (N := 8) hx hb hts (fun w h => sub_z _ (inX5 w h)) tyX5 tyX5_ok nmX5 hown hK hP (xD.w hD) hS 35 rfl rfl 5 (by decide) (hts _ (sub_z _ k_178)) (fun _ h => h) rfl (by decide +kernel) rfl rfl (Nat.le_of_ble_eq_true rfl) dX5_findSums_65 (fun H locs hP _ hS => ?_)
  have hP : va_P D vwCl (wX dT q rs g bh c1 c2 re (y9.2.1, y9.2.2.1, y9.2.2.2.1, y9.2.2.2.2.1, (if y9.2.2.2.2.2.1 < (a1 + (1 : Int32)) then (a1 + (1 : Int32)) else y9.2.2.2.2.2.1), y9.2.2.2.2.2.2.1, y9.2.2.2.2.2.2.2) cl) H := hP
  obtain rfl := Option.some.inj h
  exact rV hx hb hr hlk hK hP hS dX5_findSums_68

set_option maxRecDepth 100000 in
set_option maxHeartbeats 4000000 in
theorem c_X5_leastSum {l : Launch} {D : va_G} {dT : Nat → ClassId} {q : Nat → Nat} (hD : xD q) {rs : (Nat → tRow)} {g : tG_} {bh : tBH} {c1 : tC} {c2 : tC} {re : tRE} {pl : tPL} {cl : tCL} {a1 : Int32} {v : Int32 × tPL} (h : f_X5_leastSum re pl a1 = some v) : MG l yX5_leastSum cX5_leastSum 2 (some .int) 5 [.ref (q 35), .int a1] D (tyL dT) (wX dT q rs g bh c1 c2 re pl cl) (QI D (tyL dT) (xA q) (wX dT q rs g bh c1 c2 re v.2 cl) v.1) (xA q) := by
  refine MG.mk (by decide +kernel) (Nat.le_of_ble_eq_true rfl) ?_
  intro p e s m below meth c hx hb hr hml hown hts hlk hK hP ls hl
  have hown : s.vm.findClass RX5 = some m.cls := hown
  have hS : va_S (xA q) s.heap s.heap [] := va_S.rf
  have hl : lv_has ls 2 [(0, .ref (q 35)), (1, .int a1)] := hl
  rw [f_X5_leastSum] at h
  refine lv_aload_n hx hb dX5_leastSum_0 rfl (lv_at hl 0 rfl) ?_
  refine lv_iload_n hx hb dX5_leastSum_1 rfl (lv_at hl 1 rfl) ?_
  obtain ⟨v1, hv1, h⟩ := dq h
  refine cVv (As := [.int a1]) (rest := []) ⟨hx, hb, hml, hown, hts⟩ (c_X5_findSums (dT := dT) (rs := rs) (g := g) (bh := bh) (c1 := c1) (c2 := c2) (re := re) (pl := pl) (cl := cl) hD hv1) (cwV 1 hts (good_V sub_z k_620 k_622 ks_15 k_7 k_623) rfl rfl rfl (by decide +kernel) (by decide)) (va_recv hK hP (ci := 4) (q0 := 35) rfl rfl) hK hP hS rfl hl.1 rfl (Nat.le_of_ble_eq_true rfl) dX5_leastSum_2 (by decide) (fun H locs hP hS => ?_)
  refine lv_aload_n hx hb dX5_leastSum_5 rfl (lv_at hl 0 rfl) ?_
  refine va_get (D := D) (ci := 4) (v := .ref (q 37)) (C := RX5) (T := TX5) (N := 8) hx hb hts (fun w h => sub_z _ (inX5 w h)) hown hK hP 35 rfl rfl 2 (by decide) (hts _ (sub_z _ k_175)) (fun _ h => h) rfl dX5_leastSum_6 ?_
  refine lv_iload_n hx hb dX5_leastSum_9 rfl (lv_at hl 1 rfl) ?_
  refine lv_sipush (v := 600) hx hb dX5_leastSum_10 (by decide) ?_
  refine lv_imul hx hb dX5_leastSum_13 ?_
  refine lv_iconst (v := 0) hx hb dX5_leastSum_14 (by decide) ?_
  refine lv_iadd hx hb dX5_leastSum_15 ?_
  obtain ⟨k2, h⟩ := dg h
  refine va_sald (f := v1.2.1) hx hb hK hP 37 2 rfl rfl (inb_vp k2) dX5_leastSum_16 ?_
  obtain rfl := Option.some.inj h
  exact rI hx hb hr hlk hK hP hS dX5_leastSum_17

set_option maxRecDepth 100000 in
set_option maxHeartbeats 4000000 in
theorem c_X5_makePlan {l : Launch} {D : va_G} {dT : Nat → ClassId} {q : Nat → Nat} (hD : xD q) {rs : (Nat → tRow)} {g : tG_} {bh : tBH} {c1 : tC} {c2 : tC} {re : tRE} {pl : tPL} {cl : tCL} {a1 : Int32} {v : tPL} (h : f_X5_makePlan re pl a1 = some v) : MG l yX5_makePlan cX5_makePlan 5 none 5 [.ref (q 35), .int a1] D (tyL dT) (wX dT q rs g bh c1 c2 re pl cl) (QV D (tyL dT) (xA q) (wX dT q rs g bh c1 c2 re v cl)) (xA q) := by
  refine MG.mk (by decide +kernel) (Nat.le_of_ble_eq_true rfl) ?_
  intro p e s m below meth c hx hb hr hml hown hts hlk hK hP ls hl
  have hown : s.vm.findClass RX5 = some m.cls := hown
  have hS : va_S (xA q) s.heap s.heap [] := va_S.rf
  have hl : lv_has ls 5 [(0, .ref (q 35)), (1, .int a1)] := hl
  rw [f_X5_makePlan] at h
  refine lv_aload_n hx hb dX5_makePlan_0 rfl (lv_at hl 0 rfl) ?_
  refine va_get (D := D) (ci := 4) (v := .int pl.2.2.2.2.2.1) (C := RX5) (T := TX5) (N := 8) hx hb hts (fun w h => sub_z _ (inX5 w h)) hown hK hP 35 rfl rfl 6 (by decide) (hts _ (sub_z _ k_179)) (fun _ h => h) rfl dX5_makePlan_1 ?_
  refine lv_iload_n hx hb dX5_makePlan_4 rfl (lv_at hl 1 rfl) ?_
  refine lv_icmp_ne (tgt := 9) hx hb dX5_makePlan_5 (by decide) (fun k1 => ?_) (fun k1 => ?_)
  · rw [if_neg k1] at h
    refine lv_aload_n hx hb dX5_makePlan_9 rfl (lv_at hl 0 rfl) ?_
    refine lv_iload_n hx hb dX5_makePlan_10 rfl (lv_at hl 1 rfl) ?_
    obtain ⟨v2, hv2, h⟩ := dq h
    refine cVv (As := [.int a1]) (rest := []) ⟨hx, hb, hml, hown, hts⟩ (c_X5_findSums (dT := dT) (rs := rs) (g := g) (bh := bh) (c1 := c1) (c2 := c2) (re := re) (pl := pl) (cl := cl) hD hv2) (cwV 1 hts (good_V sub_z k_620 k_622 ks_15 k_7 k_623) rfl rfl rfl (by decide +kernel) (by decide)) (va_recv hK hP (ci := 4) (q0 := 35) rfl rfl) hK hP hS rfl hl.1 rfl (Nat.le_of_ble_eq_true rfl) dX5_makePlan_11 (by decide) (fun H locs hP hS => ?_)
    refine lv_aload_n hx hb dX5_makePlan_14 rfl (lv_at hl 0 rfl) ?_
    refine lv_iload_n hx hb dX5_makePlan_15 rfl (lv_at hl 1 rfl) ?_
    refine va_put (D := D) (ci := 4) (v := .int a1) (ty := .int) (C := RX5) (T := TX5) (N := 8) hx hb hts (fun w h => sub_z _ (inX5 w h)) tyX5 tyX5_ok nmX5 hown hK hP (xD.w hD) hS 35 rfl rfl 6 (by decide) (hts _ (sub_z _ k_179)) (fun _ h => h) rfl (by decide +kernel) rfl rfl (Nat.le_of_ble_eq_true rfl) dX5_makePlan_16 (fun H locs hP _ hS => ?_)
    have hP : va_P D vwCl (wX dT q rs g bh c1 c2 re (v2.1, v2.2.1, v2.2.2.1, v2.2.2.2.1, v2.2.2.2.2.1, a1, v2.2.2.2.2.2.2) cl) H := hP
    refine lv_aload_n hx hb dX5_makePlan_19 rfl (lv_at hl 0 rfl) ?_
    refine lv_iconst (v := 0) hx hb dX5_makePlan_20 (by decide) ?_
    refine va_put (D := D) (ci := 4) (v := .int (0 : Int32)) (ty := .int) (C := RX5) (T := TX5) (N := 8) hx hb hts (fun w h => sub_z _ (inX5 w h)) tyX5 tyX5_ok nmX5 hown hK hP (xD.w hD) hS 35 rfl rfl 7 (by decide) (hts _ (sub_z _ k_180)) (fun _ h => h) rfl (by decide +kernel) rfl rfl (Nat.le_of_ble_eq_true rfl) dX5_makePlan_21 (fun H locs hP _ hS => ?_)
    have hP : va_P D vwCl (wX dT q rs g bh c1 c2 re (v2.1, v2.2.1, v2.2.2.1, v2.2.2.2.1, v2.2.2.2.2.1, a1, (0 : Int32)) cl) H := hP
    refine lv_iconst (v := 0) hx hb dX5_makePlan_24 (by decide) ?_
    refine lv_istore_n (lv' := [(2, .int (0 : Int32)), (0, .ref (q 35)), (1, .int a1)]) hx hb dX5_makePlan_25 rfl hl (by decide) rfl (fun ls hl => ?_)
    refine lv_iload_n hx hb dX5_makePlan_26 rfl (lv_at hl 2 rfl) ?_
    refine lv_istore_n (lv' := [(3, .int a1), (2, .int (0 : Int32)), (0, .ref (q 35)), (1, .int a1)]) hx hb dX5_makePlan_27 rfl hl (by decide) rfl (fun ls hl => ?_)
    have hL28_10 : ∀ (n : Nat) (pl_28 : tPL) (x2_28 : Int32) (x3_28 : Int32) (y : Int32 × Int32 × tPL), f_X5_makePlan_28 n re pl_28 a1 x2_28 x3_28 = some y → ∀ (ls : Array Slot) (H : Heap) (locs : List Loc), lv_has ls 5 [(0, .ref (q 35)), (1, .int a1), (2, .int x2_28), (3, .int x3_28)] → va_P D vwCl (wX dT q rs g bh c1 c2 re pl_28 cl) H → va_S (xA q) s.heap H locs → ∀ Q : State → Prop, (∀ (ls : Array Slot) (H : Heap) (locs : List Loc), lv_has ls 5 [(0, .ref (q 35)), (1, .int a1), (2, .int y.1), (3, .int y.2.1)] → va_P D vwCl (wX dT q rs g bh c1 c2 re y.2.2 cl) H → va_S (xA q) s.heap H locs → W p l e (rmD 5) s m [.ref (q 35), .int a1].toArray below meth c H locs 0 0 Q (F0 m 90 ls [])) → W p l e (rmD 5) s m [.ref (q 35), .int a1].toArray below meth c H locs 0 0 Q (F0 m 28 ls []) := by
      intro n
      induction n with
      | zero => intro pl_28 x2_28 x3_28 y h; exact absurd h (by simp [f_X5_makePlan_28])
      | succ n ih =>
        intro pl_28 x2_28 x3_28 y h ls H locs hl hP hS Q kk
        rw [f_X5_makePlan_28] at h
        refine lv_iload_n hx hb dX5_makePlan_28 rfl (lv_at hl 3 rfl) ?_
        refine lv_if_le (tgt := 90) hx hb dX5_makePlan_29 (by decide) (fun k3 => ?_) (fun k3 => ?_)
        · rw [if_pos k3] at h
          obtain rfl := Option.some.inj h
          exact kk _ _ _ (lv_sub hl [0, 1, 2, 3] rfl) hP hS
        · rw [if_neg k3] at h
          refine lv_aload_n hx hb dX5_makePlan_32 rfl (lv_at hl 0 rfl) ?_
          refine va_get (D := D) (ci := 4) (v := .int pl_28.2.2.2.2.2.2) (C := RX5) (T := TX5) (N := 8) hx hb hts (fun w h => sub_z _ (inX5 w h)) hown hK hP 35 rfl rfl 7 (by decide) (hts _ (sub_z _ k_180)) (fun _ h => h) rfl dX5_makePlan_33 ?_
          refine lv_bipush (v := 60) hx hb dX5_makePlan_36 (by decide) ?_
          refine lv_icmp_ge (tgt := 90) hx hb dX5_makePlan_38 (by decide) (fun k4 => ?_) (fun k4 => ?_)
          · rw [if_pos k4] at h
            obtain rfl := Option.some.inj h
            exact kk _ _ _ (lv_sub hl [0, 1, 2, 3] rfl) hP hS
          · rw [if_neg k4] at h
            refine lv_aload_n hx hb dX5_makePlan_41 rfl (lv_at hl 0 rfl) ?_
            refine lv_iload_n hx hb dX5_makePlan_42 rfl (lv_at hl 2 rfl) ?_
            refine lv_iload_n hx hb dX5_makePlan_43 rfl (lv_at hl 3 rfl) ?_
            obtain ⟨v5, hv5, h⟩ := dq h
            refine cVi (As := [.int x2_28, .int x3_28]) (rest := []) ⟨hx, hb, hml, hown, hts⟩ (c_X5_bestWay (dT := dT) (rs := rs) (g := g) (bh := bh) (c1 := c1) (c2 := c2) (re := re) (pl := pl_28) (cl := cl) hD hv5) (cwV 2 hts (good_V sub_z k_632 k_634 ks_17 k_7 k_635) rfl rfl rfl (by decide +kernel) (by decide)) (va_recv hK hP (ci := 4) (q0 := 35) rfl rfl) hK hP hS rfl hl.1 rfl (Nat.le_of_ble_eq_true rfl) dX5_makePlan_44 (by decide) (fun H locs hP hS => ?_)
            refine lv_istore (lv' := [(4, .int v5), (0, .ref (q 35)), (1, .int a1), (2, .int x2_28), (3, .int x3_28)]) hx hb dX5_makePlan_47 hl (by decide) rfl (fun ls hl => ?_)
            refine lv_aload_n hx hb dX5_makePlan_49 rfl (lv_at hl 1 rfl) ?_
            refine va_get (D := D) (ci := 4) (v := .ref (q 38)) (C := RX5) (T := TX5) (N := 8) hx hb hts (fun w h => sub_z _ (inX5 w h)) hown hK hP 35 rfl rfl 3 (by decide) (hts _ (sub_z _ k_176)) (fun _ h => h) rfl dX5_makePlan_50 ?_
            refine lv_aload_n hx hb dX5_makePlan_53 rfl (lv_at hl 1 rfl) ?_
            refine va_get (D := D) (ci := 4) (v := .int pl_28.2.2.2.2.2.2) (C := RX5) (T := TX5) (N := 8) hx hb hts (fun w h => sub_z _ (inX5 w h)) hown hK hP 35 rfl rfl 7 (by decide) (hts _ (sub_z _ k_180)) (fun _ h => h) rfl dX5_makePlan_54 ?_
            refine lv_iload hx hb dX5_makePlan_57 (lv_at hl 0 rfl) ?_
            obtain ⟨v6, hv6, h⟩ := dq h
            refine cSi (As := [.int v5]) (rest := [.int pl_28.2.2.2.2.2.2, .ref (q 38)]) ⟨hx, hb, hml, hown, hts⟩ (c_X6_handling (dT := dT) (rs := rs) (g := g) (bh := bh) (c1 := c1) (c2 := c2) (re := re) (pl := pl_28) (cl := cl) hD hv6) (va_cwS 1 hts (good_S sub_z k_652 k_653 k_6 k_654) rfl rfl rfl (by decide +kernel) (by decide)) hK hP hS rfl hl.1 rfl (Nat.le_of_ble_eq_true rfl) dX5_makePlan_59 (by decide) (fun H locs hP hS => ?_)
            obtain ⟨k7, h⟩ := dg h
            refine va_iast (f := pl_28.2.2.1) hx hb hK hP (xD.w hD) hS 38 0 rfl rfl (inb_vp k7) dX5_makePlan_62 (fun H locs hP _ hS => ?_)
            have hP : va_P D vwCl (wX dT q rs g bh c1 c2 re (pl_28.1, pl_28.2.1, (upd pl_28.2.2.1 pl_28.2.2.2.2.2.2.toNatClampNeg v6), pl_28.2.2.2.1, pl_28.2.2.2.2.1, pl_28.2.2.2.2.2.1, pl_28.2.2.2.2.2.2) cl) H := hP
            refine lv_aload_n hx hb dX5_makePlan_63 rfl (lv_at hl 1 rfl) ?_
            refine lv_dup hx hb dX5_makePlan_64 rfl ?_
            refine va_get (D := D) (ci := 4) (v := .int pl_28.2.2.2.2.2.2) (C := RX5) (T := TX5) (N := 8) hx hb hts (fun w h => sub_z _ (inX5 w h)) hown hK hP 35 rfl rfl 7 (by decide) (hts _ (sub_z _ k_180)) (fun _ h => h) rfl dX5_makePlan_65 ?_
            refine lv_iconst (v := 1) hx hb dX5_makePlan_68 (by decide) ?_
            refine lv_iadd hx hb dX5_makePlan_69 ?_
            refine va_put (D := D) (ci := 4) (v := .int (pl_28.2.2.2.2.2.2 + (1 : Int32))) (ty := .int) (C := RX5) (T := TX5) (N := 8) hx hb hts (fun w h => sub_z _ (inX5 w h)) tyX5 tyX5_ok nmX5 hown hK hP (xD.w hD) hS 35 rfl rfl 7 (by decide) (hts _ (sub_z _ k_180)) (fun _ h => h) rfl (by decide +kernel) rfl rfl (Nat.le_of_ble_eq_true rfl) dX5_makePlan_70 (fun H locs hP _ hS => ?_)
            have hP : va_P D vwCl (wX dT q rs g bh c1 c2 re (pl_28.1, pl_28.2.1, (upd pl_28.2.2.1 pl_28.2.2.2.2.2.2.toNatClampNeg v6), pl_28.2.2.2.1, pl_28.2.2.2.2.1, pl_28.2.2.2.2.2.1, (pl_28.2.2.2.2.2.2 + (1 : Int32))) cl) H := hP
            refine lv_iload hx hb dX5_makePlan_73 (lv_at hl 0 rfl) ?_
            obtain ⟨v8, hv8, h⟩ := dq h
            refine cSi (As := [.int v5]) (rest := []) ⟨hx, hb, hml, hown, hts⟩ (c_X6_goal (dT := dT) (rs := rs) (g := g) (bh := bh) (c1 := c1) (c2 := c2) (re := re) (pl := (pl_28.1, pl_28.2.1, (upd pl_28.2.2.1 pl_28.2.2.2.2.2.2.toNatClampNeg v6), pl_28.2.2.2.1, pl_28.2.2.2.2.1, pl_28.2.2.2.2.2.1, (pl_28.2.2.2.2.2.2 + (1 : Int32)))) (cl := cl) hD hv8) (va_cwS 1 hts (good_S sub_z k_587 k_588 k_6 k_589) rfl rfl rfl (by decide +kernel) (by decide)) hK hP hS rfl hl.1 rfl (Nat.le_of_ble_eq_true rfl) dX5_makePlan_75 (by decide) (fun H locs hP hS => ?_)
            refine lv_istore_n (lv' := [(2, .int v8), (4, .int v5), (0, .ref (q 35)), (1, .int a1), (3, .int x3_28)]) hx hb dX5_makePlan_78 rfl hl (by decide) rfl (fun ls hl => ?_)
            refine lv_iload_n hx hb dX5_makePlan_79 rfl (lv_at hl 4 rfl) ?_
            refine lv_iload hx hb dX5_makePlan_80 (lv_at hl 1 rfl) ?_
            obtain ⟨v9, hv9, h⟩ := dq h
            refine cSi (As := [.int v5]) (rest := [.int x3_28]) ⟨hx, hb, hml, hown, hts⟩ (c_X6_passing (dT := dT) (rs := rs) (g := g) (bh := bh) (c1 := c1) (c2 := c2) (re := re) (pl := (pl_28.1, pl_28.2.1, (upd pl_28.2.2.1 pl_28.2.2.2.2.2.2.toNatClampNeg v6), pl_28.2.2.2.1, pl_28.2.2.2.2.1, pl_28.2.2.2.2.2.1, (pl_28.2.2.2.2.2.2 + (1 : Int32)))) (cl := cl) hD hv9) (va_cwS 1 hts (good_S sub_z k_590 k_591 k_6 k_592) rfl rfl rfl (by decide +kernel) (by decide)) hK hP hS rfl hl.1 rfl (Nat.le_of_ble_eq_true rfl) dX5_makePlan_82 (by decide) (fun H locs hP hS => ?_)
            refine lv_isub hx hb dX5_makePlan_85 ?_
            refine lv_istore_n (lv' := [(3, .int (x3_28 - v9)), (2, .int v8), (4, .int v5), (0, .ref (q 35)), (1, .int a1)]) hx hb dX5_makePlan_86 rfl hl (by decide) rfl (fun ls hl => ?_)
            refine lv_goto (tgt := 28) hx hb dX5_makePlan_87 (by decide) ?_
            exact ih _ _ _ _ h _ _ _ (lv_sub hl [3, 4, 1, 0] rfl) hP hS _ kk
    obtain ⟨y11, hy11, h⟩ := dq h
    refine hL28_10 _ _ _ _ _ hy11 _ _ _ (lv_sub hl [2, 3, 1, 0] rfl) hP hS _ (fun ls H locs hl hP hS => ?_)
    obtain rfl := Option.some.inj h
    exact rV hx hb hr hlk hK hP hS dX5_makePlan_90
  · rw [if_pos k1] at h
    obtain rfl := Option.some.inj h
    exact rV hx hb hr hlk hK hP hS dX5_makePlan_8

set_option maxRecDepth 100000 in
set_option maxHeartbeats 4000000 in
theorem c_X5_planLength {l : Launch} {D : va_G} {dT : Nat → ClassId} {q : Nat → Nat} (hD : xD q) {rs : (Nat → tRow)} {g : tG_} {bh : tBH} {c1 : tC} {c2 : tC} {re : tRE} {pl : tPL} {cl : tCL}  {v : Int32} (h : f_X5_planLength pl = some v) : MG l yX5_planLength cX5_planLength 1 (some .int) 0 [.ref (q 35)] D (tyL dT) (wX dT q rs g bh c1 c2 re pl cl) (QI D (tyL dT) (xA q) (wX dT q rs g bh c1 c2 re pl cl) v) (xA q) := by
  refine MG.mk (by decide +kernel) (Nat.le_of_ble_eq_true rfl) ?_
  intro p e s m below meth c hx hb hr hml hown hts hlk hK hP ls hl
  have hown : s.vm.findClass RX5 = some m.cls := hown
  have hS : va_S (xA q) s.heap s.heap [] := va_S.rf
  have hl : lv_has ls 1 [(0, .ref (q 35))] := hl
  rw [f_X5_planLength] at h
  refine lv_aload_n hx hb dX5_planLength_0 rfl (lv_at hl 0 rfl) ?_
  refine va_get (D := D) (ci := 4) (v := .int pl.2.2.2.2.2.2) (C := RX5) (T := TX5) (N := 8) hx hb hts (fun w h => sub_z _ (inX5 w h)) hown hK hP 35 rfl rfl 7 (by decide) (hts _ (sub_z _ k_180)) (fun _ h => h) rfl dX5_planLength_1 ?_
  obtain rfl := Option.some.inj h
  exact rI hx hb hr hlk hK hP hS dX5_planLength_4

set_option maxRecDepth 100000 in
set_option maxHeartbeats 4000000 in
theorem c_X5_handlingAt {l : Launch} {D : va_G} {dT : Nat → ClassId} {q : Nat → Nat} (hD : xD q) {rs : (Nat → tRow)} {g : tG_} {bh : tBH} {c1 : tC} {c2 : tC} {re : tRE} {pl : tPL} {cl : tCL} {a1 : Int32} {v : Int32} (h : f_X5_handlingAt pl a1 = some v) : MG l yX5_handlingAt cX5_handlingAt 2 (some .int) 0 [.ref (q 35), .int a1] D (tyL dT) (wX dT q rs g bh c1 c2 re pl cl) (QI D (tyL dT) (xA q) (wX dT q rs g bh c1 c2 re pl cl) v) (xA q) := by
  refine MG.mk (by decide +kernel) (Nat.le_of_ble_eq_true rfl) ?_
  intro p e s m below meth c hx hb hr hml hown hts hlk hK hP ls hl
  have hown : s.vm.findClass RX5 = some m.cls := hown
  have hS : va_S (xA q) s.heap s.heap [] := va_S.rf
  have hl : lv_has ls 2 [(0, .ref (q 35)), (1, .int a1)] := hl
  rw [f_X5_handlingAt] at h
  refine lv_aload_n hx hb dX5_handlingAt_0 rfl (lv_at hl 0 rfl) ?_
  refine va_get (D := D) (ci := 4) (v := .ref (q 38)) (C := RX5) (T := TX5) (N := 8) hx hb hts (fun w h => sub_z _ (inX5 w h)) hown hK hP 35 rfl rfl 3 (by decide) (hts _ (sub_z _ k_176)) (fun _ h => h) rfl dX5_handlingAt_1 ?_
  refine lv_iload_n hx hb dX5_handlingAt_4 rfl (lv_at hl 1 rfl) ?_
  obtain ⟨k1, h⟩ := dg h
  refine va_iald (f := pl.2.2.1) hx hb hK hP 38 0 rfl rfl (inb_vp k1) dX5_handlingAt_5 ?_
  obtain rfl := Option.some.inj h
  exact rI hx hb hr hlk hK hP hS dX5_handlingAt_6
