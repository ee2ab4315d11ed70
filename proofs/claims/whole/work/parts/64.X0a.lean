set_option maxRecDepth 100000 in
set_option maxHeartbeats 4000000 in
theorem c_X0_restart {l : Launch} {D : va_G} {dT : Nat → ClassId} {q : Nat → Nat} (hD : xD q) {rs : (Nat → tRow)} {g : tG_} {bh : tBH} {c1 : tC} {c2 : tC} {re : tRE} {pl : tPL} {cl : tCL}  {v : tBH × tC} (h : f_X0_restart bh c1 = some v) : MG l yX0_restart cX0_restart 1 none 1 [.ref (q 14)] D (tyL dT) (wX dT q rs g bh c1 c2 re pl cl) (QV D (tyL dT) (xA q) (wX dT q rs g v.1 v.2 c2 re pl cl)) (xA q) := by
  refine MG.mk (by decide +kernel) (Nat.le_of_ble_eq_true rfl) ?_
  intro p e s m below meth c hx hb hr hml hown hts hlk hK hP ls hl
  have hown : s.vm.findClass RX0 = some m.cls := hown
  have hS : va_S (xA q) s.heap s.heap [] := va_S.rf
  have hl : lv_has ls 1 [(0, .ref (q 14))] := hl
  rw [f_X0_restart] at h
  refine lv_aload_n hx hb dX0_restart_0 rfl (lv_at hl 0 rfl) ?_
  refine va_get (D := D) (ci := 0) (v := .ref (q 15)) (C := RX0) (T := TX0) (N := 9) hx hb hts (fun w h => sub_z _ (inX0 w h)) hown hK hP 14 rfl rfl 0 (by decide) (hts _ (sub_z _ k_90)) (fun _ h => h) rfl dX0_restart_1 ?_
  refine lv_lconst (v := 0) hx hb dX0_restart_4 (by decide) ?_
  obtain ⟨v1, hv1, h⟩ := dq h
  refine cVv (As := [.long (0 : Int64)]) (rest := []) ⟨hx, hb, hml, hown, hts⟩ (c_X2_take_1 (dT := dT) (rs := rs) (g := g) (bh := bh) (c1 := c1) (c2 := c2) (re := re) (pl := pl) (cl := cl) hD hv1) (cwV 1 hts (good_V sub_z k_316 k_317 k_318 k_5 k_319) rfl rfl rfl (by decide +kernel) (by decide)) (va_recv hK hP (ci := 2) (q0 := 15) rfl rfl) hK hP hS rfl hl.1 rfl (Nat.le_of_ble_eq_true rfl) dX0_restart_5 (by decide) (fun H locs hP hS => ?_)
  refine lv_aload_n hx hb dX0_restart_8 rfl (lv_at hl 0 rfl) ?_
  refine lv_iconst (v := 1) hx hb dX0_restart_9 (by decide) ?_
  refine va_put (D := D) (ci := 0) (v := .int (1 : Int32)) (ty := .int) (C := RX0) (T := TX0) (N := 9) hx hb hts (fun w h => sub_z _ (inX0 w h)) tyX0 tyX0_ok nmX0 hown hK hP (xD.w hD) hS 14 rfl rfl 2 (by decide) (hts _ (sub_z _ k_92)) (fun _ h => h) rfl (by decide +kernel) rfl rfl (Nat.le_of_ble_eq_true rfl) dX0_restart_10 (fun H locs hP _ hS => ?_)
  have hP : va_P D vwCl (wX dT q rs g (bh.1, (1 : Int32), bh.2.2.1, bh.2.2.2.1, bh.2.2.2.2.1, bh.2.2.2.2.2.1, bh.2.2.2.2.2.2.1, bh.2.2.2.2.2.2.2) v1 c2 re pl cl) H := hP
  refine lv_aload_n hx hb dX0_restart_13 rfl (lv_at hl 0 rfl) ?_
  refine lv_iconst (v := 0) hx hb dX0_restart_14 (by decide) ?_
  refine va_put (D := D) (ci := 0) (v := .int (0 : Int32)) (ty := .boolean) (C := RX0) (T := TX0) (N := 9) hx hb hts (fun w h => sub_z _ (inX0 w h)) tyX0 tyX0_ok nmX0 hown hK hP (xD.w hD) hS 14 rfl rfl 3 (by decide) (hts _ (sub_z _ k_93)) (fun _ h => h) rfl (by decide +kernel) rfl rfl (Nat.le_of_ble_eq_true rfl) dX0_restart_15 (fun H locs hP _ hS => ?_)
  have hP : va_P D vwCl (wX dT q rs g (bh.1, (1 : Int32), (0 : Int32), bh.2.2.2.1, bh.2.2.2.2.1, bh.2.2.2.2.2.1, bh.2.2.2.2.2.2.1, bh.2.2.2.2.2.2.2) v1 c2 re pl cl) H := hP
  refine lv_aload_n hx hb dX0_restart_18 rfl (lv_at hl 0 rfl) ?_
  refine lv_iconst (v := 0) hx hb dX0_restart_19 (by decide) ?_
  refine va_put (D := D) (ci := 0) (v := .int (0 : Int32)) (ty := .int) (C := RX0) (T := TX0) (N := 9) hx hb hts (fun w h => sub_z _ (inX0 w h)) tyX0 tyX0_ok nmX0 hown hK hP (xD.w hD) hS 14 rfl rfl 7 (by decide) (hts _ (sub_z _ k_97)) (fun _ h => h) rfl (by decide +kernel) rfl rfl (Nat.le_of_ble_eq_true rfl) dX0_restart_20 (fun H locs hP _ hS => ?_)
  have hP : va_P D vwCl (wX dT q rs g (bh.1, (1 : Int32), (0 : Int32), bh.2.2.2.1, bh.2.2.2.2.1, bh.2.2.2.2.2.1, (0 : Int32), bh.2.2.2.2.2.2.2) v1 c2 re pl cl) H := hP
  obtain rfl := Option.some.inj h
  exact rV hx hb hr hlk hK hP hS dX0_restart_23

set_option maxRecDepth 100000 in
set_option maxHeartbeats 4000000 in
theorem c_X0_part {l : Launch} {D : va_G} {dT : Nat → ClassId} {q : Nat → Nat} (hD : xD q) {rs : (Nat → tRow)} {g : tG_} {bh : tBH} {c1 : tC} {c2 : tC} {re : tRE} {pl : tPL} {cl : tCL} {a1 : Int32} {a2 : Int32} {v : Int32} (h : f_X0_part c1 a1 a2 = some v) : MG l yX0_part cX0_part 3 (some .int) 1 [.ref (q 14), .int a1, .int a2] D (tyL dT) (wX dT q rs g bh c1 c2 re pl cl) (QI D (tyL dT) (xA q) (wX dT q rs g bh c1 c2 re pl cl) v) (xA q) := by
  refine MG.mk (by decide +kernel) (Nat.le_of_ble_eq_true rfl) ?_
  intro p e s m below meth c hx hb hr hml hown hts hlk hK hP ls hl
  have hown : s.vm.findClass RX0 = some m.cls := hown
  have hS : va_S (xA q) s.heap s.heap [] := va_S.rf
  have hl : lv_has ls 3 [(0, .ref (q 14)), (1, .int a1), (2, .int a2)] := hl
  rw [f_X0_part] at h
  refine lv_aload_n hx hb dX0_part_0 rfl (lv_at hl 0 rfl) ?_
  refine va_get (D := D) (ci := 0) (v := .ref (q 15)) (C := RX0) (T := TX0) (N := 9) hx hb hts (fun w h => sub_z _ (inX0 w h)) hown hK hP 14 rfl rfl 0 (by decide) (hts _ (sub_z _ k_90)) (fun _ h => h) rfl dX0_part_1 ?_
  refine lv_iload_n hx hb dX0_part_4 rfl (lv_at hl 1 rfl) ?_
  refine lv_iload_n hx hb dX0_part_5 rfl (lv_at hl 2 rfl) ?_
  obtain ⟨v1, hv1, h⟩ := dq h
  refine cVi (As := [.int a1, .int a2]) (rest := []) ⟨hx, hb, hml, hown, hts⟩ (c_X2_part_1 (dT := dT) (rs := rs) (g := g) (bh := bh) (c1 := c1) (c2 := c2) (re := re) (pl := pl) (cl := cl) hD hv1) (cwV 2 hts (good_V sub_z k_369 k_370 k_371 k_5 k_372) rfl rfl rfl (by decide +kernel) (by decide)) (va_recv hK hP (ci := 2) (q0 := 15) rfl rfl) hK hP hS rfl hl.1 rfl (Nat.le_of_ble_eq_true rfl) dX0_part_6 (by decide) (fun H locs hP hS => ?_)
  obtain rfl := Option.some.inj h
  exact rI hx hb hr hlk hK hP hS dX0_part_9

set_option maxRecDepth 100000 in
set_option maxHeartbeats 4000000 in
theorem c_X0_allows {l : Launch} {D : va_G} {dT : Nat → ClassId} {q : Nat → Nat} (hD : xD q) {rs : (Nat → tRow)} {g : tG_} {bh : tBH} {c1 : tC} {c2 : tC} {re : tRE} {pl : tPL} {cl : tCL} {a1 : Int32} {v : Int32} (h : f_X0_allows g c1 a1 = some v) : MG l yX0_allows cX0_allows 2 (some .boolean) 3 [.ref (q 14), .int a1] D (tyL dT) (wX dT q rs g bh c1 c2 re pl cl) (QI D (tyL dT) (xA q) (wX dT q rs g bh c1 c2 re pl cl) v) (xA q) := by
  refine MG.mk (by decide +kernel) (Nat.le_of_ble_eq_true rfl) ?_
  intro p e s m below meth c hx hb hr hml hown hts hlk hK hP ls hl
  have hown : s.vm.findClass RX0 = some m.cls := hown
  have hS : va_S (xA q) s.heap s.heap [] := va_S.rf
  have hl : lv_has ls 2 [(0, .ref (q 14)), (1, .int a1)] := hl
  rw [f_X0_allows] at h
  refine lv_aload_n hx hb dX0_allows_0 rfl (lv_at hl 0 rfl) ?_
  refine va_get (D := D) (ci := 0) (v := .ref (q 15)) (C := RX0) (T := TX0) (N := 9) hx hb hts (fun w h => sub_z _ (inX0 w h)) hown hK hP 14 rfl rfl 0 (by decide) (hts _ (sub_z _ k_90)) (fun _ h => h) rfl dX0_allows_1 ?_
  refine lv_iload_n hx hb dX0_allows_4 rfl (lv_at hl 1 rfl) ?_
  obtain ⟨v1, hv1, h⟩ := dq h
  refine cVi (As := [.int a1]) (rest := []) ⟨hx, hb, hml, hown, hts⟩ (c_X2_allows_1 (dT := dT) (rs := rs) (g := g) (bh := bh) (c1 := c1) (c2 := c2) (re := re) (pl := pl) (cl := cl) hD hv1) (cwV 1 hts (good_V sub_z k_388 k_389 k_390 k_5 k_391) rfl rfl rfl (by decide +kernel) (by decide)) (va_recv hK hP (ci := 2) (q0 := 15) rfl rfl) hK hP hS rfl hl.1 rfl (Nat.le_of_ble_eq_true rfl) dX0_allows_5 (by decide) (fun H locs hP hS => ?_)
  obtain ⟨k2, h⟩ := dg h
  obtain rfl := Option.some.inj h
  exact rZ hx hb hr hlk (isb_n k2) hK hP hS dX0_allows_8

set_option maxRecDepth 100000 in
set_option maxHeartbeats 4000000 in
theorem c_X0_isHandled {l : Launch} {D : va_G} {dT : Nat → ClassId} {q : Nat → Nat} (hD : xD q) {rs : (Nat → tRow)} {g : tG_} {bh : tBH} {c1 : tC} {c2 : tC} {re : tRE} {pl : tPL} {cl : tCL}  {v : Int32} (h : f_X0_isHandled bh = some v) : MG l yX0_isHandled cX0_isHandled 1 (some .boolean) 0 [.ref (q 14)] D (tyL dT) (wX dT q rs g bh c1 c2 re pl cl) (QI D (tyL dT) (xA q) (wX dT q rs g bh c1 c2 re pl cl) v) (xA q) := by
  refine MG.mk (by decide +kernel) (Nat.le_of_ble_eq_true rfl) ?_
  intro p e s m below meth c hx hb hr hml hown hts hlk hK hP ls hl
  have hown : s.vm.findClass RX0 = some m.cls := hown
  have hS : va_S (xA q) s.heap s.heap [] := va_S.rf
  have hl : lv_has ls 1 [(0, .ref (q 14))] := hl
  rw [f_X0_isHandled] at h
  refine lv_aload_n hx hb dX0_isHandled_0 rfl (lv_at hl 0 rfl) ?_
  refine va_get (D := D) (ci := 0) (v := .int bh.2.2.1) (C := RX0) (T := TX0) (N := 9) hx hb hts (fun w h => sub_z _ (inX0 w h)) hown hK hP 14 rfl rfl 3 (by decide) (hts _ (sub_z _ k_93)) (fun _ h => h) rfl dX0_isHandled_1 ?_
  obtain ⟨k1, h⟩ := dg h
  obtain rfl := Option.some.inj h
  exact rZ hx hb hr hlk (isb_n k1) hK hP hS dX0_isHandled_4

set_option maxRecDepth 100000 in
set_option maxHeartbeats 4000000 in
theorem c_X0_keep {l : Launch} {D : va_G} {dT : Nat → ClassId} {q : Nat → Nat} (hD : xD q) {rs : (Nat → tRow)} {g : tG_} {bh : tBH} {c1 : tC} {c2 : tC} {re : tRE} {pl : tPL} {cl : tCL}  {v : tBH} (h : f_X0_keep bh c1 = some v) : MG l yX0_keep cX0_keep 1 none 1 [.ref (q 14)] D (tyL dT) (wX dT q rs g bh c1 c2 re pl cl) (QV D (tyL dT) (xA q) (wX dT q rs g v c1 c2 re pl cl)) (xA q) := by
  refine MG.mk (by decide +kernel) (Nat.le_of_ble_eq_true rfl) ?_
  intro p e s m below meth c hx hb hr hml hown hts hlk hK hP ls hl
  have hown : s.vm.findClass RX0 = some m.cls := hown
  have hS : va_S (xA q) s.heap s.heap [] := va_S.rf
  have hl : lv_has ls 1 [(0, .ref (q 14))] := hl
  rw [f_X0_keep] at h
  refine lv_aload_n hx hb dX0_keep_0 rfl (lv_at hl 0 rfl) ?_
  refine va_get (D := D) (ci := 0) (v := .ref (q 20)) (C := RX0) (T := TX0) (N := 9) hx hb hts (fun w h => sub_z _ (inX0 w h)) hown hK hP 14 rfl rfl 4 (by decide) (hts _ (sub_z _ k_94)) (fun _ h => h) rfl dX0_keep_1 ?_
  refine lv_aload_n hx hb dX0_keep_4 rfl (lv_at hl 0 rfl) ?_
  refine va_get (D := D) (ci := 0) (v := .int bh.2.2.2.2.2.2.2) (C := RX0) (T := TX0) (N := 9) hx hb hts (fun w h => sub_z _ (inX0 w h)) hown hK hP 14 rfl rfl 8 (by decide) (hts _ (sub_z _ k_98)) (fun _ h => h) rfl dX0_keep_5 ?_
  refine lv_aload_n hx hb dX0_keep_8 rfl (lv_at hl 0 rfl) ?_
  refine va_get (D := D) (ci := 0) (v := .ref (q 15)) (C := RX0) (T := TX0) (N := 9) hx hb hts (fun w h => sub_z _ (inX0 w h)) hown hK hP 14 rfl rfl 0 (by decide) (hts _ (sub_z _ k_90)) (fun _ h => h) rfl dX0_keep_9 ?_
  obtain ⟨v1, hv1, h⟩ := dq h
  refine cVl (As := []) (rest := [.int bh.2.2.2.2.2.2.2, .ref (q 20)]) ⟨hx, hb, hml, hown, hts⟩ (c_X2_key_1 (dT := dT) (rs := rs) (g := g) (bh := bh) (c1 := c1) (c2 := c2) (re := re) (pl := pl) (cl := cl) hD hv1) (cwV 0 hts (good_V sub_z k_422 k_423 k_424 k_5 k_425) rfl rfl rfl (by decide +kernel) (by decide)) (va_recv hK hP (ci := 2) (q0 := 15) rfl rfl) hK hP hS rfl hl.1 rfl (Nat.le_of_ble_eq_true rfl) dX0_keep_12 (by decide) (fun H locs hP hS => ?_)
  obtain ⟨k2, h⟩ := dg h
  refine va_last (f := bh.2.2.2.1) hx hb hK hP (xD.w hD) hS 20 1 rfl rfl (inb_vp k2) dX0_keep_15 (fun H locs hP _ hS => ?_)
  have hP : va_P D vwCl (wX dT q rs g (bh.1, bh.2.1, bh.2.2.1, (vp_updL bh.2.2.2.1 bh.2.2.2.2.2.2.2.toNatClampNeg v1), bh.2.2.2.2.1, bh.2.2.2.2.2.1, bh.2.2.2.2.2.2.1, bh.2.2.2.2.2.2.2) c1 c2 re pl cl) H := hP
  refine lv_aload_n hx hb dX0_keep_16 rfl (lv_at hl 0 rfl) ?_
  refine va_get (D := D) (ci := 0) (v := .ref (q 21)) (C := RX0) (T := TX0) (N := 9) hx hb hts (fun w h => sub_z _ (inX0 w h)) hown hK hP 14 rfl rfl 5 (by decide) (hts _ (sub_z _ k_95)) (fun _ h => h) rfl dX0_keep_17 ?_
  refine lv_aload_n hx hb dX0_keep_20 rfl (lv_at hl 0 rfl) ?_
  refine va_get (D := D) (ci := 0) (v := .int bh.2.2.2.2.2.2.2) (C := RX0) (T := TX0) (N := 9) hx hb hts (fun w h => sub_z _ (inX0 w h)) hown hK hP 14 rfl rfl 8 (by decide) (hts _ (sub_z _ k_98)) (fun _ h => h) rfl dX0_keep_21 ?_
  refine lv_aload_n hx hb dX0_keep_24 rfl (lv_at hl 0 rfl) ?_
  refine va_get (D := D) (ci := 0) (v := .int bh.2.1) (C := RX0) (T := TX0) (N := 9) hx hb hts (fun w h => sub_z _ (inX0 w h)) hown hK hP 14 rfl rfl 2 (by decide) (hts _ (sub_z _ k_92)) (fun _ h => h) rfl dX0_keep_25 ?_
  obtain ⟨k3, h⟩ := dg h
  refine va_iast (f := bh.2.2.2.2.1) hx hb hK hP (xD.w hD) hS 21 0 rfl rfl (inb_vp k3) dX0_keep_28 (fun H locs hP _ hS => ?_)
  have hP : va_P D vwCl (wX dT q rs g (bh.1, bh.2.1, bh.2.2.1, (vp_updL bh.2.2.2.1 bh.2.2.2.2.2.2.2.toNatClampNeg v1), (upd bh.2.2.2.2.1 bh.2.2.2.2.2.2.2.toNatClampNeg bh.2.1), bh.2.2.2.2.2.1, bh.2.2.2.2.2.2.1, bh.2.2.2.2.2.2.2) c1 c2 re pl cl) H := hP
  refine lv_aload_n hx hb dX0_keep_29 rfl (lv_at hl 0 rfl) ?_
  refine va_get (D := D) (ci := 0) (v := .ref (q 22)) (C := RX0) (T := TX0) (N := 9) hx hb hts (fun w h => sub_z _ (inX0 w h)) hown hK hP 14 rfl rfl 6 (by decide) (hts _ (sub_z _ k_96)) (fun _ h => h) rfl dX0_keep_30 ?_
  refine lv_aload_n hx hb dX0_keep_33 rfl (lv_at hl 0 rfl) ?_
  refine va_get (D := D) (ci := 0) (v := .int bh.2.2.2.2.2.2.2) (C := RX0) (T := TX0) (N := 9) hx hb hts (fun w h => sub_z _ (inX0 w h)) hown hK hP 14 rfl rfl 8 (by decide) (hts _ (sub_z _ k_98)) (fun _ h => h) rfl dX0_keep_34 ?_
  refine lv_aload_n hx hb dX0_keep_37 rfl (lv_at hl 0 rfl) ?_
  refine va_get (D := D) (ci := 0) (v := .int bh.2.2.1) (C := RX0) (T := TX0) (N := 9) hx hb hts (fun w h => sub_z _ (inX0 w h)) hown hK hP 14 rfl rfl 3 (by decide) (hts _ (sub_z _ k_93)) (fun _ h => h) rfl dX0_keep_38 ?_
  obtain ⟨k4, h⟩ := dg h
  refine va_zast (f := bh.2.2.2.2.2.1) hx hb hK hP (xD.w hD) hS 22 3 rfl rfl (inb_vp k4) dX0_keep_41 (fun H locs hP _ hS => ?_)
  have hP : va_P D vwCl (wX dT q rs g (bh.1, bh.2.1, bh.2.2.1, (vp_updL bh.2.2.2.1 bh.2.2.2.2.2.2.2.toNatClampNeg v1), (upd bh.2.2.2.2.1 bh.2.2.2.2.2.2.2.toNatClampNeg bh.2.1), (upd bh.2.2.2.2.2.1 bh.2.2.2.2.2.2.2.toNatClampNeg (vp_nar .boolean bh.2.2.1)), bh.2.2.2.2.2.2.1, bh.2.2.2.2.2.2.2) c1 c2 re pl cl) H := hP
  refine lv_aload_n hx hb dX0_keep_42 rfl (lv_at hl 0 rfl) ?_
  refine lv_aload_n hx hb dX0_keep_43 rfl (lv_at hl 0 rfl) ?_
  refine va_get (D := D) (ci := 0) (v := .int bh.2.2.2.2.2.2.2) (C := RX0) (T := TX0) (N := 9) hx hb hts (fun w h => sub_z _ (inX0 w h)) hown hK hP 14 rfl rfl 8 (by decide) (hts _ (sub_z _ k_98)) (fun _ h => h) rfl dX0_keep_44 ?_
  refine lv_iconst (v := 1) hx hb dX0_keep_47 (by decide) ?_
  refine lv_iadd hx hb dX0_keep_48 ?_
  refine lv_bipush (v := 100) hx hb dX0_keep_49 (by decide) ?_
  refine lv_irem hx hb dX0_keep_51 (by decide) ?_
  refine va_put (D := D) (ci := 0) (v := .int ((bh.2.2.2.2.2.2.2 + (1 : Int32)) - (bh.2.2.2.2.2.2.2 + (1 : Int32)) / (100 : Int32) * (100 : Int32))) (ty := .int) (C := RX0) (T := TX0) (N := 9) hx hb hts (fun w h => sub_z _ (inX0 w h)) tyX0 tyX0_ok nmX0 hown hK hP (xD.w hD) hS 14 rfl rfl 8 (by decide) (hts _ (sub_z _ k_98)) (fun _ h => h) rfl (by decide +kernel) rfl rfl (Nat.le_of_ble_eq_true rfl) dX0_keep_52 (fun H locs hP _ hS => ?_)
  have hP : va_P D vwCl (wX dT q rs g (bh.1, bh.2.1, bh.2.2.1, (vp_updL bh.2.2.2.1 bh.2.2.2.2.2.2.2.toNatClampNeg v1), (upd bh.2.2.2.2.1 bh.2.2.2.2.2.2.2.toNatClampNeg bh.2.1), (upd bh.2.2.2.2.2.1 bh.2.2.2.2.2.2.2.toNatClampNeg (vp_nar .boolean bh.2.2.1)), bh.2.2.2.2.2.2.1, ((bh.2.2.2.2.2.2.2 + (1 : Int32)) - (bh.2.2.2.2.2.2.2 + (1 : Int32)) / (100 : Int32) * (100 : Int32))) c1 c2 re pl cl) H := hP
  refine lv_aload_n hx hb dX0_keep_55 rfl (lv_at hl 0 rfl) ?_
  refine lv_aload_n hx hb dX0_keep_56 rfl (lv_at hl 0 rfl) ?_
  refine va_get (D := D) (ci := 0) (v := .int bh.2.2.2.2.2.2.1) (C := RX0) (T := TX0) (N := 9) hx hb hts (fun w h => sub_z _ (inX0 w h)) hown hK hP 14 rfl rfl 7 (by decide) (hts _ (sub_z _ k_97)) (fun _ h => h) rfl dX0_keep_57 ?_
  refine lv_iconst (v := 1) hx hb dX0_keep_60 (by decide) ?_
  refine lv_iadd hx hb dX0_keep_61 ?_
  refine lv_bipush (v := 100) hx hb dX0_keep_62 (by decide) ?_
  refine va_mmin hx hb (hml.trans hl.1.symm) hown (hts _ (sub_z _ k_426)) (hts _ (sub_z _ k_427)) (hts _ (sub_z _ k_12)) (hts _ (sub_z _ k_mmin)) (by decide) (Nat.le_of_ble_eq_true rfl) (Nat.le_refl _) (Nat.le_refl _) dX0_keep_64 ?_
  refine va_put (D := D) (ci := 0) (v := .int (if (100 : Int32) < (bh.2.2.2.2.2.2.1 + (1 : Int32)) then (100 : Int32) else (bh.2.2.2.2.2.2.1 + (1 : Int32)))) (ty := .int) (C := RX0) (T := TX0) (N := 9) hx hb hts (fun w h => sub_z _ (inX0 w h)) tyX0 tyX0_ok nmX0 hown hK hP (xD.w hD) hS 14 rfl rfl 7 (by decide) (hts _ (sub_z _ k_97)) (fun _ h => h) rfl (by decide +kernel) rfl rfl (Nat.le_of_ble_eq_true rfl) dX0_keep_67 (fun H locs hP _ hS => ?_)
  have hP : va_P D vwCl (wX dT q rs g (bh.1, bh.2.1, bh.2.2.1, (vp_updL bh.2.2.2.1 bh.2.2.2.2.2.2.2.toNatClampNeg v1), (upd bh.2.2.2.2.1 bh.2.2.2.2.2.2.2.toNatClampNeg bh.2.1), (upd bh.2.2.2.2.2.1 bh.2.2.2.2.2.2.2.toNatClampNeg (vp_nar .boolean bh.2.2.1)), (if (100 : Int32) < (bh.2.2.2.2.2.2.1 + (1 : Int32)) then (100 : Int32) else (bh.2.2.2.2.2.2.1 + (1 : Int32))), ((bh.2.2.2.2.2.2.2 + (1 : Int32)) - (bh.2.2.2.2.2.2.2 + (1 : Int32)) / (100 : Int32) * (100 : Int32))) c1 c2 re pl cl) H := hP
  obtain rfl := Option.some.inj h
  exact rV hx hb hr hlk hK hP hS dX0_keep_70

set_option maxRecDepth 100000 in
set_option maxHeartbeats 4000000 in
theorem c_X0_handle {l : Launch} {D : va_G} {dT : Nat → ClassId} {q : Nat → Nat} (hD : xD q) {rs : (Nat → tRow)} {g : tG_} {bh : tBH} {c1 : tC} {c2 : tC} {re : tRE} {pl : tPL} {cl : tCL} {a1 : Int32} {v : tBH × tC} (h : f_X0_handle g bh c1 a1 = some v) : MG l yX0_handle cX0_handle 2 none 3 [.ref (q 14), .int a1] D (tyL dT) (wX dT q rs g bh c1 c2 re pl cl) (QV D (tyL dT) (xA q) (wX dT q rs g v.1 v.2 c2 re pl cl)) (xA q) := by
  refine MG.mk (by decide +kernel) (Nat.le_of_ble_eq_true rfl) ?_
  intro p e s m below meth c hx hb hr hml hown hts hlk hK hP ls hl
  have hown : s.vm.findClass RX0 = some m.cls := hown
  have hS : va_S (xA q) s.heap s.heap [] := va_S.rf
  have hl : lv_has ls 2 [(0, .ref (q 14)), (1, .int a1)] := hl
  rw [f_X0_handle] at h
  refine lv_aload_n hx hb dX0_handle_0 rfl (lv_at hl 0 rfl) ?_
  obtain ⟨v1, hv1, h⟩ := dq h
  refine cVv (As := []) (rest := []) ⟨hx, hb, hml, hown, hts⟩ (c_X0_keep (dT := dT) (rs := rs) (g := g) (bh := bh) (c1 := c1) (c2 := c2) (re := re) (pl := pl) (cl := cl) hD hv1) (cwV 0 hts (good_V sub_z k_418 k_420 ks_4 k_4 k_421) rfl rfl rfl (by decide +kernel) (by decide)) (va_recv hK hP (ci := 0) (q0 := 14) rfl rfl) hK hP hS rfl hl.1 rfl (Nat.le_of_ble_eq_true rfl) dX0_handle_1 (by decide) (fun H locs hP hS => ?_)
  refine lv_aload_n hx hb dX0_handle_4 rfl (lv_at hl 0 rfl) ?_
  refine va_get (D := D) (ci := 0) (v := .ref (q 15)) (C := RX0) (T := TX0) (N := 9) hx hb hts (fun w h => sub_z _ (inX0 w h)) hown hK hP 14 rfl rfl 0 (by decide) (hts _ (sub_z _ k_90)) (fun _ h => h) rfl dX0_handle_5 ?_
  refine lv_iload_n hx hb dX0_handle_8 rfl (lv_at hl 1 rfl) ?_
  obtain ⟨v2, hv2, h⟩ := dq h
  refine cVv (As := [.int a1]) (rest := []) ⟨hx, hb, hml, hown, hts⟩ (c_X2_handle_1 (dT := dT) (rs := rs) (g := g) (bh := v1) (c1 := c1) (c2 := c2) (re := re) (pl := pl) (cl := cl) hD hv2) (cwV 1 hts (good_V sub_z k_429 k_430 k_431 k_5 k_432) rfl rfl rfl (by decide +kernel) (by decide)) (va_recv hK hP (ci := 2) (q0 := 15) rfl rfl) hK hP hS rfl hl.1 rfl (Nat.le_of_ble_eq_true rfl) dX0_handle_9 (by decide) (fun H locs hP hS => ?_)
  refine lv_aload_n hx hb dX0_handle_12 rfl (lv_at hl 0 rfl) ?_
  refine lv_iconst (v := 1) hx hb dX0_handle_13 (by decide) ?_
  refine va_put (D := D) (ci := 0) (v := .int (1 : Int32)) (ty := .boolean) (C := RX0) (T := TX0) (N := 9) hx hb hts (fun w h => sub_z _ (inX0 w h)) tyX0 tyX0_ok nmX0 hown hK hP (xD.w hD) hS 14 rfl rfl 3 (by decide) (hts _ (sub_z _ k_93)) (fun _ h => h) rfl (by decide +kernel) rfl rfl (Nat.le_of_ble_eq_true rfl) dX0_handle_14 (fun H locs hP _ hS => ?_)
  have hP : va_P D vwCl (wX dT q rs g (v1.1, v1.2.1, (1 : Int32), v1.2.2.2.1, v1.2.2.2.2.1, v1.2.2.2.2.2.1, v1.2.2.2.2.2.2.1, v1.2.2.2.2.2.2.2) v2 c2 re pl cl) H := hP
  obtain rfl := Option.some.inj h
  exact rV hx hb hr hlk hK hP hS dX0_handle_17

set_option maxRecDepth 100000 in
set_option maxHeartbeats 4000000 in
theorem c_X0_now {l : Launch} {D : va_G} {dT : Nat → ClassId} {q : Nat → Nat} (hD : xD q) {rs : (Nat → tRow)} {g : tG_} {bh : tBH} {c1 : tC} {c2 : tC} {re : tRE} {pl : tPL} {cl : tCL}  {v : Int32} (h : f_X0_now bh = some v) : MG l yX0_now cX0_now 1 (some .int) 0 [.ref (q 14)] D (tyL dT) (wX dT q rs g bh c1 c2 re pl cl) (QI D (tyL dT) (xA q) (wX dT q rs g bh c1 c2 re pl cl) v) (xA q) := by
  refine MG.mk (by decide +kernel) (Nat.le_of_ble_eq_true rfl) ?_
  intro p e s m below meth c hx hb hr hml hown hts hlk hK hP ls hl
  have hown : s.vm.findClass RX0 = some m.cls := hown
  have hS : va_S (xA q) s.heap s.heap [] := va_S.rf
  have hl : lv_has ls 1 [(0, .ref (q 14))] := hl
  rw [f_X0_now] at h
  refine lv_aload_n hx hb dX0_now_0 rfl (lv_at hl 0 rfl) ?_
  refine va_get (D := D) (ci := 0) (v := .ref (q 19)) (C := RX0) (T := TX0) (N := 9) hx hb hts (fun w h => sub_z _ (inX0 w h)) hown hK hP 14 rfl rfl 1 (by decide) (hts _ (sub_z _ k_91)) (fun _ h => h) rfl dX0_now_1 ?_
  refine lv_aload_n hx hb dX0_now_4 rfl (lv_at hl 0 rfl) ?_
  refine va_get (D := D) (ci := 0) (v := .int bh.2.1) (C := RX0) (T := TX0) (N := 9) hx hb hts (fun w h => sub_z _ (inX0 w h)) hown hK hP 14 rfl rfl 2 (by decide) (hts _ (sub_z _ k_92)) (fun _ h => h) rfl dX0_now_5 ?_
  refine lv_iconst (v := 1) hx hb dX0_now_8 (by decide) ?_
  refine lv_isub hx hb dX0_now_9 ?_
  obtain ⟨k1, h⟩ := dg h
  refine va_iald (f := bh.1) hx hb hK hP 19 0 rfl rfl (inb_vp k1) dX0_now_10 ?_
  obtain rfl := Option.some.inj h
  exact rI hx hb hr hlk hK hP hS dX0_now_11

set_option maxRecDepth 100000 in
set_option maxHeartbeats 4000000 in
theorem c_X0_goOn {l : Launch} {D : va_G} {dT : Nat → ClassId} {q : Nat → Nat} (hD : xD q) {rs : (Nat → tRow)} {g : tG_} {bh : tBH} {c1 : tC} {c2 : tC} {re : tRE} {pl : tPL} {cl : tCL}  {v : Int32 × tBH × tC} (h : f_X0_goOn g bh c1 = some v) : MG l yX0_goOn cX0_goOn 2 (some .int) 2 [.ref (q 14)] D (tyL dT) (wX dT q rs g bh c1 c2 re pl cl) (QI D (tyL dT) (xA q) (wX dT q rs g v.2.1 v.2.2 c2 re pl cl) v.1) (xA q) := by
  refine MG.mk (by decide +kernel) (Nat.le_of_ble_eq_true rfl) ?_
  intro p e s m below meth c hx hb hr hml hown hts hlk hK hP ls hl
  have hown : s.vm.findClass RX0 = some m.cls := hown
  have hS : va_S (xA q) s.heap s.heap [] := va_S.rf
  have hl : lv_has ls 2 [(0, .ref (q 14))] := hl
  rw [f_X0_goOn] at h
  refine lv_aload_n hx hb dX0_goOn_0 rfl (lv_at hl 0 rfl) ?_
  refine va_get (D := D) (ci := 0) (v := .int bh.2.1) (C := RX0) (T := TX0) (N := 9) hx hb hts (fun w h => sub_z _ (inX0 w h)) hown hK hP 14 rfl rfl 2 (by decide) (hts _ (sub_z _ k_92)) (fun _ h => h) rfl dX0_goOn_1 ?_
  refine lv_sipush (v := 200) hx hb dX0_goOn_4 (by decide) ?_
  refine lv_icmp_lt (tgt := 13) hx hb dX0_goOn_7 (by decide) (fun k1 => ?_) (fun k1 => ?_)
  · rw [if_pos k1] at h
    refine lv_aload_n hx hb dX0_goOn_13 rfl (lv_at hl 0 rfl) ?_
    refine va_get (D := D) (ci := 0) (v := .ref (q 15)) (C := RX0) (T := TX0) (N := 9) hx hb hts (fun w h => sub_z _ (inX0 w h)) hown hK hP 14 rfl rfl 0 (by decide) (hts _ (sub_z _ k_90)) (fun _ h => h) rfl dX0_goOn_14 ?_
    obtain ⟨v2, hv2, h⟩ := dq h
    refine cVi (As := []) (rest := []) ⟨hx, hb, hml, hown, hts⟩ (c_X2_untilEvent_1 (dT := dT) (rs := rs) (g := g) (bh := bh) (c1 := c1) (c2 := c2) (re := re) (pl := pl) (cl := cl) hD hv2) (cwV 0 hts (good_V sub_z k_456 k_457 k_458 k_5 k_459) rfl rfl rfl (by decide +kernel) (by decide)) (va_recv hK hP (ci := 2) (q0 := 15) rfl rfl) hK hP hS rfl hl.1 rfl (Nat.le_of_ble_eq_true rfl) dX0_goOn_17 (by decide) (fun H locs hP hS => ?_)
    refine lv_istore_n (lv' := [(1, .int v2), (0, .ref (q 14))]) hx hb dX0_goOn_20 rfl hl (by decide) rfl (fun ls hl => ?_)
    refine lv_iload_n hx hb dX0_goOn_21 rfl (lv_at hl 0 rfl) ?_
    refine lv_if_ne (tgt := 28) hx hb dX0_goOn_22 (by decide) (fun k3 => ?_) (fun k3 => ?_)
    · rw [if_neg k3] at h
      refine lv_aload_n hx hb dX0_goOn_28 rfl (lv_at hl 1 rfl) ?_
      obtain ⟨v4, hv4, h⟩ := dq h
      refine cVv (As := []) (rest := []) ⟨hx, hb, hml, hown, hts⟩ (c_X0_keep (dT := dT) (rs := rs) (g := g) (bh := bh) (c1 := c1) (c2 := c2) (re := re) (pl := pl) (cl := cl) hD hv4) (cwV 0 hts (good_V sub_z k_418 k_420 ks_4 k_4 k_421) rfl rfl rfl (by decide +kernel) (by decide)) (va_recv hK hP (ci := 0) (q0 := 14) rfl rfl) hK hP hS rfl hl.1 rfl (Nat.le_of_ble_eq_true rfl) dX0_goOn_29 (by decide) (fun H locs hP hS => ?_)
      refine lv_aload_n hx hb dX0_goOn_32 rfl (lv_at hl 1 rfl) ?_
      refine va_get (D := D) (ci := 0) (v := .ref (q 15)) (C := RX0) (T := TX0) (N := 9) hx hb hts (fun w h => sub_z _ (inX0 w h)) hown hK hP 14 rfl rfl 0 (by decide) (hts _ (sub_z _ k_90)) (fun _ h => h) rfl dX0_goOn_33 ?_
      refine lv_iload_n hx hb dX0_goOn_36 rfl (lv_at hl 0 rfl) ?_
      obtain ⟨v5, hv5, h⟩ := dq h
      refine cVv (As := [.int v2]) (rest := []) ⟨hx, hb, hml, hown, hts⟩ (c_X2_letPass_1 (dT := dT) (rs := rs) (g := g) (bh := v4) (c1 := c1) (c2 := c2) (re := re) (pl := pl) (cl := cl) hD hv5) (cwV 1 hts (good_V sub_z k_461 k_462 k_463 k_5 k_464) rfl rfl rfl (by decide +kernel) (by decide)) (va_recv hK hP (ci := 2) (q0 := 15) rfl rfl) hK hP hS rfl hl.1 rfl (Nat.le_of_ble_eq_true rfl) dX0_goOn_37 (by decide) (fun H locs hP hS => ?_)
      refine lv_aload_n hx hb dX0_goOn_40 rfl (lv_at hl 1 rfl) ?_
      refine va_get (D := D) (ci := 0) (v := .ref (q 19)) (C := RX0) (T := TX0) (N := 9) hx hb hts (fun w h => sub_z _ (inX0 w h)) hown hK hP 14 rfl rfl 1 (by decide) (hts _ (sub_z _ k_91)) (fun _ h => h) rfl dX0_goOn_41 ?_
      refine lv_aload_n hx hb dX0_goOn_44 rfl (lv_at hl 1 rfl) ?_
      refine va_get (D := D) (ci := 0) (v := .int v4.2.1) (C := RX0) (T := TX0) (N := 9) hx hb hts (fun w h => sub_z _ (inX0 w h)) hown hK hP 14 rfl rfl 2 (by decide) (hts _ (sub_z _ k_92)) (fun _ h => h) rfl dX0_goOn_45 ?_
      refine lv_aload_n hx hb dX0_goOn_48 rfl (lv_at hl 1 rfl) ?_
      obtain ⟨v6, hv6, h⟩ := dq h
      refine cVi (As := []) (rest := [.int v4.2.1, .ref (q 19)]) ⟨hx, hb, hml, hown, hts⟩ (c_X0_now (dT := dT) (rs := rs) (g := g) (bh := v4) (c1 := v5) (c2 := c2) (re := re) (pl := pl) (cl := cl) hD hv6) (cwV 0 hts (good_V sub_z k_468 k_469 k_470 k_4 k_471) rfl rfl rfl (by decide +kernel) (by decide)) (va_recv hK hP (ci := 0) (q0 := 14) rfl rfl) hK hP hS rfl hl.1 rfl (Nat.le_of_ble_eq_true rfl) dX0_goOn_49 (by decide) (fun H locs hP hS => ?_)
      refine lv_iload_n hx hb dX0_goOn_52 rfl (lv_at hl 0 rfl) ?_
      refine lv_iadd hx hb dX0_goOn_53 ?_
      obtain ⟨k7, h⟩ := dg h
      refine va_iast (f := v4.1) hx hb hK hP (xD.w hD) hS 19 0 rfl rfl (inb_vp k7) dX0_goOn_54 (fun H locs hP _ hS => ?_)
      have hP : va_P D vwCl (wX dT q rs g ((upd v4.1 v4.2.1.toNatClampNeg (v6 + v2)), v4.2.1, v4.2.2.1, v4.2.2.2.1, v4.2.2.2.2.1, v4.2.2.2.2.2.1, v4.2.2.2.2.2.2.1, v4.2.2.2.2.2.2.2) v5 c2 re pl cl) H := hP
      refine lv_aload_n hx hb dX0_goOn_55 rfl (lv_at hl 1 rfl) ?_
      refine lv_dup hx hb dX0_goOn_56 rfl ?_
      refine va_get (D := D) (ci := 0) (v := .int v4.2.1) (C := RX0) (T := TX0) (N := 9) hx hb hts (fun w h => sub_z _ (inX0 w h)) hown hK hP 14 rfl rfl 2 (by decide) (hts _ (sub_z _ k_92)) (fun _ h => h) rfl dX0_goOn_57 ?_
      refine lv_iconst (v := 1) hx hb dX0_goOn_60 (by decide) ?_
      refine lv_iadd hx hb dX0_goOn_61 ?_
      refine va_put (D := D) (ci := 0) (v := .int (v4.2.1 + (1 : Int32))) (ty := .int) (C := RX0) (T := TX0) (N := 9) hx hb hts (fun w h => sub_z _ (inX0 w h)) tyX0 tyX0_ok nmX0 hown hK hP (xD.w hD) hS 14 rfl rfl 2 (by decide) (hts _ (sub_z _ k_92)) (fun _ h => h) rfl (by decide +kernel) rfl rfl (Nat.le_of_ble_eq_true rfl) dX0_goOn_62 (fun H locs hP _ hS => ?_)
      have hP : va_P D vwCl (wX dT q rs g ((upd v4.1 v4.2.1.toNatClampNeg (v6 + v2)), (v4.2.1 + (1 : Int32)), v4.2.2.1, v4.2.2.2.1, v4.2.2.2.2.1, v4.2.2.2.2.2.1, v4.2.2.2.2.2.2.1, v4.2.2.2.2.2.2.2) v5 c2 re pl cl) H := hP
      refine lv_aload_n hx hb dX0_goOn_65 rfl (lv_at hl 1 rfl) ?_
      refine lv_iconst (v := 0) hx hb dX0_goOn_66 (by decide) ?_
      refine va_put (D := D) (ci := 0) (v := .int (0 : Int32)) (ty := .boolean) (C := RX0) (T := TX0) (N := 9) hx hb hts (fun w h => sub_z _ (inX0 w h)) tyX0 tyX0_ok nmX0 hown hK hP (xD.w hD) hS 14 rfl rfl 3 (by decide) (hts _ (sub_z _ k_93)) (fun _ h => h) rfl (by decide +kernel) rfl rfl (Nat.le_of_ble_eq_true rfl) dX0_goOn_67 (fun H locs hP _ hS => ?_)
      have hP : va_P D vwCl (wX dT q rs g ((upd v4.1 v4.2.1.toNatClampNeg (v6 + v2)), (v4.2.1 + (1 : Int32)), (0 : Int32), v4.2.2.2.1, v4.2.2.2.2.1, v4.2.2.2.2.2.1, v4.2.2.2.2.2.2.1, v4.2.2.2.2.2.2.2) v5 c2 re pl cl) H := hP
      refine lv_aload_n hx hb dX0_goOn_70 rfl (lv_at hl 1 rfl) ?_
      obtain ⟨v8, hv8, h⟩ := dq h
      refine cVi (As := []) (rest := []) ⟨hx, hb, hml, hown, hts⟩ (c_X0_now (dT := dT) (rs := rs) (g := g) (bh := ((upd v4.1 v4.2.1.toNatClampNeg (v6 + v2)), (v4.2.1 + (1 : Int32)), (0 : Int32), v4.2.2.2.1, v4.2.2.2.2.1, v4.2.2.2.2.2.1, v4.2.2.2.2.2.2.1, v4.2.2.2.2.2.2.2)) (c1 := v5) (c2 := c2) (re := re) (pl := pl) (cl := cl) hD hv8) (cwV 0 hts (good_V sub_z k_468 k_469 k_470 k_4 k_471) rfl rfl rfl (by decide +kernel) (by decide)) (va_recv hK hP (ci := 0) (q0 := 14) rfl rfl) hK hP hS rfl hl.1 rfl (Nat.le_of_ble_eq_true rfl) dX0_goOn_71 (by decide) (fun H locs hP hS => ?_)
      obtain rfl := Option.some.inj h
      exact rI hx hb hr hlk hK hP hS dX0_goOn_74
    · rw [if_pos k3] at h
      refine lv_bipush (v := -7) hx hb dX0_goOn_25 (by decide) ?_
      obtain rfl := Option.some.inj h
      exact rI hx hb hr hlk hK hP hS dX0_goOn_27
  · rw [if_neg k1] at h
    refine lv_bipush (v := -2) hx hb dX0_goOn_10 (by decide) ?_
    obtain rfl := Option.some.inj h
    exact rI hx hb hr hlk hK hP hS dX0_goOn_12

set_option maxRecDepth 100000 in
set_option maxHeartbeats 4000000 in
theorem c_X0_takeBack {l : Launch} {D : va_G} {dT : Nat → ClassId} {q : Nat → Nat} (hD : xD q) {rs : (Nat → tRow)} {g : tG_} {bh : tBH} {c1 : tC} {c2 : tC} {re : tRE} {pl : tPL} {cl : tCL}  {v : Int32 × tBH × tC} (h : f_X0_takeBack bh c1 = some v) : MG l yX0_takeBack cX0_takeBack 1 (some .int) 1 [.ref (q 14)] D (tyL dT) (wX dT q rs g bh c1 c2 re pl cl) (QI D (tyL dT) (xA q) (wX dT q rs g v.2.1 v.2.2 c2 re pl cl) v.1) (xA q) := by
  refine MG.mk (by decide +kernel) (Nat.le_of_ble_eq_true rfl) ?_
  intro p e s m below meth c hx hb hr hml hown hts hlk hK hP ls hl
  have hown : s.vm.findClass RX0 = some m.cls := hown
  have hS : va_S (xA q) s.heap s.heap [] := va_S.rf
  have hl : lv_has ls 1 [(0, .ref (q 14))] := hl
  rw [f_X0_takeBack] at h
  refine lv_aload_n hx hb dX0_takeBack_0 rfl (lv_at hl 0 rfl) ?_
  refine va_get (D := D) (ci := 0) (v := .int bh.2.2.2.2.2.2.1) (C := RX0) (T := TX0) (N := 9) hx hb hts (fun w h => sub_z _ (inX0 w h)) hown hK hP 14 rfl rfl 7 (by decide) (hts _ (sub_z _ k_97)) (fun _ h => h) rfl dX0_takeBack_1 ?_
  refine lv_if_ne (tgt := 10) hx hb dX0_takeBack_4 (by decide) (fun k1 => ?_) (fun k1 => ?_)
  · rw [if_neg k1] at h
    refine lv_aload_n hx hb dX0_takeBack_10 rfl (lv_at hl 0 rfl) ?_
    refine lv_aload_n hx hb dX0_takeBack_11 rfl (lv_at hl 0 rfl) ?_
    refine va_get (D := D) (ci := 0) (v := .int bh.2.2.2.2.2.2.2) (C := RX0) (T := TX0) (N := 9) hx hb hts (fun w h => sub_z _ (inX0 w h)) hown hK hP 14 rfl rfl 8 (by decide) (hts _ (sub_z _ k_98)) (fun _ h => h) rfl dX0_takeBack_12 ?_
    refine lv_bipush (v := 100) hx hb dX0_takeBack_15 (by decide) ?_
    refine lv_iadd hx hb dX0_takeBack_17 ?_
    refine lv_iconst (v := 1) hx hb dX0_takeBack_18 (by decide) ?_
    refine lv_isub hx hb dX0_takeBack_19 ?_
    refine lv_bipush (v := 100) hx hb dX0_takeBack_20 (by decide) ?_
    refine lv_irem hx hb dX0_takeBack_22 (by decide) ?_
    refine va_put (D := D) (ci := 0) (v := .int (((bh.2.2.2.2.2.2.2 + (100 : Int32)) - (1 : Int32)) - ((bh.2.2.2.2.2.2.2 + (100 : Int32)) - (1 : Int32)) / (100 : Int32) * (100 : Int32))) (ty := .int) (C := RX0) (T := TX0) (N := 9) hx hb hts (fun w h => sub_z _ (inX0 w h)) tyX0 tyX0_ok nmX0 hown hK hP (xD.w hD) hS 14 rfl rfl 8 (by decide) (hts _ (sub_z _ k_98)) (fun _ h => h) rfl (by decide +kernel) rfl rfl (Nat.le_of_ble_eq_true rfl) dX0_takeBack_23 (fun H locs hP _ hS => ?_)
    have hP : va_P D vwCl (wX dT q rs g (bh.1, bh.2.1, bh.2.2.1, bh.2.2.2.1, bh.2.2.2.2.1, bh.2.2.2.2.2.1, bh.2.2.2.2.2.2.1, (((bh.2.2.2.2.2.2.2 + (100 : Int32)) - (1 : Int32)) - ((bh.2.2.2.2.2.2.2 + (100 : Int32)) - (1 : Int32)) / (100 : Int32) * (100 : Int32))) c1 c2 re pl cl) H := hP
    refine lv_aload_n hx hb dX0_takeBack_26 rfl (lv_at hl 0 rfl) ?_
    refine lv_dup hx hb dX0_takeBack_27 rfl ?_
    refine va_get (D := D) (ci := 0) (v := .int bh.2.2.2.2.2.2.1) (C := RX0) (T := TX0) (N := 9) hx hb hts (fun w h => sub_z _ (inX0 w h)) hown hK hP 14 rfl rfl 7 (by decide) (hts _ (sub_z _ k_97)) (fun _ h => h) rfl dX0_takeBack_28 ?_
    refine lv_iconst (v := 1) hx hb dX0_takeBack_31 (by decide) ?_
    refine lv_isub hx hb dX0_takeBack_32 ?_
    refine va_put (D := D) (ci := 0) (v := .int (bh.2.2.2.2.2.2.1 - (1 : Int32))) (ty := .int) (C := RX0) (T := TX0) (N := 9) hx hb hts (fun w h => sub_z _ (inX0 w h)) tyX0 tyX0_ok nmX0 hown hK hP (xD.w hD) hS 14 rfl rfl 7 (by decide) (hts _ (sub_z _ k_97)) (fun _ h => h) rfl (by decide +kernel) rfl rfl (Nat.le_of_ble_eq_true rfl) dX0_takeBack_33 (fun H locs hP _ hS => ?_)
    have hP : va_P D vwCl (wX dT q rs g (bh.1, bh.2.1, bh.2.2.1, bh.2.2.2.1, bh.2.2.2.2.1, bh.2.2.2.2.2.1, (bh.2.2.2.2.2.2.1 - (1 : Int32)), (((bh.2.2.2.2.2.2.2 + (100 : Int32)) - (1 : Int32)) - ((bh.2.2.2.2.2.2.2 + (100 : Int32)) - (1 : Int32)) / (100 : Int32) * (100 : Int32))) c1 c2 re pl cl) H := hP
    refine lv_aload_n hx hb dX0_takeBack_36 rfl (lv_at hl 0 rfl) ?_
    refine va_get (D := D) (ci := 0) (v := .ref (q 15)) (C := RX0) (T := TX0) (N := 9) hx hb hts (fun w h => sub_z _ (inX0 w h)) hown hK hP 14 rfl rfl 0 (by decide) (hts _ (sub_z _ k_90)) (fun _ h => h) rfl dX0_takeBack_37 ?_
    refine lv_aload_n hx hb dX0_takeBack_40 rfl (lv_at hl 0 rfl) ?_
    refine va_get (D := D) (ci := 0) (v := .ref (q 20)) (C := RX0) (T := TX0) (N := 9) hx hb hts (fun w h => sub_z _ (inX0 w h)) hown hK hP 14 rfl rfl 4 (by decide) (hts _ (sub_z _ k_94)) (fun _ h => h) rfl dX0_takeBack_41 ?_
    refine lv_aload_n hx hb dX0_takeBack_44 rfl (lv_at hl 0 rfl) ?_
    refine va_get (D := D) (ci := 0) (v := .int (((bh.2.2.2.2.2.2.2 + (100 : Int32)) - (1 : Int32)) - ((bh.2.2.2.2.2.2.2 + (100 : Int32)) - (1 : Int32)) / (100 : Int32) * (100 : Int32))) (C := RX0) (T := TX0) (N := 9) hx hb hts (fun w h => sub_z _ (inX0 w h)) hown hK hP 14 rfl rfl 8 (by decide) (hts _ (sub_z _ k_98)) (fun _ h => h) rfl dX0_takeBack_45 ?_
    obtain ⟨k2, h⟩ := dg h
    refine va_lald (f := bh.2.2.2.1) hx hb hK hP 20 1 rfl rfl (inb_vp k2) dX0_takeBack_48 ?_
    obtain ⟨v3, hv3, h⟩ := dq h
    refine cVv (As := [.long (bh.2.2.2.1 (((bh.2.2.2.2.2.2.2 + (100 : Int32)) - (1 : Int32)) - ((bh.2.2.2.2.2.2.2 + (100 : Int32)) - (1 : Int32)) / (100 : Int32) * (100 : Int32)).toNatClampNeg)]) (rest := []) ⟨hx, hb, hml, hown, hts⟩ (c_X2_take_1 (dT := dT) (rs := rs) (g := g) (bh := (bh.1, bh.2.1, bh.2.2.1, bh.2.2.2.1, bh.2.2.2.2.1, bh.2.2.2.2.2.1, (bh.2.2.2.2.2.2.1 - (1 : Int32)), (((bh.2.2.2.2.2.2.2 + (100 : Int32)) - (1 : Int32)) - ((bh.2.2.2.2.2.2.2 + (100 : Int32)) - (1 : Int32)) / (100 : Int32) * (100 : Int32)))) (c1 := c1) (c2 := c2) (re := re) (pl := pl) (cl := cl) hD hv3) (cwV 1 hts (good_V sub_z k_316 k_317 k_318 k_5 k_319) rfl rfl rfl (by decide +kernel) (by decide)) (va_recv hK hP (ci := 2) (q0 := 15) rfl rfl) hK hP hS rfl hl.1 rfl (Nat.le_of_ble_eq_true rfl) dX0_takeBack_49 (by decide) (fun H locs hP hS => ?_)
    refine lv_aload_n hx hb dX0_takeBack_52 rfl (lv_at hl 0 rfl) ?_
    refine lv_aload_n hx hb dX0_takeBack_53 rfl (lv_at hl 0 rfl) ?_
    refine va_get (D := D) (ci := 0) (v := .ref (q 21)) (C := RX0) (T := TX0) (N := 9) hx hb hts (fun w h => sub_z _ (inX0 w h)) hown hK hP 14 rfl rfl 5 (by decide) (hts _ (sub_z _ k_95)) (fun _ h => h) rfl dX0_takeBack_54 ?_
    refine lv_aload_n hx hb dX0_takeBack_57 rfl (lv_at hl 0 rfl) ?_
    refine va_get (D := D) (ci := 0) (v := .int (((bh.2.2.2.2.2.2.2 + (100 : Int32)) - (1 : Int32)) - ((bh.2.2.2.2.2.2.2 + (100 : Int32)) - (1 : Int32)) / (100 : Int32) * (100 : Int32))) (C := RX0) (T := TX0) (N := 9) hx hb hts (fun w h => sub_z _ (inX0 w h)) hown hK hP 14 rfl rfl 8 (by decide) (hts _ (sub_z _ k_98)) (fun _ h => h) rfl dX0_takeBack_58 ?_
    obtain ⟨k4, h⟩ := dg h
    refine va_iald (f := bh.2.2.2.2.1) hx hb hK hP 21 0 rfl rfl (inb_vp k4) dX0_takeBack_61 ?_
    refine va_put (D := D) (ci := 0) (v := .int (bh.2.2.2.2.1 (((bh.2.2.2.2.2.2.2 + (100 : Int32)) - (1 : Int32)) - ((bh.2.2.2.2.2.2.2 + (100 : Int32)) - (1 : Int32)) / (100 : Int32) * (100 : Int32)).toNatClampNeg)) (ty := .int) (C := RX0) (T := TX0) (N := 9) hx hb hts (fun w h => sub_z _ (inX0 w h)) tyX0 tyX0_ok nmX0 hown hK hP (xD.w hD) hS 14 rfl rfl 2 (by decide) (hts _ (sub_z _ k_92)) (fun _ h => h) rfl (by decide +kernel) rfl rfl (Nat.le_of_ble_eq_true rfl) dX0_takeBack_62 (fun H locs hP _ hS => ?_)
    have hP : va_P D vwCl (wX dT q rs g (bh.1, (bh.2.2.2.2.1 (((bh.2.2.2.2.2.2.2 + (100 : Int32)) - (1 : Int32)) - ((bh.2.2.2.2.2.2.2 + (100 : Int32)) - (1 : Int32)) / (100 : Int32) * (100 : Int32)).toNatClampNeg), bh.2.2.1, bh.2.2.2.1, bh.2.2.2.2.1, bh.2.2.2.2.2.1, (bh.2.2.2.2.2.2.1 - (1 : Int32)), (((bh.2.2.2.2.2.2.2 + (100 : Int32)) - (1 : Int32)) - ((bh.2.2.2.2.2.2.2 + (100 : Int32)) - (1 : Int32)) / (100 : Int32) * (100 : Int32))) v3 c2 re pl cl) H := hP
    refine lv_aload_n hx hb dX0_takeBack_65 rfl (lv_at hl 0 rfl) ?_
    refine lv_aload_n hx hb dX0_takeBack_66 rfl (lv_at hl 0 rfl) ?_
    refine va_get (D := D) (ci := 0) (v := .ref (q 22)) (C := RX0) (T := TX0) (N := 9) hx hb hts (fun w h => sub_z _ (inX0 w h)) hown hK hP 14 rfl rfl 6 (by decide) (hts _ (sub_z _ k_96)) (fun _ h => h) rfl dX0_takeBack_67 ?_
    refine lv_aload_n hx hb dX0_takeBack_70 rfl (lv_at hl 0 rfl) ?_
    refine va_get (D := D) (ci := 0) (v := .int (((bh.2.2.2.2.2.2.2 + (100 : Int32)) - (1 : Int32)) - ((bh.2.2.2.2.2.2.2 + (100 : Int32)) - (1 : Int32)) / (100 : Int32) * (100 : Int32))) (C := RX0) (T := TX0) (N := 9) hx hb hts (fun w h => sub_z _ (inX0 w h)) hown hK hP 14 rfl rfl 8 (by decide) (hts _ (sub_z _ k_98)) (fun _ h => h) rfl dX0_takeBack_71 ?_
    obtain ⟨k5, h⟩ := dg h
    refine va_zald (f := bh.2.2.2.2.2.1) hx hb hK hP 22 3 rfl rfl (inb_vp k5) dX0_takeBack_74 ?_
    obtain ⟨k7, h⟩ := dg h
    refine va_put (D := D) (ci := 0) (v := .int (bh.2.2.2.2.2.1 (((bh.2.2.2.2.2.2.2 + (100 : Int32)) - (1 : Int32)) - ((bh.2.2.2.2.2.2.2 + (100 : Int32)) - (1 : Int32)) / (100 : Int32) * (100 : Int32)).toNatClampNeg)) (ty := .boolean) (C := RX0) (T := TX0) (N := 9) hx hb hts (fun w h => sub_z _ (inX0 w h)) tyX0 tyX0_ok nmX0 hown hK hP (xD.w hD) hS 14 rfl rfl 3 (by decide) (hts _ (sub_z _ k_93)) (fun _ h => h) rfl (by decide +kernel) (isb_n k7) (isb_f k7) (Nat.le_of_ble_eq_true rfl) dX0_takeBack_75 (fun H locs hP _ hS => ?_)
    have hP : va_P D vwCl (wX dT q rs g (bh.1, (bh.2.2.2.2.1 (((bh.2.2.2.2.2.2.2 + (100 : Int32)) - (1 : Int32)) - ((bh.2.2.2.2.2.2.2 + (100 : Int32)) - (1 : Int32)) / (100 : Int32) * (100 : Int32)).toNatClampNeg), (bh.2.2.2.2.2.1 (((bh.2.2.2.2.2.2.2 + (100 : Int32)) - (1 : Int32)) - ((bh.2.2.2.2.2.2.2 + (100 : Int32)) - (1 : Int32)) / (100 : Int32) * (100 : Int32)).toNatClampNeg), bh.2.2.2.1, bh.2.2.2.2.1, bh.2.2.2.2.2.1, (bh.2.2.2.2.2.2.1 - (1 : Int32)), (((bh.2.2.2.2.2.2.2 + (100 : Int32)) - (1 : Int32)) - ((bh.2.2.2.2.2.2.2 + (100 : Int32)) - (1 : Int32)) / (100 : Int32) * (100 : Int32))) v3 c2 re pl cl) H := hP
    refine lv_aload_n hx hb dX0_takeBack_78 rfl (lv_at hl 0 rfl) ?_
    obtain ⟨v6, hv6, h⟩ := dq h
    refine cVi (As := []) (rest := []) ⟨hx, hb, hml, hown, hts⟩ (c_X0_now (dT := dT) (rs := rs) (g := g) (bh := (bh.1, (bh.2.2.2.2.1 (((bh.2.2.2.2.2.2.2 + (100 : Int32)) - (1 : Int32)) - ((bh.2.2.2.2.2.2.2 + (100 : Int32)) - (1 : Int32)) / (100 : Int32) * (100 : Int32)).toNatClampNeg), (bh.2.2.2.2.2.1 (((bh.2.2.2.2.2.2.2 + (100 : Int32)) - (1 : Int32)) - ((bh.2.2.2.2.2.2.2 + (100 : Int32)) - (1 : Int32)) / (100 : Int32) * (100 : Int32)).toNatClampNeg), bh.2.2.2.1, bh.2.2.2.2.1, bh.2.2.2.2.2.1, (bh.2.2.2.2.2.2.1 - (1 : Int32)), (((bh.2.2.2.2.2.2.2 + (100 : Int32)) - (1 : Int32)) - ((bh.2.2.2.2.2.2.2 + (100 : Int32)) - (1 : Int32)) / (100 : Int32) * (100 : Int32)))) (c1 := v3) (c2 := c2) (re := re) (pl := pl) (cl := cl) hD hv6) (cwV 0 hts (good_V sub_z k_468 k_469 k_470 k_4 k_471) rfl rfl rfl (by decide +kernel) (by decide)) (va_recv hK hP (ci := 0) (q0 := 14) rfl rfl) hK hP hS rfl hl.1 rfl (Nat.le_of_ble_eq_true rfl) dX0_takeBack_79 (by decide) (fun H locs hP hS => ?_)
    obtain rfl := Option.some.inj h
    exact rI hx hb hr hlk hK hP hS dX0_takeBack_82
  · rw [if_pos k1] at h
    refine lv_bipush (v := -5) hx hb dX0_takeBack_7 (by decide) ?_
    obtain rfl := Option.some.inj h
    exact rI hx hb hr hlk hK hP hS dX0_takeBack_9

set_option maxRecDepth 100000 in
set_option maxHeartbeats 4000000 in
theorem c_X0_momentOf {l : Launch} {D : va_G} {dT : Nat → ClassId} {q : Nat → Nat} (hD : xD q) {rs : (Nat → tRow)} {g : tG_} {bh : tBH} {c1 : tC} {c2 : tC} {re : tRE} {pl : tPL} {cl : tCL} {a1 : Int32} {v : Int32} (h : f_X0_momentOf bh a1 = some v) : MG l yX0_momentOf cX0_momentOf 2 (some .int) 0 [.ref (q 14), .int a1] D (tyL dT) (wX dT q rs g bh c1 c2 re pl cl) (QI D (tyL dT) (xA q) (wX dT q rs g bh c1 c2 re pl cl) v) (xA q) := by
  refine MG.mk (by decide +kernel) (Nat.le_of_ble_eq_true rfl) ?_
  intro p e s m below meth c hx hb hr hml hown hts hlk hK hP ls hl
  have hown : s.vm.findClass RX0 = some m.cls := hown
  have hS : va_S (xA q) s.heap s.heap [] := va_S.rf
  have hl : lv_has ls 2 [(0, .ref (q 14)), (1, .int a1)] := hl
  rw [f_X0_momentOf] at h
  refine lv_iload_n hx hb dX0_momentOf_0 rfl (lv_at hl 1 rfl) ?_
  refine lv_if_lt (tgt := 21) hx hb dX0_momentOf_1 (by decide) (fun k1 => ?_) (fun k1 => ?_)
  · rw [if_pos k1] at h
    refine lv_iconst (v := -1) hx hb dX0_momentOf_21 (by decide) ?_
    obtain rfl := Option.some.inj h
    exact rI hx hb hr hlk hK hP hS dX0_momentOf_22
  · rw [if_neg k1] at h
    refine lv_iload_n hx hb dX0_momentOf_4 rfl (lv_at hl 1 rfl) ?_
    refine lv_aload_n hx hb dX0_momentOf_5 rfl (lv_at hl 0 rfl) ?_
    refine va_get (D := D) (ci := 0) (v := .int bh.2.1) (C := RX0) (T := TX0) (N := 9) hx hb hts (fun w h => sub_z _ (inX0 w h)) hown hK hP 14 rfl rfl 2 (by decide) (hts _ (sub_z _ k_92)) (fun _ h => h) rfl dX0_momentOf_6 ?_
    refine lv_icmp_ge (tgt := 21) hx hb dX0_momentOf_9 (by decide) (fun k2 => ?_) (fun k2 => ?_)
    · rw [if_pos k2] at h
      refine lv_iconst (v := -1) hx hb dX0_momentOf_21 (by decide) ?_
      obtain rfl := Option.some.inj h
      exact rI hx hb hr hlk hK hP hS dX0_momentOf_22
    · rw [if_neg k2] at h
      refine lv_aload_n hx hb dX0_momentOf_12 rfl (lv_at hl 0 rfl) ?_
      refine va_get (D := D) (ci := 0) (v := .ref (q 19)) (C := RX0) (T := TX0) (N := 9) hx hb hts (fun w h => sub_z _ (inX0 w h)) hown hK hP 14 rfl rfl 1 (by decide) (hts _ (sub_z _ k_91)) (fun _ h => h) rfl dX0_momentOf_13 ?_
      refine lv_iload_n hx hb dX0_momentOf_16 rfl (lv_at hl 1 rfl) ?_
      obtain ⟨k3, h⟩ := dg h
      refine va_iald (f := bh.1) hx hb hK hP 19 0 rfl rfl (inb_vp k3) dX0_momentOf_17 ?_
      refine lv_goto (tgt := 22) hx hb dX0_momentOf_18 (by decide) ?_
      obtain rfl := Option.some.inj h
      exact rI hx hb hr hlk hK hP hS dX0_momentOf_22
