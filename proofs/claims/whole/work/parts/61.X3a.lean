set_option maxRecDepth 100000 in
set_option maxHeartbeats 4000000 in
theorem c_X3_canHold {l : Launch} {D : va_G} {dT : Nat → ClassId} {q : Nat → Nat} (hD : xD q) {rs : (Nat → tRow)} {g : tG_} {bh : tBH} {c1 : tC} {c2 : tC} {re : tRE} {pl : tPL} {cl : tCL} {a0 : Int32} {v : Int32} (h : f_X3_canHold a0 = some v) : MG l yX3_canHold cX3_canHold 1 (some .boolean) 0 [.int a0] D (tyL dT) (wX dT q rs g bh c1 c2 re pl cl) (QI D (tyL dT) (xA q) (wX dT q rs g bh c1 c2 re pl cl) v) (xA q) := by
  refine MG.mk (by decide +kernel) (Nat.le_of_ble_eq_true rfl) ?_
  intro p e s m below meth c hx hb hr hml hown hts hlk hK hP ls hl
  have hown : s.vm.findClass RX3 = some m.cls := hown
  have hS : va_S (xA q) s.heap s.heap [] := va_S.rf
  have hl : lv_has ls 1 [(0, .int a0)] := hl
  rw [f_X3_canHold] at h
  refine lv_iload_n hx hb dX3_canHold_0 rfl (lv_at hl 0 rfl) ?_
  refine lv_iconst (v := 1) hx hb dX3_canHold_1 (by decide) ?_
  refine lv_icmp_lt (tgt := 15) hx hb dX3_canHold_2 (by decide) (fun k1 => ?_) (fun k1 => ?_)
  · rw [if_pos k1] at h
    refine lv_iconst (v := 0) hx hb dX3_canHold_15 (by decide) ?_
    obtain rfl := Option.some.inj h
    exact rZ (v := (0 : Int32)) hx hb hr hlk rfl hK hP hS dX3_canHold_16
  · rw [if_neg k1] at h
    refine lv_iload_n hx hb dX3_canHold_5 rfl (lv_at hl 0 rfl) ?_
    refine lv_bipush (v := 30) hx hb dX3_canHold_6 (by decide) ?_
    refine lv_icmp_gt (tgt := 15) hx hb dX3_canHold_8 (by decide) (fun k2 => ?_) (fun k2 => ?_)
    · rw [if_pos k2] at h
      refine lv_iconst (v := 0) hx hb dX3_canHold_15 (by decide) ?_
      obtain rfl := Option.some.inj h
      exact rZ (v := (0 : Int32)) hx hb hr hlk rfl hK hP hS dX3_canHold_16
    · rw [if_neg k2] at h
      refine lv_iconst (v := 1) hx hb dX3_canHold_11 (by decide) ?_
      refine lv_goto (tgt := 16) hx hb dX3_canHold_12 (by decide) ?_
      obtain rfl := Option.some.inj h
      exact rZ (v := (1 : Int32)) hx hb hr hlk rfl hK hP hS dX3_canHold_16

set_option maxRecDepth 100000 in
set_option maxHeartbeats 4000000 in
theorem c_X3_has {l : Launch} {D : va_G} {dT : Nat → ClassId} {q : Nat → Nat} (hD : xD q) {rs : (Nat → tRow)} {g : tG_} {bh : tBH} {c1 : tC} {c2 : tC} {re : tRE} {pl : tPL} {cl : tCL} {a1 : Int32} {v : Int32} (h : f_X3_has g a1 = some v) : MG l yX3_has cX3_has 2 (some .boolean) 0 [.ref (q 10), .int a1] D (tyL dT) (wX dT q rs g bh c1 c2 re pl cl) (QI D (tyL dT) (xA q) (wX dT q rs g bh c1 c2 re pl cl) v) (xA q) := by
  refine MG.mk (by decide +kernel) (Nat.le_of_ble_eq_true rfl) ?_
  intro p e s m below meth c hx hb hr hml hown hts hlk hK hP ls hl
  have hown : s.vm.findClass RX3 = some m.cls := hown
  have hS : va_S (xA q) s.heap s.heap [] := va_S.rf
  have hl : lv_has ls 2 [(0, .ref (q 10)), (1, .int a1)] := hl
  rw [f_X3_has] at h
  refine lv_iload_n hx hb dX3_has_0 rfl (lv_at hl 1 rfl) ?_
  refine lv_if_lt (tgt := 16) hx hb dX3_has_1 (by decide) (fun k1 => ?_) (fun k1 => ?_)
  · rw [if_pos k1] at h
    refine lv_iconst (v := 0) hx hb dX3_has_16 (by decide) ?_
    obtain rfl := Option.some.inj h
    exact rZ (v := (0 : Int32)) hx hb hr hlk rfl hK hP hS dX3_has_17
  · rw [if_neg k1] at h
    refine lv_iload_n hx hb dX3_has_4 rfl (lv_at hl 1 rfl) ?_
    refine lv_aload_n hx hb dX3_has_5 rfl (lv_at hl 0 rfl) ?_
    refine va_get (D := D) (ci := 3) (v := .int g.2.2.2) (C := RX3) (T := TX3) (N := 4) hx hb hts (fun w h => sub_z _ (inX3 w h)) hown hK hP 10 rfl rfl 3 (by decide) (hts _ (sub_z _ k_54)) (fun _ h => h) rfl dX3_has_6 ?_
    refine lv_icmp_ge (tgt := 16) hx hb dX3_has_9 (by decide) (fun k2 => ?_) (fun k2 => ?_)
    · rw [if_pos k2] at h
      refine lv_iconst (v := 0) hx hb dX3_has_16 (by decide) ?_
      obtain rfl := Option.some.inj h
      exact rZ (v := (0 : Int32)) hx hb hr hlk rfl hK hP hS dX3_has_17
    · rw [if_neg k2] at h
      refine lv_iconst (v := 1) hx hb dX3_has_12 (by decide) ?_
      refine lv_goto (tgt := 17) hx hb dX3_has_13 (by decide) ?_
      obtain rfl := Option.some.inj h
      exact rZ (v := (1 : Int32)) hx hb hr hlk rfl hK hP hS dX3_has_17

set_option maxRecDepth 100000 in
set_option maxHeartbeats 4000000 in
theorem c_X3_suits {l : Launch} {D : va_G} {dT : Nat → ClassId} {q : Nat → Nat} (hD : xD q) {rs : (Nat → tRow)} {g : tG_} {bh : tBH} {c1 : tC} {c2 : tC} {re : tRE} {pl : tPL} {cl : tCL} {a1 : Int32} {a2 : Int32} {v : Int32} (h : f_X3_suits g a1 a2 = some v) : MG l yX3_suits cX3_suits 3 (some .boolean) 1 [.ref (q 10), .int a1, .int a2] D (tyL dT) (wX dT q rs g bh c1 c2 re pl cl) (QI D (tyL dT) (xA q) (wX dT q rs g bh c1 c2 re pl cl) v) (xA q) := by
  refine MG.mk (by decide +kernel) (Nat.le_of_ble_eq_true rfl) ?_
  intro p e s m below meth c hx hb hr hml hown hts hlk hK hP ls hl
  have hown : s.vm.findClass RX3 = some m.cls := hown
  have hS : va_S (xA q) s.heap s.heap [] := va_S.rf
  have hl : lv_has ls 3 [(0, .ref (q 10)), (1, .int a1), (2, .int a2)] := hl
  rw [f_X3_suits] at h
  refine lv_iload_n hx hb dX3_suits_0 rfl (lv_at hl 1 rfl) ?_
  refine lv_iconst (v := 1) hx hb dX3_suits_1 (by decide) ?_
  refine lv_icmp_ne (tgt := 11) hx hb dX3_suits_2 (by decide) (fun k1 => ?_) (fun k1 => ?_)
  · rw [if_neg k1] at h
    refine lv_iload_n hx hb dX3_suits_11 rfl (lv_at hl 1 rfl) ?_
    refine lv_iconst (v := 4) hx hb dX3_suits_12 (by decide) ?_
    refine lv_icmp_ne (tgt := 27) hx hb dX3_suits_13 (by decide) (fun k2 => ?_) (fun k2 => ?_)
    · rw [if_neg k2] at h
      refine lv_iconst (v := 1) hx hb dX3_suits_27 (by decide) ?_
      refine lv_goto (tgt := 32) hx hb dX3_suits_28 (by decide) ?_
      obtain rfl := Option.some.inj h
      exact rZ (v := (1 : Int32)) hx hb hr hlk rfl hK hP hS dX3_suits_32
    · rw [if_pos k2] at h
      refine lv_iload_n hx hb dX3_suits_16 rfl (lv_at hl 2 rfl) ?_
      refine lv_iconst (v := 1) hx hb dX3_suits_17 (by decide) ?_
      refine lv_icmp_lt (tgt := 31) hx hb dX3_suits_18 (by decide) (fun k3 => ?_) (fun k3 => ?_)
      · rw [if_pos k3] at h
        refine lv_iconst (v := 0) hx hb dX3_suits_31 (by decide) ?_
        obtain rfl := Option.some.inj h
        exact rZ (v := (0 : Int32)) hx hb hr hlk rfl hK hP hS dX3_suits_32
      · rw [if_neg k3] at h
        refine lv_iload_n hx hb dX3_suits_21 rfl (lv_at hl 2 rfl) ?_
        refine lv_bipush (v := 9) hx hb dX3_suits_22 (by decide) ?_
        refine lv_icmp_gt (tgt := 31) hx hb dX3_suits_24 (by decide) (fun k4 => ?_) (fun k4 => ?_)
        · rw [if_pos k4] at h
          refine lv_iconst (v := 0) hx hb dX3_suits_31 (by decide) ?_
          obtain rfl := Option.some.inj h
          exact rZ (v := (0 : Int32)) hx hb hr hlk rfl hK hP hS dX3_suits_32
        · rw [if_neg k4] at h
          refine lv_iconst (v := 1) hx hb dX3_suits_27 (by decide) ?_
          refine lv_goto (tgt := 32) hx hb dX3_suits_28 (by decide) ?_
          obtain rfl := Option.some.inj h
          exact rZ (v := (1 : Int32)) hx hb hr hlk rfl hK hP hS dX3_suits_32
  · rw [if_pos k1] at h
    refine lv_aload_n hx hb dX3_suits_5 rfl (lv_at hl 0 rfl) ?_
    refine lv_iload_n hx hb dX3_suits_6 rfl (lv_at hl 2 rfl) ?_
    obtain ⟨v5, hv5, h⟩ := dq h
    refine cVi (As := [.int a2]) (rest := []) ⟨hx, hb, hml, hown, hts⟩ (c_X3_has (dT := dT) (rs := rs) (g := g) (bh := bh) (c1 := c1) (c2 := c2) (re := re) (pl := pl) (cl := cl) hD hv5) (cwV 1 hts (good_V sub_z k_296 k_297 k_298 k_3 k_299) rfl rfl rfl (by decide +kernel) (by decide)) (va_recv hK hP (ci := 3) (q0 := 10) rfl rfl) hK hP hS rfl hl.1 rfl (Nat.le_of_ble_eq_true rfl) dX3_suits_7 (by decide) (fun H locs hP hS => ?_)
    obtain ⟨k6, h⟩ := dg h
    obtain rfl := Option.some.inj h
    exact rZ hx hb hr hlk (isb_n k6) hK hP hS dX3_suits_10

set_option maxRecDepth 100000 in
set_option maxHeartbeats 4000000 in
theorem c_X3_add {l : Launch} {D : va_G} {dT : Nat → ClassId} {q : Nat → Nat} (hD : xD q) {rs : (Nat → tRow)} {g : tG_} {bh : tBH} {c1 : tC} {c2 : tC} {re : tRE} {pl : tPL} {cl : tCL} {a1 : Int32} {a2 : Int32} {a3 : Int32} {v : Int32 × tG_} (h : f_X3_add g a1 a2 a3 = some v) : MG l yX3_add cX3_add 5 (some .int) 0 [.ref (q 10), .int a1, .int a2, .int a3] D (tyL dT) (wX dT q rs g bh c1 c2 re pl cl) (QI D (tyL dT) (xA q) (wX dT q rs v.2 bh c1 c2 re pl cl) v.1) (xA q) := by
  refine MG.mk (by decide +kernel) (Nat.le_of_ble_eq_true rfl) ?_
  intro p e s m below meth c hx hb hr hml hown hts hlk hK hP ls hl
  have hown : s.vm.findClass RX3 = some m.cls := hown
  have hS : va_S (xA q) s.heap s.heap [] := va_S.rf
  have hl : lv_has ls 5 [(0, .ref (q 10)), (1, .int a1), (2, .int a2), (3, .int a3)] := hl
  rw [f_X3_add] at h
  refine lv_aload_n hx hb dX3_add_0 rfl (lv_at hl 0 rfl) ?_
  refine va_get (D := D) (ci := 3) (v := .int g.2.2.2) (C := RX3) (T := TX3) (N := 4) hx hb hts (fun w h => sub_z _ (inX3 w h)) hown hK hP 10 rfl rfl 3 (by decide) (hts _ (sub_z _ k_54)) (fun _ h => h) rfl dX3_add_1 ?_
  refine lv_istore (lv' := [(4, .int g.2.2.2), (0, .ref (q 10)), (1, .int a1), (2, .int a2), (3, .int a3)]) hx hb dX3_add_4 hl (by decide) rfl (fun ls hl => ?_)
  refine lv_aload_n hx hb dX3_add_6 rfl (lv_at hl 1 rfl) ?_
  refine va_get (D := D) (ci := 3) (v := .ref (q 11)) (C := RX3) (T := TX3) (N := 4) hx hb hts (fun w h => sub_z _ (inX3 w h)) hown hK hP 10 rfl rfl 0 (by decide) (hts _ (sub_z _ k_51)) (fun _ h => h) rfl dX3_add_7 ?_
  refine lv_iload hx hb dX3_add_10 (lv_at hl 0 rfl) ?_
  refine lv_iload_n hx hb dX3_add_12 rfl (lv_at hl 2 rfl) ?_
  obtain ⟨k1, h⟩ := dg h
  refine va_iast (f := g.1) hx hb hK hP (xD.w hD) hS 11 0 rfl rfl (inb_vp k1) dX3_add_13 (fun H locs hP _ hS => ?_)
  have hP : va_P D vwCl (wX dT q rs ((upd g.1 g.2.2.2.toNatClampNeg a1), g.2.1, g.2.2.1, g.2.2.2) bh c1 c2 re pl cl) H := hP
  refine lv_aload_n hx hb dX3_add_14 rfl (lv_at hl 1 rfl) ?_
  refine va_get (D := D) (ci := 3) (v := .ref (q 12)) (C := RX3) (T := TX3) (N := 4) hx hb hts (fun w h => sub_z _ (inX3 w h)) hown hK hP 10 rfl rfl 1 (by decide) (hts _ (sub_z _ k_52)) (fun _ h => h) rfl dX3_add_15 ?_
  refine lv_iload hx hb dX3_add_18 (lv_at hl 0 rfl) ?_
  refine lv_iload_n hx hb dX3_add_20 rfl (lv_at hl 3 rfl) ?_
  obtain ⟨k2, h⟩ := dg h
  refine va_iast (f := g.2.1) hx hb hK hP (xD.w hD) hS 12 0 rfl rfl (inb_vp k2) dX3_add_21 (fun H locs hP _ hS => ?_)
  have hP : va_P D vwCl (wX dT q rs ((upd g.1 g.2.2.2.toNatClampNeg a1), (upd g.2.1 g.2.2.2.toNatClampNeg a2), g.2.2.1, g.2.2.2) bh c1 c2 re pl cl) H := hP
  refine lv_aload_n hx hb dX3_add_22 rfl (lv_at hl 1 rfl) ?_
  refine va_get (D := D) (ci := 3) (v := .ref (q 13)) (C := RX3) (T := TX3) (N := 4) hx hb hts (fun w h => sub_z _ (inX3 w h)) hown hK hP 10 rfl rfl 2 (by decide) (hts _ (sub_z _ k_53)) (fun _ h => h) rfl dX3_add_23 ?_
  refine lv_iload hx hb dX3_add_26 (lv_at hl 0 rfl) ?_
  refine lv_iload_n hx hb dX3_add_28 rfl (lv_at hl 2 rfl) ?_
  refine lv_iconst (v := 1) hx hb dX3_add_29 (by decide) ?_
  refine lv_icmp_eq (tgt := 38) hx hb dX3_add_30 (by decide) (fun k3 => ?_) (fun k3 => ?_)
  · rw [if_pos k3] at h
    refine lv_iload_n hx hb dX3_add_38 rfl (lv_at hl 4 rfl) ?_
    refine lv_goto (tgt := 43) hx hb dX3_add_39 (by decide) ?_
    obtain ⟨k4, h⟩ := dg h
    refine va_iast (f := g.2.2.1) hx hb hK hP (xD.w hD) hS 13 0 rfl rfl (inb_vp k4) dX3_add_43 (fun H locs hP _ hS => ?_)
    have hP : va_P D vwCl (wX dT q rs ((upd g.1 g.2.2.2.toNatClampNeg a1), (upd g.2.1 g.2.2.2.toNatClampNeg a2), (upd g.2.2.1 g.2.2.2.toNatClampNeg a3), g.2.2.2) bh c1 c2 re pl cl) H := hP
    refine lv_aload_n hx hb dX3_add_44 rfl (lv_at hl 1 rfl) ?_
    refine lv_dup hx hb dX3_add_45 rfl ?_
    refine va_get (D := D) (ci := 3) (v := .int g.2.2.2) (C := RX3) (T := TX3) (N := 4) hx hb hts (fun w h => sub_z _ (inX3 w h)) hown hK hP 10 rfl rfl 3 (by decide) (hts _ (sub_z _ k_54)) (fun _ h => h) rfl dX3_add_46 ?_
    refine lv_iconst (v := 1) hx hb dX3_add_49 (by decide) ?_
    refine lv_iadd hx hb dX3_add_50 ?_
    refine va_put (D := D) (ci := 3) (v := .int (g.2.2.2 + (1 : Int32))) (ty := .int) (C := RX3) (T := TX3) (N := 4) hx hb hts (fun w h => sub_z _ (inX3 w h)) tyX3 tyX3_ok nmX3 hown hK hP (xD.w hD) hS 10 rfl rfl 3 (by decide) (hts _ (sub_z _ k_54)) (fun _ h => h) rfl (by decide +kernel) rfl rfl (Nat.le_of_ble_eq_true rfl) dX3_add_51 (fun H locs hP _ hS => ?_)
    have hP : va_P D vwCl (wX dT q rs ((upd g.1 g.2.2.2.toNatClampNeg a1), (upd g.2.1 g.2.2.2.toNatClampNeg a2), (upd g.2.2.1 g.2.2.2.toNatClampNeg a3), (g.2.2.2 + (1 : Int32))) bh c1 c2 re pl cl) H := hP
    refine lv_iload hx hb dX3_add_54 (lv_at hl 0 rfl) ?_
    obtain rfl := Option.some.inj h
    exact rI hx hb hr hlk hK hP hS dX3_add_56
  · rw [if_neg k3] at h
    refine lv_iload_n hx hb dX3_add_33 rfl (lv_at hl 2 rfl) ?_
    refine lv_iconst (v := 4) hx hb dX3_add_34 (by decide) ?_
    refine lv_icmp_ne (tgt := 42) hx hb dX3_add_35 (by decide) (fun k5 => ?_) (fun k5 => ?_)
    · rw [if_neg k5] at h
      refine lv_iconst (v := -1) hx hb dX3_add_42 (by decide) ?_
      obtain ⟨k6, h⟩ := dg h
      refine va_iast (f := g.2.2.1) hx hb hK hP (xD.w hD) hS 13 0 rfl rfl (inb_vp k6) dX3_add_43 (fun H locs hP _ hS => ?_)
      have hP : va_P D vwCl (wX dT q rs ((upd g.1 g.2.2.2.toNatClampNeg a1), (upd g.2.1 g.2.2.2.toNatClampNeg a2), (upd g.2.2.1 g.2.2.2.toNatClampNeg (-1 : Int32)), g.2.2.2) bh c1 c2 re pl cl) H := hP
      refine lv_aload_n hx hb dX3_add_44 rfl (lv_at hl 1 rfl) ?_
      refine lv_dup hx hb dX3_add_45 rfl ?_
      refine va_get (D := D) (ci := 3) (v := .int g.2.2.2) (C := RX3) (T := TX3) (N := 4) hx hb hts (fun w h => sub_z _ (inX3 w h)) hown hK hP 10 rfl rfl 3 (by decide) (hts _ (sub_z _ k_54)) (fun _ h => h) rfl dX3_add_46 ?_
      refine lv_iconst (v := 1) hx hb dX3_add_49 (by decide) ?_
      refine lv_iadd hx hb dX3_add_50 ?_
      refine va_put (D := D) (ci := 3) (v := .int (g.2.2.2 + (1 : Int32))) (ty := .int) (C := RX3) (T := TX3) (N := 4) hx hb hts (fun w h => sub_z _ (inX3 w h)) tyX3 tyX3_ok nmX3 hown hK hP (xD.w hD) hS 10 rfl rfl 3 (by decide) (hts _ (sub_z _ k_54)) (fun _ h => h) rfl (by decide +kernel) rfl rfl (Nat.le_of_ble_eq_true rfl) dX3_add_51 (fun H locs hP _ hS => ?_)
      have hP : va_P D vwCl (wX dT q rs ((upd g.1 g.2.2.2.toNatClampNeg a1), (upd g.2.1 g.2.2.2.toNatClampNeg a2), (upd g.2.2.1 g.2.2.2.toNatClampNeg (-1 : Int32)), (g.2.2.2 + (1 : Int32))) bh c1 c2 re pl cl) H := hP
      refine lv_iload hx hb dX3_add_54 (lv_at hl 0 rfl) ?_
      obtain rfl := Option.some.inj h
      exact rI hx hb hr hlk hK hP hS dX3_add_56
    · rw [if_pos k5] at h
      refine lv_iload_n hx hb dX3_add_38 rfl (lv_at hl 4 rfl) ?_
      refine lv_goto (tgt := 43) hx hb dX3_add_39 (by decide) ?_
      obtain ⟨k7, h⟩ := dg h
      refine va_iast (f := g.2.2.1) hx hb hK hP (xD.w hD) hS 13 0 rfl rfl (inb_vp k7) dX3_add_43 (fun H locs hP _ hS => ?_)
      have hP : va_P D vwCl (wX dT q rs ((upd g.1 g.2.2.2.toNatClampNeg a1), (upd g.2.1 g.2.2.2.toNatClampNeg a2), (upd g.2.2.1 g.2.2.2.toNatClampNeg a3), g.2.2.2) bh c1 c2 re pl cl) H := hP
      refine lv_aload_n hx hb dX3_add_44 rfl (lv_at hl 1 rfl) ?_
      refine lv_dup hx hb dX3_add_45 rfl ?_
      refine va_get (D := D) (ci := 3) (v := .int g.2.2.2) (C := RX3) (T := TX3) (N := 4) hx hb hts (fun w h => sub_z _ (inX3 w h)) hown hK hP 10 rfl rfl 3 (by decide) (hts _ (sub_z _ k_54)) (fun _ h => h) rfl dX3_add_46 ?_
      refine lv_iconst (v := 1) hx hb dX3_add_49 (by decide) ?_
      refine lv_iadd hx hb dX3_add_50 ?_
      refine va_put (D := D) (ci := 3) (v := .int (g.2.2.2 + (1 : Int32))) (ty := .int) (C := RX3) (T := TX3) (N := 4) hx hb hts (fun w h => sub_z _ (inX3 w h)) tyX3 tyX3_ok nmX3 hown hK hP (xD.w hD) hS 10 rfl rfl 3 (by decide) (hts _ (sub_z _ k_54)) (fun _ h => h) rfl (by decide +kernel) rfl rfl (Nat.le_of_ble_eq_true rfl) dX3_add_51 (fun H locs hP _ hS => ?_)
      have hP : va_P D vwCl (wX dT q rs ((upd g.1 g.2.2.2.toNatClampNeg a1), (upd g.2.1 g.2.2.2.toNatClampNeg a2), (upd g.2.2.1 g.2.2.2.toNatClampNeg a3), (g.2.2.2 + (1 : Int32))) bh c1 c2 re pl cl) H := hP
      refine lv_iload hx hb dX3_add_54 (lv_at hl 0 rfl) ?_
      obtain rfl := Option.some.inj h
      exact rI hx hb hr hlk hK hP hS dX3_add_56

set_option maxRecDepth 100000 in
set_option maxHeartbeats 4000000 in
theorem c_X3_refill {l : Launch} {D : va_G} {dT : Nat → ClassId} {q : Nat → Nat} (hD : xD q) {rs : (Nat → tRow)} {g : tG_} {bh : tBH} {c1 : tC} {c2 : tC} {re : tRE} {pl : tPL} {cl : tCL} {a1 : Int32} {a2 : Int32} {v : tG_} (h : f_X3_refill g a1 a2 = some v) : MG l yX3_refill cX3_refill 3 none 0 [.ref (q 10), .int a1, .int a2] D (tyL dT) (wX dT q rs g bh c1 c2 re pl cl) (QV D (tyL dT) (xA q) (wX dT q rs v bh c1 c2 re pl cl)) (xA q) := by
  refine MG.mk (by decide +kernel) (Nat.le_of_ble_eq_true rfl) ?_
  intro p e s m below meth c hx hb hr hml hown hts hlk hK hP ls hl
  have hown : s.vm.findClass RX3 = some m.cls := hown
  have hS : va_S (xA q) s.heap s.heap [] := va_S.rf
  have hl : lv_has ls 3 [(0, .ref (q 10)), (1, .int a1), (2, .int a2)] := hl
  rw [f_X3_refill] at h
  refine lv_aload_n hx hb dX3_refill_0 rfl (lv_at hl 0 rfl) ?_
  refine va_get (D := D) (ci := 3) (v := .ref (q 12)) (C := RX3) (T := TX3) (N := 4) hx hb hts (fun w h => sub_z _ (inX3 w h)) hown hK hP 10 rfl rfl 1 (by decide) (hts _ (sub_z _ k_52)) (fun _ h => h) rfl dX3_refill_1 ?_
  refine lv_iload_n hx hb dX3_refill_4 rfl (lv_at hl 1 rfl) ?_
  refine lv_iload_n hx hb dX3_refill_5 rfl (lv_at hl 2 rfl) ?_
  obtain ⟨k1, h⟩ := dg h
  refine va_iast (f := g.2.1) hx hb hK hP (xD.w hD) hS 12 0 rfl rfl (inb_vp k1) dX3_refill_6 (fun H locs hP _ hS => ?_)
  have hP : va_P D vwCl (wX dT q rs (g.1, (upd g.2.1 a1.toNatClampNeg a2), g.2.2.1, g.2.2.2) bh c1 c2 re pl cl) H := hP
  obtain rfl := Option.some.inj h
  exact rV hx hb hr hlk hK hP hS dX3_refill_7

set_option maxRecDepth 100000 in
set_option maxHeartbeats 4000000 in
theorem c_X3_removeAll {l : Launch} {D : va_G} {dT : Nat → ClassId} {q : Nat → Nat} (hD : xD q) {rs : (Nat → tRow)} {g : tG_} {bh : tBH} {c1 : tC} {c2 : tC} {re : tRE} {pl : tPL} {cl : tCL}  {v : tG_} (h : f_X3_removeAll g = some v) : MG l yX3_removeAll cX3_removeAll 1 none 0 [.ref (q 10)] D (tyL dT) (wX dT q rs g bh c1 c2 re pl cl) (QV D (tyL dT) (xA q) (wX dT q rs v bh c1 c2 re pl cl)) (xA q) := by
  refine MG.mk (by decide +kernel) (Nat.le_of_ble_eq_true rfl) ?_
  intro p e s m below meth c hx hb hr hml hown hts hlk hK hP ls hl
  have hown : s.vm.findClass RX3 = some m.cls := hown
  have hS : va_S (xA q) s.heap s.heap [] := va_S.rf
  have hl : lv_has ls 1 [(0, .ref (q 10))] := hl
  rw [f_X3_removeAll] at h
  refine lv_aload_n hx hb dX3_removeAll_0 rfl (lv_at hl 0 rfl) ?_
  refine lv_iconst (v := 0) hx hb dX3_removeAll_1 (by decide) ?_
  refine va_put (D := D) (ci := 3) (v := .int (0 : Int32)) (ty := .int) (C := RX3) (T := TX3) (N := 4) hx hb hts (fun w h => sub_z _ (inX3 w h)) tyX3 tyX3_ok nmX3 hown hK hP (xD.w hD) hS 10 rfl rfl 3 (by decide) (hts _ (sub_z _ k_54)) (fun _ h => h) rfl (by decide +kernel) rfl rfl (Nat.le_of_ble_eq_true rfl) dX3_removeAll_2 (fun H locs hP _ hS => ?_)
  have hP : va_P D vwCl (wX dT q rs (g.1, g.2.1, g.2.2.1, (0 : Int32)) bh c1 c2 re pl cl) H := hP
  obtain rfl := Option.some.inj h
  exact rV hx hb hr hlk hK hP hS dX3_removeAll_5

set_option maxRecDepth 100000 in
set_option maxHeartbeats 4000000 in
theorem c_X3_isFull {l : Launch} {D : va_G} {dT : Nat → ClassId} {q : Nat → Nat} (hD : xD q) {rs : (Nat → tRow)} {g : tG_} {bh : tBH} {c1 : tC} {c2 : tC} {re : tRE} {pl : tPL} {cl : tCL}  {v : Int32} (h : f_X3_isFull g = some v) : MG l yX3_isFull cX3_isFull 1 (some .boolean) 0 [.ref (q 10)] D (tyL dT) (wX dT q rs g bh c1 c2 re pl cl) (QI D (tyL dT) (xA q) (wX dT q rs g bh c1 c2 re pl cl) v) (xA q) := by
  refine MG.mk (by decide +kernel) (Nat.le_of_ble_eq_true rfl) ?_
  intro p e s m below meth c hx hb hr hml hown hts hlk hK hP ls hl
  have hown : s.vm.findClass RX3 = some m.cls := hown
  have hS : va_S (xA q) s.heap s.heap [] := va_S.rf
  have hl : lv_has ls 1 [(0, .ref (q 10))] := hl
  rw [f_X3_isFull] at h
  refine lv_aload_n hx hb dX3_isFull_0 rfl (lv_at hl 0 rfl) ?_
  refine va_get (D := D) (ci := 3) (v := .int g.2.2.2) (C := RX3) (T := TX3) (N := 4) hx hb hts (fun w h => sub_z _ (inX3 w h)) hown hK hP 10 rfl rfl 3 (by decide) (hts _ (sub_z _ k_54)) (fun _ h => h) rfl dX3_isFull_1 ?_
  refine lv_iconst (v := 4) hx hb dX3_isFull_4 (by decide) ?_
  refine lv_icmp_lt (tgt := 12) hx hb dX3_isFull_5 (by decide) (fun k1 => ?_) (fun k1 => ?_)
  · rw [if_pos k1] at h
    refine lv_iconst (v := 0) hx hb dX3_isFull_12 (by decide) ?_
    obtain rfl := Option.some.inj h
    exact rZ (v := (0 : Int32)) hx hb hr hlk rfl hK hP hS dX3_isFull_13
  · rw [if_neg k1] at h
    refine lv_iconst (v := 1) hx hb dX3_isFull_8 (by decide) ?_
    refine lv_goto (tgt := 13) hx hb dX3_isFull_9 (by decide) ?_
    obtain rfl := Option.some.inj h
    exact rZ (v := (1 : Int32)) hx hb hr hlk rfl hK hP hS dX3_isFull_13

set_option maxRecDepth 100000 in
set_option maxHeartbeats 4000000 in
theorem c_X3_count {l : Launch} {D : va_G} {dT : Nat → ClassId} {q : Nat → Nat} (hD : xD q) {rs : (Nat → tRow)} {g : tG_} {bh : tBH} {c1 : tC} {c2 : tC} {re : tRE} {pl : tPL} {cl : tCL}  {v : Int32} (h : f_X3_count g = some v) : MG l yX3_count cX3_count 1 (some .int) 0 [.ref (q 10)] D (tyL dT) (wX dT q rs g bh c1 c2 re pl cl) (QI D (tyL dT) (xA q) (wX dT q rs g bh c1 c2 re pl cl) v) (xA q) := by
  refine MG.mk (by decide +kernel) (Nat.le_of_ble_eq_true rfl) ?_
  intro p e s m below meth c hx hb hr hml hown hts hlk hK hP ls hl
  have hown : s.vm.findClass RX3 = some m.cls := hown
  have hS : va_S (xA q) s.heap s.heap [] := va_S.rf
  have hl : lv_has ls 1 [(0, .ref (q 10))] := hl
  rw [f_X3_count] at h
  refine lv_aload_n hx hb dX3_count_0 rfl (lv_at hl 0 rfl) ?_
  refine va_get (D := D) (ci := 3) (v := .int g.2.2.2) (C := RX3) (T := TX3) (N := 4) hx hb hts (fun w h => sub_z _ (inX3 w h)) hown hK hP 10 rfl rfl 3 (by decide) (hts _ (sub_z _ k_54)) (fun _ h => h) rfl dX3_count_1 ?_
  obtain rfl := Option.some.inj h
  exact rI hx hb hr hlk hK hP hS dX3_count_4

set_option maxRecDepth 100000 in
set_option maxHeartbeats 4000000 in
theorem c_X3_kind {l : Launch} {D : va_G} {dT : Nat → ClassId} {q : Nat → Nat} (hD : xD q) {rs : (Nat → tRow)} {g : tG_} {bh : tBH} {c1 : tC} {c2 : tC} {re : tRE} {pl : tPL} {cl : tCL} {a1 : Int32} {v : Int32} (h : f_X3_kind g a1 = some v) : MG l yX3_kind cX3_kind 2 (some .int) 0 [.ref (q 10), .int a1] D (tyL dT) (wX dT q rs g bh c1 c2 re pl cl) (QI D (tyL dT) (xA q) (wX dT q rs g bh c1 c2 re pl cl) v) (xA q) := by
  refine MG.mk (by decide +kernel) (Nat.le_of_ble_eq_true rfl) ?_
  intro p e s m below meth c hx hb hr hml hown hts hlk hK hP ls hl
  have hown : s.vm.findClass RX3 = some m.cls := hown
  have hS : va_S (xA q) s.heap s.heap [] := va_S.rf
  have hl : lv_has ls 2 [(0, .ref (q 10)), (1, .int a1)] := hl
  rw [f_X3_kind] at h
  refine lv_aload_n hx hb dX3_kind_0 rfl (lv_at hl 0 rfl) ?_
  refine va_get (D := D) (ci := 3) (v := .ref (q 11)) (C := RX3) (T := TX3) (N := 4) hx hb hts (fun w h => sub_z _ (inX3 w h)) hown hK hP 10 rfl rfl 0 (by decide) (hts _ (sub_z _ k_51)) (fun _ h => h) rfl dX3_kind_1 ?_
  refine lv_iload_n hx hb dX3_kind_4 rfl (lv_at hl 1 rfl) ?_
  obtain ⟨k1, h⟩ := dg h
  refine va_iald (f := g.1) hx hb hK hP 11 0 rfl rfl (inb_vp k1) dX3_kind_5 ?_
  obtain rfl := Option.some.inj h
  exact rI hx hb hr hlk hK hP hS dX3_kind_6

set_option maxRecDepth 100000 in
set_option maxHeartbeats 4000000 in
theorem c_X3_grains {l : Launch} {D : va_G} {dT : Nat → ClassId} {q : Nat → Nat} (hD : xD q) {rs : (Nat → tRow)} {g : tG_} {bh : tBH} {c1 : tC} {c2 : tC} {re : tRE} {pl : tPL} {cl : tCL} {a1 : Int32} {v : Int32} (h : f_X3_grains g a1 = some v) : MG l yX3_grains cX3_grains 2 (some .int) 0 [.ref (q 10), .int a1] D (tyL dT) (wX dT q rs g bh c1 c2 re pl cl) (QI D (tyL dT) (xA q) (wX dT q rs g bh c1 c2 re pl cl) v) (xA q) := by
  refine MG.mk (by decide +kernel) (Nat.le_of_ble_eq_true rfl) ?_
  intro p e s m below meth c hx hb hr hml hown hts hlk hK hP ls hl
  have hown : s.vm.findClass RX3 = some m.cls := hown
  have hS : va_S (xA q) s.heap s.heap [] := va_S.rf
  have hl : lv_has ls 2 [(0, .ref (q 10)), (1, .int a1)] := hl
  rw [f_X3_grains] at h
  refine lv_aload_n hx hb dX3_grains_0 rfl (lv_at hl 0 rfl) ?_
  refine va_get (D := D) (ci := 3) (v := .ref (q 12)) (C := RX3) (T := TX3) (N := 4) hx hb hts (fun w h => sub_z _ (inX3 w h)) hown hK hP 10 rfl rfl 1 (by decide) (hts _ (sub_z _ k_52)) (fun _ h => h) rfl dX3_grains_1 ?_
  refine lv_iload_n hx hb dX3_grains_4 rfl (lv_at hl 1 rfl) ?_
  obtain ⟨k1, h⟩ := dg h
  refine va_iald (f := g.2.1) hx hb hK hP 12 0 rfl rfl (inb_vp k1) dX3_grains_5 ?_
  obtain rfl := Option.some.inj h
  exact rI hx hb hr hlk hK hP hS dX3_grains_6

set_option maxRecDepth 100000 in
set_option maxHeartbeats 4000000 in
theorem c_X3_with {l : Launch} {D : va_G} {dT : Nat → ClassId} {q : Nat → Nat} (hD : xD q) {rs : (Nat → tRow)} {g : tG_} {bh : tBH} {c1 : tC} {c2 : tC} {re : tRE} {pl : tPL} {cl : tCL} {a1 : Int32} {v : Int32} (h : f_X3_with g a1 = some v) : MG l yX3_with cX3_with 2 (some .int) 0 [.ref (q 10), .int a1] D (tyL dT) (wX dT q rs g bh c1 c2 re pl cl) (QI D (tyL dT) (xA q) (wX dT q rs g bh c1 c2 re pl cl) v) (xA q) := by
  refine MG.mk (by decide +kernel) (Nat.le_of_ble_eq_true rfl) ?_
  intro p e s m below meth c hx hb hr hml hown hts hlk hK hP ls hl
  have hown : s.vm.findClass RX3 = some m.cls := hown
  have hS : va_S (xA q) s.heap s.heap [] := va_S.rf
  have hl : lv_has ls 2 [(0, .ref (q 10)), (1, .int a1)] := hl
  rw [f_X3_with] at h
  refine lv_aload_n hx hb dX3_with_0 rfl (lv_at hl 0 rfl) ?_
  refine va_get (D := D) (ci := 3) (v := .ref (q 13)) (C := RX3) (T := TX3) (N := 4) hx hb hts (fun w h => sub_z _ (inX3 w h)) hown hK hP 10 rfl rfl 2 (by decide) (hts _ (sub_z _ k_53)) (fun _ h => h) rfl dX3_with_1 ?_
  refine lv_iload_n hx hb dX3_with_4 rfl (lv_at hl 1 rfl) ?_
  obtain ⟨k1, h⟩ := dg h
  refine va_iald (f := g.2.2.1) hx hb hK hP 13 0 rfl rfl (inb_vp k1) dX3_with_5 ?_
  obtain rfl := Option.some.inj h
  exact rI hx hb hr hlk hK hP hS dX3_with_6
