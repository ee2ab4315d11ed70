set_option maxRecDepth 100000 in
set_option maxHeartbeats 4000000 in
theorem c_X8_isNoRow {l : Launch} {D : va_G} {dT : Nat → ClassId} {q : Nat → Nat} (hD : xD q) {rs : (Nat → tRow)} {g : tG_} {bh : tBH} {c1 : tC} {c2 : tC} {re : tRE} {pl : tPL} {cl : tCL} {a0 : Int32} {v : Int32} (h : f_X8_isNoRow a0 = some v) : MG l yX8_isNoRow cX8_isNoRow 1 (some .boolean) 0 [.int a0] D (tyL dT) (wX dT q rs g bh c1 c2 re pl cl) (QI D (tyL dT) (xA q) (wX dT q rs g bh c1 c2 re pl cl) v) (xA q) := by
  refine MG.mk (by decide +kernel) (Nat.le_of_ble_eq_true rfl) ?_
  intro p e s m below meth c hx hb hr hml hown hts hlk hK hP ls hl
  have hown : s.vm.findClass RX8 = some m.cls := hown
  have hS : va_S (xA q) s.heap s.heap [] := va_S.rf
  have hl : lv_has ls 1 [(0, .int a0)] := hl
  rw [f_X8_isNoRow] at h
  refine lv_iload_n hx hb dX8_isNoRow_0 rfl (lv_at hl 0 rfl) ?_
  refine lv_if_lt (tgt := 9) hx hb dX8_isNoRow_1 (by decide) (fun k1 => ?_) (fun k1 => ?_)
  · rw [if_pos k1] at h
    refine lv_iconst (v := 1) hx hb dX8_isNoRow_9 (by decide) ?_
    refine lv_goto (tgt := 14) hx hb dX8_isNoRow_10 (by decide) ?_
    obtain rfl := Option.some.inj h
    exact rZ (v := (1 : Int32)) hx hb hr hlk rfl hK hP hS dX8_isNoRow_14
  · rw [if_neg k1] at h
    refine lv_iload_n hx hb dX8_isNoRow_4 rfl (lv_at hl 0 rfl) ?_
    refine lv_iconst (v := 3) hx hb dX8_isNoRow_5 (by decide) ?_
    refine lv_icmp_le (tgt := 13) hx hb dX8_isNoRow_6 (by decide) (fun k2 => ?_) (fun k2 => ?_)
    · rw [if_pos k2] at h
      refine lv_iconst (v := 0) hx hb dX8_isNoRow_13 (by decide) ?_
      obtain rfl := Option.some.inj h
      exact rZ (v := (0 : Int32)) hx hb hr hlk rfl hK hP hS dX8_isNoRow_14
    · rw [if_neg k2] at h
      refine lv_iconst (v := 1) hx hb dX8_isNoRow_9 (by decide) ?_
      refine lv_goto (tgt := 14) hx hb dX8_isNoRow_10 (by decide) ?_
      obtain rfl := Option.some.inj h
      exact rZ (v := (1 : Int32)) hx hb hr hlk rfl hK hP hS dX8_isNoRow_14

set_option maxRecDepth 100000 in
set_option maxHeartbeats 4000000 in
theorem c_X8_row {l : Launch} {D : va_G} {dT : Nat → ClassId} {q : Nat → Nat} (hD : xD q) {rs : (Nat → tRow)} {g : tG_} {bh : tBH} {c1 : tC} {c2 : tC} {re : tRE} {pl : tPL} {cl : tCL} {a1 : Int32} {a2 : Int32} {a3 : Int32} {v : Int32 × (Nat → tRow)} (h : f_X8_row rs a1 a2 a3 = some v) : MG l yX8_row cX8_row 4 (some .int) 2 [.ref (q 0), .int a1, .int a2, .int a3] D (tyL dT) (wX dT q rs g bh c1 c2 re pl cl) (QI D (tyL dT) (xA q) (wX dT q v.2 g bh c1 c2 re pl cl) v.1) (xA q) := by
  refine MG.mk (by decide +kernel) (Nat.le_of_ble_eq_true rfl) ?_
  intro p e s m below meth c hx hb hr hml hown hts hlk hK hP ls hl
  have hown : s.vm.findClass RX8 = some m.cls := hown
  have hS : va_S (xA q) s.heap s.heap [] := va_S.rf
  have hl : lv_has ls 4 [(0, .ref (q 0)), (1, .int a1), (2, .int a2), (3, .int a3)] := hl
  rw [f_X8_row] at h
  refine lv_iload_n hx hb dX8_row_0 rfl (lv_at hl 1 rfl) ?_
  obtain ⟨v1, hv1, h⟩ := dq h
  refine cSi (As := [.int a1]) (rest := []) ⟨hx, hb, hml, hown, hts⟩ (c_X8_isNoRow (dT := dT) (rs := rs) (g := g) (bh := bh) (c1 := c1) (c2 := c2) (re := re) (pl := pl) (cl := cl) hD hv1) (va_cwS 1 hts (good_S sub_z k_238 k_239 k_1 k_240) rfl rfl rfl (by decide +kernel) (by decide)) hK hP hS rfl hl.1 rfl (Nat.le_of_ble_eq_true rfl) dX8_row_1 (by decide) (fun H locs hP hS => ?_)
  refine lv_if_ne (tgt := 16) hx hb dX8_row_4 (by decide) (fun k2 => ?_) (fun k2 => ?_)
  · rw [if_neg k2] at h
    refine lv_iconst (v := -1) hx hb dX8_row_16 (by decide) ?_
    obtain rfl := Option.some.inj h
    exact rI hx hb hr hlk hK hP hS dX8_row_17
  · rw [if_pos k2] at h
    refine lv_iload_n hx hb dX8_row_7 rfl (lv_at hl 2 rfl) ?_
    refine lv_if_lt (tgt := 16) hx hb dX8_row_8 (by decide) (fun k3 => ?_) (fun k3 => ?_)
    · rw [if_pos k3] at h
      refine lv_iconst (v := -1) hx hb dX8_row_16 (by decide) ?_
      obtain rfl := Option.some.inj h
      exact rI hx hb hr hlk hK hP hS dX8_row_17
    · rw [if_neg k3] at h
      refine lv_iload_n hx hb dX8_row_11 rfl (lv_at hl 2 rfl) ?_
      refine lv_iconst (v := 2) hx hb dX8_row_12 (by decide) ?_
      refine lv_icmp_le (tgt := 18) hx hb dX8_row_13 (by decide) (fun k4 => ?_) (fun k4 => ?_)
      · rw [if_pos k4] at h
        refine lv_iload_n hx hb dX8_row_18 rfl (lv_at hl 3 rfl) ?_
        refine lv_if_ge (tgt := 25) hx hb dX8_row_19 (by decide) (fun k5 => ?_) (fun k5 => ?_)
        · rw [if_pos k5] at h
          refine lv_iload_n hx hb dX8_row_25 rfl (lv_at hl 3 rfl) ?_
          refine lv_bipush (v := 20) hx hb dX8_row_26 (by decide) ?_
          refine lv_icmp_le (tgt := 33) hx hb dX8_row_28 (by decide) (fun k6 => ?_) (fun k6 => ?_)
          · rw [if_pos k6] at h
            refine lv_aload_n hx hb dX8_row_33 rfl (lv_at hl 0 rfl) ?_
            refine va_get (D := D) (ci := 7) (v := .ref (q 1)) (C := RX8) (T := TX8) (N := 7) hx hb hts (fun w h => sub_z _ (inX8 w h)) hown hK hP 0 rfl rfl 0 (by decide) (hts _ (sub_z _ k_212)) (fun _ h => h) rfl dX8_row_34 ?_
            refine lv_iload_n hx hb dX8_row_37 rfl (lv_at hl 1 rfl) ?_
            obtain ⟨k7, h⟩ := dg h
            have j_a1 := inb_lt k7
            refine va_aldq (C := "SandBench$Row") (f := fun j => some (q (2 + 2 * j))) hx hb hK hP 1 4 rfl rfl (inb_vp k7) dX8_row_38 ?_
            refine W.eq (g2 := F0 m 39 ls ([.ref (q (2 + 2 * a1.toNatClampNeg))])) rfl ?_
            refine lv_iload_n hx hb dX8_row_39 rfl (lv_at hl 2 rfl) ?_
            refine lv_iload_n hx hb dX8_row_40 rfl (lv_at hl 3 rfl) ?_
            obtain ⟨v8, hv8, h⟩ := dq h
            refine cVv (As := [.int a2, .int a3]) (rest := []) ⟨hx, hb, hml, hown, hts⟩ (c_X7_come (dT := dT) (rs := rs) (g := g) (bh := bh) (c1 := c1) (c2 := c2) (re := re) (pl := pl) (cl := cl) hD j_a1 hv8) (cwV 2 hts (good_V sub_z k_241 k_242 k_243 k_2 k_244) rfl rfl rfl (by decide +kernel) (by decide)) (recvRow hK hP j_a1) hK hP hS rfl hl.1 rfl (Nat.le_of_ble_eq_true rfl) dX8_row_41 (by decide) (fun H locs hP hS => ?_)
            refine lv_iconst (v := 1) hx hb dX8_row_44 (by decide) ?_
            obtain rfl := Option.some.inj h
            exact rI hx hb hr hlk hK hP hS dX8_row_45
          · rw [if_neg k6] at h
            refine lv_iconst (v := -1) hx hb dX8_row_31 (by decide) ?_
            obtain rfl := Option.some.inj h
            exact rI hx hb hr hlk hK hP hS dX8_row_32
        · rw [if_neg k5] at h
          refine lv_bipush (v := -4) hx hb dX8_row_22 (by decide) ?_
          obtain rfl := Option.some.inj h
          exact rI hx hb hr hlk hK hP hS dX8_row_24
      · rw [if_neg k4] at h
        refine lv_iconst (v := -1) hx hb dX8_row_16 (by decide) ?_
        obtain rfl := Option.some.inj h
        exact rI hx hb hr hlk hK hP hS dX8_row_17

set_option maxRecDepth 100000 in
set_option maxHeartbeats 4000000 in
theorem c_X8_cell {l : Launch} {D : va_G} {dT : Nat → ClassId} {q : Nat → Nat} (hD : xD q) {rs : (Nat → tRow)} {g : tG_} {bh : tBH} {c1 : tC} {c2 : tC} {re : tRE} {pl : tPL} {cl : tCL} {a1 : Int32} {a2 : Int32} {a3 : Int32} {v : Int32 × (Nat → tRow)} (h : f_X8_cell rs a1 a2 a3 = some v) : MG l yX8_cell cX8_cell 4 (some .int) 1 [.ref (q 0), .int a1, .int a2, .int a3] D (tyL dT) (wX dT q rs g bh c1 c2 re pl cl) (QI D (tyL dT) (xA q) (wX dT q v.2 g bh c1 c2 re pl cl) v.1) (xA q) := by
  refine MG.mk (by decide +kernel) (Nat.le_of_ble_eq_true rfl) ?_
  intro p e s m below meth c hx hb hr hml hown hts hlk hK hP ls hl
  have hown : s.vm.findClass RX8 = some m.cls := hown
  have hS : va_S (xA q) s.heap s.heap [] := va_S.rf
  have hl : lv_has ls 4 [(0, .ref (q 0)), (1, .int a1), (2, .int a2), (3, .int a3)] := hl
  rw [f_X8_cell] at h
  refine lv_iload_n hx hb dX8_cell_0 rfl (lv_at hl 1 rfl) ?_
  obtain ⟨v1, hv1, h⟩ := dq h
  refine cSi (As := [.int a1]) (rest := []) ⟨hx, hb, hml, hown, hts⟩ (c_X8_isNoRow (dT := dT) (rs := rs) (g := g) (bh := bh) (c1 := c1) (c2 := c2) (re := re) (pl := pl) (cl := cl) hD hv1) (va_cwS 1 hts (good_S sub_z k_238 k_239 k_1 k_240) rfl rfl rfl (by decide +kernel) (by decide)) hK hP hS rfl hl.1 rfl (Nat.le_of_ble_eq_true rfl) dX8_cell_1 (by decide) (fun H locs hP hS => ?_)
  refine lv_if_eq (tgt := 9) hx hb dX8_cell_4 (by decide) (fun k2 => ?_) (fun k2 => ?_)
  · rw [if_pos k2] at h
    refine lv_aload_n hx hb dX8_cell_9 rfl (lv_at hl 0 rfl) ?_
    refine va_get (D := D) (ci := 7) (v := .ref (q 1)) (C := RX8) (T := TX8) (N := 7) hx hb hts (fun w h => sub_z _ (inX8 w h)) hown hK hP 0 rfl rfl 0 (by decide) (hts _ (sub_z _ k_212)) (fun _ h => h) rfl dX8_cell_10 ?_
    refine lv_iload_n hx hb dX8_cell_13 rfl (lv_at hl 1 rfl) ?_
    obtain ⟨k3, h⟩ := dg h
    have j_a1 := inb_lt k3
    refine va_aldq (C := "SandBench$Row") (f := fun j => some (q (2 + 2 * j))) hx hb hK hP 1 4 rfl rfl (inb_vp k3) dX8_cell_14 ?_
    refine W.eq (g2 := F0 m 15 ls ([.ref (q (2 + 2 * a1.toNatClampNeg))])) rfl ?_
    obtain ⟨v4, hv4, h⟩ := dq h
    refine cVi (As := []) (rest := []) ⟨hx, hb, hml, hown, hts⟩ (c_X7_isMissing (dT := dT) (rs := rs) (g := g) (bh := bh) (c1 := c1) (c2 := c2) (re := re) (pl := pl) (cl := cl) hD j_a1 hv4) (cwV 0 hts (good_V sub_z k_252 k_253 k_254 k_2 k_255) rfl rfl rfl (by decide +kernel) (by decide)) (recvRow hK hP j_a1) hK hP hS rfl hl.1 rfl (Nat.le_of_ble_eq_true rfl) dX8_cell_15 (by decide) (fun H locs hP hS => ?_)
    refine lv_if_eq (tgt := 24) hx hb dX8_cell_18 (by decide) (fun k5 => ?_) (fun k5 => ?_)
    · rw [if_pos k5] at h
      refine lv_aload_n hx hb dX8_cell_24 rfl (lv_at hl 0 rfl) ?_
      refine va_get (D := D) (ci := 7) (v := .ref (q 1)) (C := RX8) (T := TX8) (N := 7) hx hb hts (fun w h => sub_z _ (inX8 w h)) hown hK hP 0 rfl rfl 0 (by decide) (hts _ (sub_z _ k_212)) (fun _ h => h) rfl dX8_cell_25 ?_
      refine lv_iload_n hx hb dX8_cell_28 rfl (lv_at hl 1 rfl) ?_
      obtain ⟨k6, h⟩ := dg h
      have j_a1 := inb_lt k6
      refine va_aldq (C := "SandBench$Row") (f := fun j => some (q (2 + 2 * j))) hx hb hK hP 1 4 rfl rfl (inb_vp k6) dX8_cell_29 ?_
      refine W.eq (g2 := F0 m 30 ls ([.ref (q (2 + 2 * a1.toNatClampNeg))])) rfl ?_
      refine lv_iload_n hx hb dX8_cell_30 rfl (lv_at hl 2 rfl) ?_
      obtain ⟨v7, hv7, h⟩ := dq h
      refine cVi (As := [.int a2]) (rest := []) ⟨hx, hb, hml, hown, hts⟩ (c_X7_has (dT := dT) (rs := rs) (g := g) (bh := bh) (c1 := c1) (c2 := c2) (re := re) (pl := pl) (cl := cl) hD j_a1 hv7) (cwV 1 hts (good_V sub_z k_256 k_257 k_258 k_2 k_259) rfl rfl rfl (by decide +kernel) (by decide)) (recvRow hK hP j_a1) hK hP hS rfl hl.1 rfl (Nat.le_of_ble_eq_true rfl) dX8_cell_31 (by decide) (fun H locs hP hS => ?_)
      refine lv_if_ne (tgt := 39) hx hb dX8_cell_34 (by decide) (fun k8 => ?_) (fun k8 => ?_)
      · rw [if_neg k8] at h
        refine lv_aload_n hx hb dX8_cell_39 rfl (lv_at hl 0 rfl) ?_
        refine va_get (D := D) (ci := 7) (v := .ref (q 1)) (C := RX8) (T := TX8) (N := 7) hx hb hts (fun w h => sub_z _ (inX8 w h)) hown hK hP 0 rfl rfl 0 (by decide) (hts _ (sub_z _ k_212)) (fun _ h => h) rfl dX8_cell_40 ?_
        refine lv_iload_n hx hb dX8_cell_43 rfl (lv_at hl 1 rfl) ?_
        obtain ⟨k9, h⟩ := dg h
        have j_a1 := inb_lt k9
        refine va_aldq (C := "SandBench$Row") (f := fun j => some (q (2 + 2 * j))) hx hb hK hP 1 4 rfl rfl (inb_vp k9) dX8_cell_44 ?_
        refine W.eq (g2 := F0 m 45 ls ([.ref (q (2 + 2 * a1.toNatClampNeg))])) rfl ?_
        refine lv_iload_n hx hb dX8_cell_45 rfl (lv_at hl 2 rfl) ?_
        refine lv_iload_n hx hb dX8_cell_46 rfl (lv_at hl 3 rfl) ?_
        obtain ⟨v10, hv10, h⟩ := dq h
        refine cVv (As := [.int a2, .int a3]) (rest := []) ⟨hx, hb, hml, hown, hts⟩ (c_X7_change (dT := dT) (rs := rs) (g := g) (bh := bh) (c1 := c1) (c2 := c2) (re := re) (pl := pl) (cl := cl) hD j_a1 hv10) (cwV 2 hts (good_V sub_z k_260 k_261 k_262 k_2 k_263) rfl rfl rfl (by decide +kernel) (by decide)) (recvRow hK hP j_a1) hK hP hS rfl hl.1 rfl (Nat.le_of_ble_eq_true rfl) dX8_cell_47 (by decide) (fun H locs hP hS => ?_)
        refine lv_iconst (v := 1) hx hb dX8_cell_50 (by decide) ?_
        obtain rfl := Option.some.inj h
        exact rI hx hb hr hlk hK hP hS dX8_cell_51
      · rw [if_pos k8] at h
        refine lv_iconst (v := -1) hx hb dX8_cell_37 (by decide) ?_
        obtain rfl := Option.some.inj h
        exact rI hx hb hr hlk hK hP hS dX8_cell_38
    · rw [if_neg k5] at h
      refine lv_bipush (v := -3) hx hb dX8_cell_21 (by decide) ?_
      obtain rfl := Option.some.inj h
      exact rI hx hb hr hlk hK hP hS dX8_cell_23
  · rw [if_neg k2] at h
    refine lv_iconst (v := -1) hx hb dX8_cell_7 (by decide) ?_
    obtain rfl := Option.some.inj h
    exact rI hx hb hr hlk hK hP hS dX8_cell_8

set_option maxRecDepth 100000 in
set_option maxHeartbeats 4000000 in
theorem c_X8_told {l : Launch} {D : va_G} {dT : Nat → ClassId} {q : Nat → Nat} (hD : xD q) {rs : (Nat → tRow)} {g : tG_} {bh : tBH} {c1 : tC} {c2 : tC} {re : tRE} {pl : tPL} {cl : tCL} {a1 : Int32} {a2 : Int32} {v : Int32} (h : f_X8_told rs a1 a2 = some v) : MG l yX8_told cX8_told 3 (some .int) 1 [.ref (q 0), .int a1, .int a2] D (tyL dT) (wX dT q rs g bh c1 c2 re pl cl) (QI D (tyL dT) (xA q) (wX dT q rs g bh c1 c2 re pl cl) v) (xA q) := by
  refine MG.mk (by decide +kernel) (Nat.le_of_ble_eq_true rfl) ?_
  intro p e s m below meth c hx hb hr hml hown hts hlk hK hP ls hl
  have hown : s.vm.findClass RX8 = some m.cls := hown
  have hS : va_S (xA q) s.heap s.heap [] := va_S.rf
  have hl : lv_has ls 3 [(0, .ref (q 0)), (1, .int a1), (2, .int a2)] := hl
  rw [f_X8_told] at h
  refine lv_iload_n hx hb dX8_told_0 rfl (lv_at hl 1 rfl) ?_
  obtain ⟨v1, hv1, h⟩ := dq h
  refine cSi (As := [.int a1]) (rest := []) ⟨hx, hb, hml, hown, hts⟩ (c_X8_isNoRow (dT := dT) (rs := rs) (g := g) (bh := bh) (c1 := c1) (c2 := c2) (re := re) (pl := pl) (cl := cl) hD hv1) (va_cwS 1 hts (good_S sub_z k_238 k_239 k_1 k_240) rfl rfl rfl (by decide +kernel) (by decide)) hK hP hS rfl hl.1 rfl (Nat.le_of_ble_eq_true rfl) dX8_told_1 (by decide) (fun H locs hP hS => ?_)
  refine lv_if_ne (tgt := 20) hx hb dX8_told_4 (by decide) (fun k2 => ?_) (fun k2 => ?_)
  · rw [if_neg k2] at h
    refine lv_ldc (v := -2147483648) hx hb hown (hts _ (sub_z _ k_268)) dX8_told_20 ?_
    obtain rfl := Option.some.inj h
    exact rI hx hb hr hlk hK hP hS dX8_told_22
  · rw [if_pos k2] at h
    refine lv_aload_n hx hb dX8_told_7 rfl (lv_at hl 0 rfl) ?_
    refine va_get (D := D) (ci := 7) (v := .ref (q 1)) (C := RX8) (T := TX8) (N := 7) hx hb hts (fun w h => sub_z _ (inX8 w h)) hown hK hP 0 rfl rfl 0 (by decide) (hts _ (sub_z _ k_212)) (fun _ h => h) rfl dX8_told_8 ?_
    refine lv_iload_n hx hb dX8_told_11 rfl (lv_at hl 1 rfl) ?_
    obtain ⟨k3, h⟩ := dg h
    have j_a1 := inb_lt k3
    refine va_aldq (C := "SandBench$Row") (f := fun j => some (q (2 + 2 * j))) hx hb hK hP 1 4 rfl rfl (inb_vp k3) dX8_told_12 ?_
    refine W.eq (g2 := F0 m 13 ls ([.ref (q (2 + 2 * a1.toNatClampNeg))])) rfl ?_
    refine lv_iload_n hx hb dX8_told_13 rfl (lv_at hl 2 rfl) ?_
    obtain ⟨v4, hv4, h⟩ := dq h
    refine cVi (As := [.int a2]) (rest := []) ⟨hx, hb, hml, hown, hts⟩ (c_X7_has (dT := dT) (rs := rs) (g := g) (bh := bh) (c1 := c1) (c2 := c2) (re := re) (pl := pl) (cl := cl) hD j_a1 hv4) (cwV 1 hts (good_V sub_z k_256 k_257 k_258 k_2 k_259) rfl rfl rfl (by decide +kernel) (by decide)) (recvRow hK hP j_a1) hK hP hS rfl hl.1 rfl (Nat.le_of_ble_eq_true rfl) dX8_told_14 (by decide) (fun H locs hP hS => ?_)
    refine lv_if_ne (tgt := 23) hx hb dX8_told_17 (by decide) (fun k5 => ?_) (fun k5 => ?_)
    · rw [if_neg k5] at h
      refine lv_aload_n hx hb dX8_told_23 rfl (lv_at hl 0 rfl) ?_
      refine va_get (D := D) (ci := 7) (v := .ref (q 1)) (C := RX8) (T := TX8) (N := 7) hx hb hts (fun w h => sub_z _ (inX8 w h)) hown hK hP 0 rfl rfl 0 (by decide) (hts _ (sub_z _ k_212)) (fun _ h => h) rfl dX8_told_24 ?_
      refine lv_iload_n hx hb dX8_told_27 rfl (lv_at hl 1 rfl) ?_
      obtain ⟨k6, h⟩ := dg h
      have j_a1 := inb_lt k6
      refine va_aldq (C := "SandBench$Row") (f := fun j => some (q (2 + 2 * j))) hx hb hK hP 1 4 rfl rfl (inb_vp k6) dX8_told_28 ?_
      refine W.eq (g2 := F0 m 29 ls ([.ref (q (2 + 2 * a1.toNatClampNeg))])) rfl ?_
      refine lv_iload_n hx hb dX8_told_29 rfl (lv_at hl 2 rfl) ?_
      obtain ⟨v7, hv7, h⟩ := dq h
      refine cVi (As := [.int a2]) (rest := []) ⟨hx, hb, hml, hown, hts⟩ (c_X7_number (dT := dT) (rs := rs) (g := g) (bh := bh) (c1 := c1) (c2 := c2) (re := re) (pl := pl) (cl := cl) hD j_a1 hv7) (cwV 1 hts (good_V sub_z k_269 k_270 k_271 k_2 k_272) rfl rfl rfl (by decide +kernel) (by decide)) (recvRow hK hP j_a1) hK hP hS rfl hl.1 rfl (Nat.le_of_ble_eq_true rfl) dX8_told_30 (by decide) (fun H locs hP hS => ?_)
      obtain rfl := Option.some.inj h
      exact rI hx hb hr hlk hK hP hS dX8_told_33
    · rw [if_pos k5] at h
      refine lv_ldc (v := -2147483648) hx hb hown (hts _ (sub_z _ k_268)) dX8_told_20 ?_
      obtain rfl := Option.some.inj h
      exact rI hx hb hr hlk hK hP hS dX8_told_22

set_option maxRecDepth 100000 in
set_option maxHeartbeats 4000000 in
theorem c_X8_lose {l : Launch} {D : va_G} {dT : Nat → ClassId} {q : Nat → Nat} (hD : xD q) {rs : (Nat → tRow)} {g : tG_} {bh : tBH} {c1 : tC} {c2 : tC} {re : tRE} {pl : tPL} {cl : tCL} {a1 : Int32} {v : Int32 × (Nat → tRow)} (h : f_X8_lose rs a1 = some v) : MG l yX8_lose cX8_lose 2 (some .int) 1 [.ref (q 0), .int a1] D (tyL dT) (wX dT q rs g bh c1 c2 re pl cl) (QI D (tyL dT) (xA q) (wX dT q v.2 g bh c1 c2 re pl cl) v.1) (xA q) := by
  refine MG.mk (by decide +kernel) (Nat.le_of_ble_eq_true rfl) ?_
  intro p e s m below meth c hx hb hr hml hown hts hlk hK hP ls hl
  have hown : s.vm.findClass RX8 = some m.cls := hown
  have hS : va_S (xA q) s.heap s.heap [] := va_S.rf
  have hl : lv_has ls 2 [(0, .ref (q 0)), (1, .int a1)] := hl
  rw [f_X8_lose] at h
  refine lv_iload_n hx hb dX8_lose_0 rfl (lv_at hl 1 rfl) ?_
  obtain ⟨v1, hv1, h⟩ := dq h
  refine cSi (As := [.int a1]) (rest := []) ⟨hx, hb, hml, hown, hts⟩ (c_X8_isNoRow (dT := dT) (rs := rs) (g := g) (bh := bh) (c1 := c1) (c2 := c2) (re := re) (pl := pl) (cl := cl) hD hv1) (va_cwS 1 hts (good_S sub_z k_238 k_239 k_1 k_240) rfl rfl rfl (by decide +kernel) (by decide)) hK hP hS rfl hl.1 rfl (Nat.le_of_ble_eq_true rfl) dX8_lose_1 (by decide) (fun H locs hP hS => ?_)
  refine lv_if_eq (tgt := 9) hx hb dX8_lose_4 (by decide) (fun k2 => ?_) (fun k2 => ?_)
  · rw [if_pos k2] at h
    refine lv_aload_n hx hb dX8_lose_9 rfl (lv_at hl 0 rfl) ?_
    refine va_get (D := D) (ci := 7) (v := .ref (q 1)) (C := RX8) (T := TX8) (N := 7) hx hb hts (fun w h => sub_z _ (inX8 w h)) hown hK hP 0 rfl rfl 0 (by decide) (hts _ (sub_z _ k_212)) (fun _ h => h) rfl dX8_lose_10 ?_
    refine lv_iload_n hx hb dX8_lose_13 rfl (lv_at hl 1 rfl) ?_
    obtain ⟨k3, h⟩ := dg h
    have j_a1 := inb_lt k3
    refine va_aldq (C := "SandBench$Row") (f := fun j => some (q (2 + 2 * j))) hx hb hK hP 1 4 rfl rfl (inb_vp k3) dX8_lose_14 ?_
    refine W.eq (g2 := F0 m 15 ls ([.ref (q (2 + 2 * a1.toNatClampNeg))])) rfl ?_
    obtain ⟨v4, hv4, h⟩ := dq h
    refine cVi (As := []) (rest := []) ⟨hx, hb, hml, hown, hts⟩ (c_X7_isMissing (dT := dT) (rs := rs) (g := g) (bh := bh) (c1 := c1) (c2 := c2) (re := re) (pl := pl) (cl := cl) hD j_a1 hv4) (cwV 0 hts (good_V sub_z k_252 k_253 k_254 k_2 k_255) rfl rfl rfl (by decide +kernel) (by decide)) (recvRow hK hP j_a1) hK hP hS rfl hl.1 rfl (Nat.le_of_ble_eq_true rfl) dX8_lose_15 (by decide) (fun H locs hP hS => ?_)
    refine lv_if_eq (tgt := 24) hx hb dX8_lose_18 (by decide) (fun k5 => ?_) (fun k5 => ?_)
    · rw [if_pos k5] at h
      refine lv_aload_n hx hb dX8_lose_24 rfl (lv_at hl 0 rfl) ?_
      refine va_get (D := D) (ci := 7) (v := .ref (q 1)) (C := RX8) (T := TX8) (N := 7) hx hb hts (fun w h => sub_z _ (inX8 w h)) hown hK hP 0 rfl rfl 0 (by decide) (hts _ (sub_z _ k_212)) (fun _ h => h) rfl dX8_lose_25 ?_
      refine lv_iload_n hx hb dX8_lose_28 rfl (lv_at hl 1 rfl) ?_
      obtain ⟨k6, h⟩ := dg h
      have j_a1 := inb_lt k6
      refine va_aldq (C := "SandBench$Row") (f := fun j => some (q (2 + 2 * j))) hx hb hK hP 1 4 rfl rfl (inb_vp k6) dX8_lose_29 ?_
      refine W.eq (g2 := F0 m 30 ls ([.ref (q (2 + 2 * a1.toNatClampNeg))])) rfl ?_
      obtain ⟨v7, hv7, h⟩ := dq h
      refine cVv (As := []) (rest := []) ⟨hx, hb, hml, hown, hts⟩ (c_X7_go (dT := dT) (rs := rs) (g := g) (bh := bh) (c1 := c1) (c2 := c2) (re := re) (pl := pl) (cl := cl) hD j_a1 hv7) (cwV 0 hts (good_V sub_z k_277 k_278 k_279 k_2 k_280) rfl rfl rfl (by decide +kernel) (by decide)) (recvRow hK hP j_a1) hK hP hS rfl hl.1 rfl (Nat.le_of_ble_eq_true rfl) dX8_lose_30 (by decide) (fun H locs hP hS => ?_)
      refine lv_iconst (v := 1) hx hb dX8_lose_33 (by decide) ?_
      obtain rfl := Option.some.inj h
      exact rI hx hb hr hlk hK hP hS dX8_lose_34
    · rw [if_neg k5] at h
      refine lv_bipush (v := -3) hx hb dX8_lose_21 (by decide) ?_
      obtain rfl := Option.some.inj h
      exact rI hx hb hr hlk hK hP hS dX8_lose_23
  · rw [if_neg k2] at h
    refine lv_iconst (v := -1) hx hb dX8_lose_7 (by decide) ?_
    obtain rfl := Option.some.inj h
    exact rI hx hb hr hlk hK hP hS dX8_lose_8

set_option maxRecDepth 100000 in
set_option maxHeartbeats 4000000 in
theorem c_X8_tellsGrains {l : Launch} {D : va_G} {dT : Nat → ClassId} {q : Nat → Nat} (hD : xD q) {rs : (Nat → tRow)} {g : tG_} {bh : tBH} {c1 : tC} {c2 : tC} {re : tRE} {pl : tPL} {cl : tCL} {a1 : Int32} {a2 : Int32} {v : Int32} (h : f_X8_tellsGrains rs a1 a2 = some v) : MG l yX8_tellsGrains cX8_tellsGrains 3 (some .boolean) 1 [.ref (q 0), .int a1, .int a2] D (tyL dT) (wX dT q rs g bh c1 c2 re pl cl) (QI D (tyL dT) (xA q) (wX dT q rs g bh c1 c2 re pl cl) v) (xA q) := by
  refine MG.mk (by decide +kernel) (Nat.le_of_ble_eq_true rfl) ?_
  intro p e s m below meth c hx hb hr hml hown hts hlk hK hP ls hl
  have hown : s.vm.findClass RX8 = some m.cls := hown
  have hS : va_S (xA q) s.heap s.heap [] := va_S.rf
  have hl : lv_has ls 3 [(0, .ref (q 0)), (1, .int a1), (2, .int a2)] := hl
  rw [f_X8_tellsGrains] at h
  refine lv_aload_n hx hb dX8_tellsGrains_0 rfl (lv_at hl 0 rfl) ?_
  refine va_get (D := D) (ci := 7) (v := .ref (q 1)) (C := RX8) (T := TX8) (N := 7) hx hb hts (fun w h => sub_z _ (inX8 w h)) hown hK hP 0 rfl rfl 0 (by decide) (hts _ (sub_z _ k_212)) (fun _ h => h) rfl dX8_tellsGrains_1 ?_
  refine lv_iload_n hx hb dX8_tellsGrains_4 rfl (lv_at hl 1 rfl) ?_
  obtain ⟨k1, h⟩ := dg h
  have j_a1 := inb_lt k1
  refine va_aldq (C := "SandBench$Row") (f := fun j => some (q (2 + 2 * j))) hx hb hK hP 1 4 rfl rfl (inb_vp k1) dX8_tellsGrains_5 ?_
  refine W.eq (g2 := F0 m 6 ls ([.ref (q (2 + 2 * a1.toNatClampNeg))])) rfl ?_
  refine lv_iload_n hx hb dX8_tellsGrains_6 rfl (lv_at hl 2 rfl) ?_
  obtain ⟨v2, hv2, h⟩ := dq h
  refine cVi (As := [.int a2]) (rest := []) ⟨hx, hb, hml, hown, hts⟩ (c_X7_has (dT := dT) (rs := rs) (g := g) (bh := bh) (c1 := c1) (c2 := c2) (re := re) (pl := pl) (cl := cl) hD j_a1 hv2) (cwV 1 hts (good_V sub_z k_256 k_257 k_258 k_2 k_259) rfl rfl rfl (by decide +kernel) (by decide)) (recvRow hK hP j_a1) hK hP hS rfl hl.1 rfl (Nat.le_of_ble_eq_true rfl) dX8_tellsGrains_7 (by decide) (fun H locs hP hS => ?_)
  refine lv_if_eq (tgt := 33) hx hb dX8_tellsGrains_10 (by decide) (fun k3 => ?_) (fun k3 => ?_)
  · rw [if_pos k3] at h
    refine lv_iconst (v := 0) hx hb dX8_tellsGrains_33 (by decide) ?_
    obtain rfl := Option.some.inj h
    exact rZ (v := (0 : Int32)) hx hb hr hlk rfl hK hP hS dX8_tellsGrains_34
  · rw [if_neg k3] at h
    refine lv_aload_n hx hb dX8_tellsGrains_13 rfl (lv_at hl 0 rfl) ?_
    refine va_get (D := D) (ci := 7) (v := .ref (q 1)) (C := RX8) (T := TX8) (N := 7) hx hb hts (fun w h => sub_z _ (inX8 w h)) hown hK hP 0 rfl rfl 0 (by decide) (hts _ (sub_z _ k_212)) (fun _ h => h) rfl dX8_tellsGrains_14 ?_
    refine lv_iload_n hx hb dX8_tellsGrains_17 rfl (lv_at hl 1 rfl) ?_
    obtain ⟨k4, h⟩ := dg h
    have j_a1 := inb_lt k4
    refine va_aldq (C := "SandBench$Row") (f := fun j => some (q (2 + 2 * j))) hx hb hK hP 1 4 rfl rfl (inb_vp k4) dX8_tellsGrains_18 ?_
    refine W.eq (g2 := F0 m 19 ls ([.ref (q (2 + 2 * a1.toNatClampNeg))])) rfl ?_
    refine lv_iload_n hx hb dX8_tellsGrains_19 rfl (lv_at hl 2 rfl) ?_
    obtain ⟨v5, hv5, h⟩ := dq h
    refine cVi (As := [.int a2]) (rest := []) ⟨hx, hb, hml, hown, hts⟩ (c_X7_number (dT := dT) (rs := rs) (g := g) (bh := bh) (c1 := c1) (c2 := c2) (re := re) (pl := pl) (cl := cl) hD j_a1 hv5) (cwV 1 hts (good_V sub_z k_269 k_270 k_271 k_2 k_272) rfl rfl rfl (by decide +kernel) (by decide)) (recvRow hK hP j_a1) hK hP hS rfl hl.1 rfl (Nat.le_of_ble_eq_true rfl) dX8_tellsGrains_20 (by decide) (fun H locs hP hS => ?_)
    obtain ⟨v6, hv6, h⟩ := dq h
    refine cSi (As := [.int v5]) (rest := []) ⟨hx, hb, hml, hown, hts⟩ (c_X3_canHold (dT := dT) (rs := rs) (g := g) (bh := bh) (c1 := c1) (c2 := c2) (re := re) (pl := pl) (cl := cl) hD hv6) (va_cwS 1 hts (good_S sub_z k_289 k_290 k_3 k_291) rfl rfl rfl (by decide +kernel) (by decide)) hK hP hS rfl hl.1 rfl (Nat.le_of_ble_eq_true rfl) dX8_tellsGrains_23 (by decide) (fun H locs hP hS => ?_)
    refine lv_if_eq (tgt := 33) hx hb dX8_tellsGrains_26 (by decide) (fun k7 => ?_) (fun k7 => ?_)
    · rw [if_pos k7] at h
      refine lv_iconst (v := 0) hx hb dX8_tellsGrains_33 (by decide) ?_
      obtain rfl := Option.some.inj h
      exact rZ (v := (0 : Int32)) hx hb hr hlk rfl hK hP hS dX8_tellsGrains_34
    · rw [if_neg k7] at h
      refine lv_iconst (v := 1) hx hb dX8_tellsGrains_29 (by decide) ?_
      refine lv_goto (tgt := 34) hx hb dX8_tellsGrains_30 (by decide) ?_
      obtain rfl := Option.some.inj h
      exact rZ (v := (1 : Int32)) hx hb hr hlk rfl hK hP hS dX8_tellsGrains_34

set_option maxRecDepth 100000 in
set_option maxHeartbeats 4000000 in
theorem c_X8_startAnew {l : Launch} {D : va_G} {dT : Nat → ClassId} {q : Nat → Nat} (hD : xD q) {rs : (Nat → tRow)} {g : tG_} {bh : tBH} {c1 : tC} {c2 : tC} {re : tRE} {pl : tPL} {cl : tCL}  {v : tBH × tC × tRE × tPL} (h : f_X8_startAnew bh c1 re pl = some v) : MG l yX8_startAnew cX8_startAnew 1 none 2 [.ref (q 0)] D (tyL dT) (wX dT q rs g bh c1 c2 re pl cl) (QV D (tyL dT) (xA q) (wX dT q rs g v.1 v.2.1 c2 v.2.2.1 v.2.2.2 cl)) (xA q) := by
  refine MG.mk (by decide +kernel) (Nat.le_of_ble_eq_true rfl) ?_
  intro p e s m below meth c hx hb hr hml hown hts hlk hK hP ls hl
  have hown : s.vm.findClass RX8 = some m.cls := hown
  have hS : va_S (xA q) s.heap s.heap [] := va_S.rf
  have hl : lv_has ls 1 [(0, .ref (q 0))] := hl
  rw [f_X8_startAnew] at h
  refine lv_aload_n hx hb dX8_startAnew_0 rfl (lv_at hl 0 rfl) ?_
  refine va_get (D := D) (ci := 7) (v := .ref (q 14)) (C := RX8) (T := TX8) (N := 7) hx hb hts (fun w h => sub_z _ (inX8 w h)) hown hK hP 0 rfl rfl 2 (by decide) (hts _ (sub_z _ k_214)) (fun _ h => h) rfl dX8_startAnew_1 ?_
  obtain ⟨v1, hv1, h⟩ := dq h
  refine cVv (As := []) (rest := []) ⟨hx, hb, hml, hown, hts⟩ (c_X0_restart (dT := dT) (rs := rs) (g := g) (bh := bh) (c1 := c1) (c2 := c2) (re := re) (pl := pl) (cl := cl) hD hv1) (cwV 0 hts (good_V sub_z k_312 k_313 k_314 k_4 k_315) rfl rfl rfl (by decide +kernel) (by decide)) (va_recv hK hP (ci := 0) (q0 := 14) rfl rfl) hK hP hS rfl hl.1 rfl (Nat.le_of_ble_eq_true rfl) dX8_startAnew_4 (by decide) (fun H locs hP hS => ?_)
  refine lv_aload_n hx hb dX8_startAnew_7 rfl (lv_at hl 0 rfl) ?_
  refine va_get (D := D) (ci := 7) (v := .ref (q 27)) (C := RX8) (T := TX8) (N := 7) hx hb hts (fun w h => sub_z _ (inX8 w h)) hown hK hP 0 rfl rfl 4 (by decide) (hts _ (sub_z _ k_216)) (fun _ h => h) rfl dX8_startAnew_8 ?_
  obtain ⟨v2, hv2, h⟩ := dq h
  refine cVv (As := []) (rest := []) ⟨hx, hb, hml, hown, hts⟩ (c_X6_forget (dT := dT) (rs := rs) (g := g) (bh := v1.1) (c1 := v1.2) (c2 := c2) (re := re) (pl := pl) (cl := cl) hD hv2) (cwV 0 hts (good_V sub_z k_320 k_321 k_322 k_6 k_323) rfl rfl rfl (by decide +kernel) (by decide)) (va_recv hK hP (ci := 5) (q0 := 27) rfl rfl) hK hP hS rfl hl.1 rfl (Nat.le_of_ble_eq_true rfl) dX8_startAnew_11 (by decide) (fun H locs hP hS => ?_)
  refine lv_aload_n hx hb dX8_startAnew_14 rfl (lv_at hl 0 rfl) ?_
  refine va_get (D := D) (ci := 7) (v := .ref (q 35)) (C := RX8) (T := TX8) (N := 7) hx hb hts (fun w h => sub_z _ (inX8 w h)) hown hK hP 0 rfl rfl 5 (by decide) (hts _ (sub_z _ k_217)) (fun _ h => h) rfl dX8_startAnew_15 ?_
  obtain ⟨v3, hv3, h⟩ := dq h
  refine cVv (As := []) (rest := []) ⟨hx, hb, hml, hown, hts⟩ (c_X5_forget (dT := dT) (rs := rs) (g := g) (bh := v1.1) (c1 := v1.2) (c2 := c2) (re := v2) (pl := pl) (cl := cl) hD hv3) (cwV 0 hts (good_V sub_z k_324 k_325 k_326 k_7 k_327) rfl rfl rfl (by decide +kernel) (by decide)) (va_recv hK hP (ci := 4) (q0 := 35) rfl rfl) hK hP hS rfl hl.1 rfl (Nat.le_of_ble_eq_true rfl) dX8_startAnew_18 (by decide) (fun H locs hP hS => ?_)
  obtain rfl := Option.some.inj h
  exact rV hx hb hr hlk hK hP hS dX8_startAnew_21

set_option maxRecDepth 100000 in
set_option maxHeartbeats 4000000 in
theorem c_X8_glass {l : Launch} {D : va_G} {dT : Nat → ClassId} {q : Nat → Nat} (hD : xD q) {rs : (Nat → tRow)} {g : tG_} {bh : tBH} {c1 : tC} {c2 : tC} {re : tRE} {pl : tPL} {cl : tCL} {a1 : Int32} {a2 : Int32} {a3 : Int32} {a4 : Int32} {v : Int32 × tG_ × tBH × tC × tRE × tPL} (h : f_X8_glass rs g bh c1 re pl a1 a2 a3 a4 = some v) : MG l yX8_glass cX8_glass 6 (some .int) 3 [.ref (q 0), .int a1, .int a2, .int a3, .int a4] D (tyL dT) (wX dT q rs g bh c1 c2 re pl cl) (QI D (tyL dT) (xA q) (wX dT q rs v.2.1 v.2.2.1 v.2.2.2.1 c2 v.2.2.2.2.1 v.2.2.2.2.2 cl) v.1) (xA q) := by
  refine MG.mk (by decide +kernel) (Nat.le_of_ble_eq_true rfl) ?_
  intro p e s m below meth c hx hb hr hml hown hts hlk hK hP ls hl
  have hown : s.vm.findClass RX8 = some m.cls := hown
  have hS : va_S (xA q) s.heap s.heap [] := va_S.rf
  have hl : lv_has ls 6 [(0, .ref (q 0)), (1, .int a1), (2, .int a2), (3, .int a3), (4, .int a4)] := hl
  rw [f_X8_glass] at h
  refine lv_iload_n hx hb dX8_glass_0 rfl (lv_at hl 2 rfl) ?_
  obtain ⟨v1, hv1, h⟩ := dq h
  refine cSi (As := [.int a2]) (rest := []) ⟨hx, hb, hml, hown, hts⟩ (c_X8_isNoRow (dT := dT) (rs := rs) (g := g) (bh := bh) (c1 := c1) (c2 := c2) (re := re) (pl := pl) (cl := cl) hD hv1) (va_cwS 1 hts (good_S sub_z k_238 k_239 k_1 k_240) rfl rfl rfl (by decide +kernel) (by decide)) hK hP hS rfl hl.1 rfl (Nat.le_of_ble_eq_true rfl) dX8_glass_1 (by decide) (fun H locs hP hS => ?_)
  refine lv_if_ne (tgt := 16) hx hb dX8_glass_4 (by decide) (fun k2 => ?_) (fun k2 => ?_)
  · rw [if_neg k2] at h
    refine lv_iconst (v := -1) hx hb dX8_glass_16 (by decide) ?_
    obtain rfl := Option.some.inj h
    exact rI hx hb hr hlk hK hP hS dX8_glass_17
  · rw [if_pos k2] at h
    refine lv_iload_n hx hb dX8_glass_7 rfl (lv_at hl 1 rfl) ?_
    refine lv_if_lt (tgt := 16) hx hb dX8_glass_8 (by decide) (fun k3 => ?_) (fun k3 => ?_)
    · rw [if_pos k3] at h
      refine lv_iconst (v := -1) hx hb dX8_glass_16 (by decide) ?_
      obtain rfl := Option.some.inj h
      exact rI hx hb hr hlk hK hP hS dX8_glass_17
    · rw [if_neg k3] at h
      refine lv_iload_n hx hb dX8_glass_11 rfl (lv_at hl 1 rfl) ?_
      refine lv_iconst (v := 4) hx hb dX8_glass_12 (by decide) ?_
      refine lv_icmp_le (tgt := 18) hx hb dX8_glass_13 (by decide) (fun k4 => ?_) (fun k4 => ?_)
      · rw [if_pos k4] at h
        refine lv_aload_n hx hb dX8_glass_18 rfl (lv_at hl 0 rfl) ?_
        refine va_get (D := D) (ci := 7) (v := .ref (q 1)) (C := RX8) (T := TX8) (N := 7) hx hb hts (fun w h => sub_z _ (inX8 w h)) hown hK hP 0 rfl rfl 0 (by decide) (hts _ (sub_z _ k_212)) (fun _ h => h) rfl dX8_glass_19 ?_
        refine lv_iload_n hx hb dX8_glass_22 rfl (lv_at hl 2 rfl) ?_
        obtain ⟨k5, h⟩ := dg h
        have j_a2 := inb_lt k5
        refine va_aldq (C := "SandBench$Row") (f := fun j => some (q (2 + 2 * j))) hx hb hK hP 1 4 rfl rfl (inb_vp k5) dX8_glass_23 ?_
        refine W.eq (g2 := F0 m 24 ls ([.ref (q (2 + 2 * a2.toNatClampNeg))])) rfl ?_
        obtain ⟨v6, hv6, h⟩ := dq h
        refine cVi (As := []) (rest := []) ⟨hx, hb, hml, hown, hts⟩ (c_X7_isMissing (dT := dT) (rs := rs) (g := g) (bh := bh) (c1 := c1) (c2 := c2) (re := re) (pl := pl) (cl := cl) hD j_a2 hv6) (cwV 0 hts (good_V sub_z k_252 k_253 k_254 k_2 k_255) rfl rfl rfl (by decide +kernel) (by decide)) (recvRow hK hP j_a2) hK hP hS rfl hl.1 rfl (Nat.le_of_ble_eq_true rfl) dX8_glass_24 (by decide) (fun H locs hP hS => ?_)
        refine lv_if_eq (tgt := 33) hx hb dX8_glass_27 (by decide) (fun k7 => ?_) (fun k7 => ?_)
        · rw [if_pos k7] at h
          refine lv_aload_n hx hb dX8_glass_33 rfl (lv_at hl 0 rfl) ?_
          refine lv_iload_n hx hb dX8_glass_34 rfl (lv_at hl 2 rfl) ?_
          refine lv_iload_n hx hb dX8_glass_35 rfl (lv_at hl 3 rfl) ?_
          obtain ⟨v8, hv8, h⟩ := dq h
          refine cVi (As := [.int a2, .int a3]) (rest := []) ⟨hx, hb, hml, hown, hts⟩ (c_X8_tellsGrains (dT := dT) (rs := rs) (g := g) (bh := bh) (c1 := c1) (c2 := c2) (re := re) (pl := pl) (cl := cl) hD hv8) (cwV 2 hts (good_V sub_z k_285 k_287 ks_0 k_1 k_288) rfl rfl rfl (by decide +kernel) (by decide)) (va_recv hK hP (ci := 7) (q0 := 0) rfl rfl) hK hP hS rfl hl.1 rfl (Nat.le_of_ble_eq_true rfl) dX8_glass_36 (by decide) (fun H locs hP hS => ?_)
          refine lv_if_eq (tgt := 55) hx hb dX8_glass_39 (by decide) (fun k9 => ?_) (fun k9 => ?_)
          · rw [if_pos k9] at h
            refine lv_iconst (v := -1) hx hb dX8_glass_55 (by decide) ?_
            obtain rfl := Option.some.inj h
            exact rI hx hb hr hlk hK hP hS dX8_glass_56
          · rw [if_neg k9] at h
            refine lv_aload_n hx hb dX8_glass_42 rfl (lv_at hl 0 rfl) ?_
            refine va_get (D := D) (ci := 7) (v := .ref (q 10)) (C := RX8) (T := TX8) (N := 7) hx hb hts (fun w h => sub_z _ (inX8 w h)) hown hK hP 0 rfl rfl 1 (by decide) (hts _ (sub_z _ k_213)) (fun _ h => h) rfl dX8_glass_43 ?_
            refine lv_iload_n hx hb dX8_glass_46 rfl (lv_at hl 1 rfl) ?_
            refine lv_iload hx hb dX8_glass_47 (lv_at hl 4 rfl) ?_
            obtain ⟨v10, hv10, h⟩ := dq h
            refine cVi (As := [.int a1, .int a4]) (rest := []) ⟨hx, hb, hml, hown, hts⟩ (c_X3_suits (dT := dT) (rs := rs) (g := g) (bh := bh) (c1 := c1) (c2 := c2) (re := re) (pl := pl) (cl := cl) hD hv10) (cwV 2 hts (good_V sub_z k_292 k_293 k_294 k_3 k_295) rfl rfl rfl (by decide +kernel) (by decide)) (va_recv hK hP (ci := 3) (q0 := 10) rfl rfl) hK hP hS rfl hl.1 rfl (Nat.le_of_ble_eq_true rfl) dX8_glass_49 (by decide) (fun H locs hP hS => ?_)
            refine lv_if_ne (tgt := 57) hx hb dX8_glass_52 (by decide) (fun k11 => ?_) (fun k11 => ?_)
            · rw [if_neg k11] at h
              refine lv_aload_n hx hb dX8_glass_57 rfl (lv_at hl 0 rfl) ?_
              refine va_get (D := D) (ci := 7) (v := .ref (q 10)) (C := RX8) (T := TX8) (N := 7) hx hb hts (fun w h => sub_z _ (inX8 w h)) hown hK hP 0 rfl rfl 1 (by decide) (hts _ (sub_z _ k_213)) (fun _ h => h) rfl dX8_glass_58 ?_
              obtain ⟨v12, hv12, h⟩ := dq h
              refine cVi (As := []) (rest := []) ⟨hx, hb, hml, hown, hts⟩ (c_X3_isFull (dT := dT) (rs := rs) (g := g) (bh := bh) (c1 := c1) (c2 := c2) (re := re) (pl := pl) (cl := cl) hD hv12) (cwV 0 hts (good_V sub_z k_300 k_301 k_302 k_3 k_303) rfl rfl rfl (by decide +kernel) (by decide)) (va_recv hK hP (ci := 3) (q0 := 10) rfl rfl) hK hP hS rfl hl.1 rfl (Nat.le_of_ble_eq_true rfl) dX8_glass_61 (by decide) (fun H locs hP hS => ?_)
              refine lv_if_eq (tgt := 70) hx hb dX8_glass_64 (by decide) (fun k13 => ?_) (fun k13 => ?_)
              · rw [if_pos k13] at h
                refine lv_aload_n hx hb dX8_glass_70 rfl (lv_at hl 0 rfl) ?_
                refine va_get (D := D) (ci := 7) (v := .ref (q 10)) (C := RX8) (T := TX8) (N := 7) hx hb hts (fun w h => sub_z _ (inX8 w h)) hown hK hP 0 rfl rfl 1 (by decide) (hts _ (sub_z _ k_213)) (fun _ h => h) rfl dX8_glass_71 ?_
                refine lv_iload_n hx hb dX8_glass_74 rfl (lv_at hl 1 rfl) ?_
                refine lv_aload_n hx hb dX8_glass_75 rfl (lv_at hl 0 rfl) ?_
                refine va_get (D := D) (ci := 7) (v := .ref (q 1)) (C := RX8) (T := TX8) (N := 7) hx hb hts (fun w h => sub_z _ (inX8 w h)) hown hK hP 0 rfl rfl 0 (by decide) (hts _ (sub_z _ k_212)) (fun _ h => h) rfl dX8_glass_76 ?_
                refine lv_iload_n hx hb dX8_glass_79 rfl (lv_at hl 2 rfl) ?_
                obtain ⟨k14, h⟩ := dg h
                have j_a2 := inb_lt k14
                refine va_aldq (C := "SandBench$Row") (f := fun j => some (q (2 + 2 * j))) hx hb hK hP 1 4 rfl rfl (inb_vp k14) dX8_glass_80 ?_
                refine W.eq (g2 := F0 m 81 ls ([.ref (q (2 + 2 * a2.toNatClampNeg)), .int a1, .ref (q 10)])) rfl ?_
                refine lv_iload_n hx hb dX8_glass_81 rfl (lv_at hl 3 rfl) ?_
                obtain ⟨v15, hv15, h⟩ := dq h
                refine cVi (As := [.int a3]) (rest := [.int a1, .ref (q 10)]) ⟨hx, hb, hml, hown, hts⟩ (c_X7_number (dT := dT) (rs := rs) (g := g) (bh := bh) (c1 := c1) (c2 := c2) (re := re) (pl := pl) (cl := cl) hD j_a2 hv15) (cwV 1 hts (good_V sub_z k_269 k_270 k_271 k_2 k_272) rfl rfl rfl (by decide +kernel) (by decide)) (recvRow hK hP j_a2) hK hP hS rfl hl.1 rfl (Nat.le_of_ble_eq_true rfl) dX8_glass_82 (by decide) (fun H locs hP hS => ?_)
                refine lv_iload hx hb dX8_glass_85 (lv_at hl 4 rfl) ?_
                obtain ⟨v16, hv16, h⟩ := dq h
                refine cVi (As := [.int a1, .int v15, .int a4]) (rest := []) ⟨hx, hb, hml, hown, hts⟩ (c_X3_add (dT := dT) (rs := rs) (g := g) (bh := bh) (c1 := c1) (c2 := c2) (re := re) (pl := pl) (cl := cl) hD hv16) (cwV 3 hts (good_V sub_z k_304 k_305 k_306 k_3 k_307) rfl rfl rfl (by decide +kernel) (by decide)) (va_recv hK hP (ci := 3) (q0 := 10) rfl rfl) hK hP hS rfl hl.1 rfl (Nat.le_of_ble_eq_true rfl) dX8_glass_87 (by decide) (fun H locs hP hS => ?_)
                refine lv_istore (lv' := [(5, .int v16.1), (0, .ref (q 0)), (1, .int a1), (2, .int a2), (3, .int a3), (4, .int a4)]) hx hb dX8_glass_90 hl (by decide) rfl (fun ls hl => ?_)
                refine lv_aload_n hx hb dX8_glass_92 rfl (lv_at hl 1 rfl) ?_
                obtain ⟨v17, hv17, h⟩ := dq h
                refine cVv (As := []) (rest := []) ⟨hx, hb, hml, hown, hts⟩ (c_X8_startAnew (dT := dT) (rs := rs) (g := v16.2) (bh := bh) (c1 := c1) (c2 := c2) (re := re) (pl := pl) (cl := cl) hD hv17) (cwV 0 hts (good_V sub_z k_308 k_310 ks_1 k_1 k_311) rfl rfl rfl (by decide +kernel) (by decide)) (va_recv hK hP (ci := 7) (q0 := 0) rfl rfl) hK hP hS rfl hl.1 rfl (Nat.le_of_ble_eq_true rfl) dX8_glass_93 (by decide) (fun H locs hP hS => ?_)
                refine lv_iload hx hb dX8_glass_96 (lv_at hl 0 rfl) ?_
                obtain rfl := Option.some.inj h
                exact rI hx hb hr hlk hK hP hS dX8_glass_98
              · rw [if_neg k13] at h
                refine lv_bipush (v := -2) hx hb dX8_glass_67 (by decide) ?_
                obtain rfl := Option.some.inj h
                exact rI hx hb hr hlk hK hP hS dX8_glass_69
            · rw [if_pos k11] at h
              refine lv_iconst (v := -1) hx hb dX8_glass_55 (by decide) ?_
              obtain rfl := Option.some.inj h
              exact rI hx hb hr hlk hK hP hS dX8_glass_56
        · rw [if_neg k7] at h
          refine lv_bipush (v := -3) hx hb dX8_glass_30 (by decide) ?_
          obtain rfl := Option.some.inj h
          exact rI hx hb hr hlk hK hP hS dX8_glass_32
      · rw [if_neg k4] at h
        refine lv_iconst (v := -1) hx hb dX8_glass_16 (by decide) ?_
        obtain rfl := Option.some.inj h
        exact rI hx hb hr hlk hK hP hS dX8_glass_17

set_option maxRecDepth 100000 in
set_option maxHeartbeats 4000000 in
theorem c_X8_fill {l : Launch} {D : va_G} {dT : Nat → ClassId} {q : Nat → Nat} (hD : xD q) {rs : (Nat → tRow)} {g : tG_} {bh : tBH} {c1 : tC} {c2 : tC} {re : tRE} {pl : tPL} {cl : tCL} {a1 : Int32} {a2 : Int32} {a3 : Int32} {v : Int32 × tG_ × tBH × tC × tRE × tPL} (h : f_X8_fill rs g bh c1 re pl a1 a2 a3 = some v) : MG l yX8_fill cX8_fill 4 (some .int) 3 [.ref (q 0), .int a1, .int a2, .int a3] D (tyL dT) (wX dT q rs g bh c1 c2 re pl cl) (QI D (tyL dT) (xA q) (wX dT q rs v.2.1 v.2.2.1 v.2.2.2.1 c2 v.2.2.2.2.1 v.2.2.2.2.2 cl) v.1) (xA q) := by
  refine MG.mk (by decide +kernel) (Nat.le_of_ble_eq_true rfl) ?_
  intro p e s m below meth c hx hb hr hml hown hts hlk hK hP ls hl
  have hown : s.vm.findClass RX8 = some m.cls := hown
  have hS : va_S (xA q) s.heap s.heap [] := va_S.rf
  have hl : lv_has ls 4 [(0, .ref (q 0)), (1, .int a1), (2, .int a2), (3, .int a3)] := hl
  rw [f_X8_fill] at h
  refine lv_aload_n hx hb dX8_fill_0 rfl (lv_at hl 0 rfl) ?_
  refine va_get (D := D) (ci := 7) (v := .ref (q 10)) (C := RX8) (T := TX8) (N := 7) hx hb hts (fun w h => sub_z _ (inX8 w h)) hown hK hP 0 rfl rfl 1 (by decide) (hts _ (sub_z _ k_213)) (fun _ h => h) rfl dX8_fill_1 ?_
  refine lv_iload_n hx hb dX8_fill_4 rfl (lv_at hl 1 rfl) ?_
  obtain ⟨v1, hv1, h⟩ := dq h
  refine cVi (As := [.int a1]) (rest := []) ⟨hx, hb, hml, hown, hts⟩ (c_X3_has (dT := dT) (rs := rs) (g := g) (bh := bh) (c1 := c1) (c2 := c2) (re := re) (pl := pl) (cl := cl) hD hv1) (cwV 1 hts (good_V sub_z k_332 k_297 k_298 k_3 k_299) rfl rfl rfl (by decide +kernel) (by decide)) (va_recv hK hP (ci := 3) (q0 := 10) rfl rfl) hK hP hS rfl hl.1 rfl (Nat.le_of_ble_eq_true rfl) dX8_fill_5 (by decide) (fun H locs hP hS => ?_)
  refine lv_if_eq (tgt := 18) hx hb dX8_fill_8 (by decide) (fun k2 => ?_) (fun k2 => ?_)
  · rw [if_pos k2] at h
    refine lv_iconst (v := -1) hx hb dX8_fill_18 (by decide) ?_
    obtain rfl := Option.some.inj h
    exact rI hx hb hr hlk hK hP hS dX8_fill_19
  · rw [if_neg k2] at h
    refine lv_iload_n hx hb dX8_fill_11 rfl (lv_at hl 2 rfl) ?_
    obtain ⟨v3, hv3, h⟩ := dq h
    refine cSi (As := [.int a2]) (rest := []) ⟨hx, hb, hml, hown, hts⟩ (c_X8_isNoRow (dT := dT) (rs := rs) (g := g) (bh := bh) (c1 := c1) (c2 := c2) (re := re) (pl := pl) (cl := cl) hD hv3) (va_cwS 1 hts (good_S sub_z k_238 k_239 k_1 k_240) rfl rfl rfl (by decide +kernel) (by decide)) hK hP hS rfl hl.1 rfl (Nat.le_of_ble_eq_true rfl) dX8_fill_12 (by decide) (fun H locs hP hS => ?_)
    refine lv_if_eq (tgt := 20) hx hb dX8_fill_15 (by decide) (fun k4 => ?_) (fun k4 => ?_)
    · rw [if_pos k4] at h
      refine lv_aload_n hx hb dX8_fill_20 rfl (lv_at hl 0 rfl) ?_
      refine va_get (D := D) (ci := 7) (v := .ref (q 1)) (C := RX8) (T := TX8) (N := 7) hx hb hts (fun w h => sub_z _ (inX8 w h)) hown hK hP 0 rfl rfl 0 (by decide) (hts _ (sub_z _ k_212)) (fun _ h => h) rfl dX8_fill_21 ?_
      refine lv_iload_n hx hb dX8_fill_24 rfl (lv_at hl 2 rfl) ?_
      obtain ⟨k5, h⟩ := dg h
      have j_a2 := inb_lt k5
      refine va_aldq (C := "SandBench$Row") (f := fun j => some (q (2 + 2 * j))) hx hb hK hP 1 4 rfl rfl (inb_vp k5) dX8_fill_25 ?_
      refine W.eq (g2 := F0 m 26 ls ([.ref (q (2 + 2 * a2.toNatClampNeg))])) rfl ?_
      obtain ⟨v6, hv6, h⟩ := dq h
      refine cVi (As := []) (rest := []) ⟨hx, hb, hml, hown, hts⟩ (c_X7_isMissing (dT := dT) (rs := rs) (g := g) (bh := bh) (c1 := c1) (c2 := c2) (re := re) (pl := pl) (cl := cl) hD j_a2 hv6) (cwV 0 hts (good_V sub_z k_252 k_253 k_254 k_2 k_255) rfl rfl rfl (by decide +kernel) (by decide)) (recvRow hK hP j_a2) hK hP hS rfl hl.1 rfl (Nat.le_of_ble_eq_true rfl) dX8_fill_26 (by decide) (fun H locs hP hS => ?_)
      refine lv_if_eq (tgt := 35) hx hb dX8_fill_29 (by decide) (fun k7 => ?_) (fun k7 => ?_)
      · rw [if_pos k7] at h
        refine lv_aload_n hx hb dX8_fill_35 rfl (lv_at hl 0 rfl) ?_
        refine lv_iload_n hx hb dX8_fill_36 rfl (lv_at hl 2 rfl) ?_
        refine lv_iload_n hx hb dX8_fill_37 rfl (lv_at hl 3 rfl) ?_
        obtain ⟨v8, hv8, h⟩ := dq h
        refine cVi (As := [.int a2, .int a3]) (rest := []) ⟨hx, hb, hml, hown, hts⟩ (c_X8_tellsGrains (dT := dT) (rs := rs) (g := g) (bh := bh) (c1 := c1) (c2 := c2) (re := re) (pl := pl) (cl := cl) hD hv8) (cwV 2 hts (good_V sub_z k_285 k_287 ks_0 k_1 k_288) rfl rfl rfl (by decide +kernel) (by decide)) (va_recv hK hP (ci := 7) (q0 := 0) rfl rfl) hK hP hS rfl hl.1 rfl (Nat.le_of_ble_eq_true rfl) dX8_fill_38 (by decide) (fun H locs hP hS => ?_)
        refine lv_if_ne (tgt := 46) hx hb dX8_fill_41 (by decide) (fun k9 => ?_) (fun k9 => ?_)
        · rw [if_neg k9] at h
          refine lv_aload_n hx hb dX8_fill_46 rfl (lv_at hl 0 rfl) ?_
          refine va_get (D := D) (ci := 7) (v := .ref (q 10)) (C := RX8) (T := TX8) (N := 7) hx hb hts (fun w h => sub_z _ (inX8 w h)) hown hK hP 0 rfl rfl 1 (by decide) (hts _ (sub_z _ k_213)) (fun _ h => h) rfl dX8_fill_47 ?_
          refine lv_iload_n hx hb dX8_fill_50 rfl (lv_at hl 1 rfl) ?_
          refine lv_aload_n hx hb dX8_fill_51 rfl (lv_at hl 0 rfl) ?_
          refine va_get (D := D) (ci := 7) (v := .ref (q 1)) (C := RX8) (T := TX8) (N := 7) hx hb hts (fun w h => sub_z _ (inX8 w h)) hown hK hP 0 rfl rfl 0 (by decide) (hts _ (sub_z _ k_212)) (fun _ h => h) rfl dX8_fill_52 ?_
          refine lv_iload_n hx hb dX8_fill_55 rfl (lv_at hl 2 rfl) ?_
          obtain ⟨k10, h⟩ := dg h
          have j_a2 := inb_lt k10
          refine va_aldq (C := "SandBench$Row") (f := fun j => some (q (2 + 2 * j))) hx hb hK hP 1 4 rfl rfl (inb_vp k10) dX8_fill_56 ?_
          refine W.eq (g2 := F0 m 57 ls ([.ref (q (2 + 2 * a2.toNatClampNeg)), .int a1, .ref (q 10)])) rfl ?_
          refine lv_iload_n hx hb dX8_fill_57 rfl (lv_at hl 3 rfl) ?_
          obtain ⟨v11, hv11, h⟩ := dq h
          refine cVi (As := [.int a3]) (rest := [.int a1, .ref (q 10)]) ⟨hx, hb, hml, hown, hts⟩ (c_X7_number (dT := dT) (rs := rs) (g := g) (bh := bh) (c1 := c1) (c2 := c2) (re := re) (pl := pl) (cl := cl) hD j_a2 hv11) (cwV 1 hts (good_V sub_z k_269 k_270 k_271 k_2 k_272) rfl rfl rfl (by decide +kernel) (by decide)) (recvRow hK hP j_a2) hK hP hS rfl hl.1 rfl (Nat.le_of_ble_eq_true rfl) dX8_fill_58 (by decide) (fun H locs hP hS => ?_)
          obtain ⟨v12, hv12, h⟩ := dq h
          refine cVv (As := [.int a1, .int v11]) (rest := []) ⟨hx, hb, hml, hown, hts⟩ (c_X3_refill (dT := dT) (rs := rs) (g := g) (bh := bh) (c1 := c1) (c2 := c2) (re := re) (pl := pl) (cl := cl) hD hv12) (cwV 2 hts (good_V sub_z k_333 k_334 k_335 k_3 k_336) rfl rfl rfl (by decide +kernel) (by decide)) (va_recv hK hP (ci := 3) (q0 := 10) rfl rfl) hK hP hS rfl hl.1 rfl (Nat.le_of_ble_eq_true rfl) dX8_fill_61 (by decide) (fun H locs hP hS => ?_)
          refine lv_aload_n hx hb dX8_fill_64 rfl (lv_at hl 0 rfl) ?_
          obtain ⟨v13, hv13, h⟩ := dq h
          refine cVv (As := []) (rest := []) ⟨hx, hb, hml, hown, hts⟩ (c_X8_startAnew (dT := dT) (rs := rs) (g := v12) (bh := bh) (c1 := c1) (c2 := c2) (re := re) (pl := pl) (cl := cl) hD hv13) (cwV 0 hts (good_V sub_z k_308 k_310 ks_1 k_1 k_311) rfl rfl rfl (by decide +kernel) (by decide)) (va_recv hK hP (ci := 7) (q0 := 0) rfl rfl) hK hP hS rfl hl.1 rfl (Nat.le_of_ble_eq_true rfl) dX8_fill_65 (by decide) (fun H locs hP hS => ?_)
          refine lv_iconst (v := 1) hx hb dX8_fill_68 (by decide) ?_
          obtain rfl := Option.some.inj h
          exact rI hx hb hr hlk hK hP hS dX8_fill_69
        · rw [if_pos k9] at h
          refine lv_iconst (v := -1) hx hb dX8_fill_44 (by decide) ?_
          obtain rfl := Option.some.inj h
          exact rI hx hb hr hlk hK hP hS dX8_fill_45
      · rw [if_neg k7] at h
        refine lv_bipush (v := -3) hx hb dX8_fill_32 (by decide) ?_
        obtain rfl := Option.some.inj h
        exact rI hx hb hr hlk hK hP hS dX8_fill_34
    · rw [if_neg k4] at h
      refine lv_iconst (v := -1) hx hb dX8_fill_18 (by decide) ?_
      obtain rfl := Option.some.inj h
      exact rI hx hb hr hlk hK hP hS dX8_fill_19

set_option maxRecDepth 100000 in
set_option maxHeartbeats 4000000 in
theorem c_X8_clear {l : Launch} {D : va_G} {dT : Nat → ClassId} {q : Nat → Nat} (hD : xD q) {rs : (Nat → tRow)} {g : tG_} {bh : tBH} {c1 : tC} {c2 : tC} {re : tRE} {pl : tPL} {cl : tCL}  {v : Int32 × tG_ × tBH × tC × tRE × tPL} (h : f_X8_clear g bh c1 re pl = some v) : MG l yX8_clear cX8_clear 2 (some .int) 3 [.ref (q 0)] D (tyL dT) (wX dT q rs g bh c1 c2 re pl cl) (QI D (tyL dT) (xA q) (wX dT q rs v.2.1 v.2.2.1 v.2.2.2.1 c2 v.2.2.2.2.1 v.2.2.2.2.2 cl) v.1) (xA q) := by
  refine MG.mk (by decide +kernel) (Nat.le_of_ble_eq_true rfl) ?_
  intro p e s m below meth c hx hb hr hml hown hts hlk hK hP ls hl
  have hown : s.vm.findClass RX8 = some m.cls := hown
  have hS : va_S (xA q) s.heap s.heap [] := va_S.rf
  have hl : lv_has ls 2 [(0, .ref (q 0))] := hl
  rw [f_X8_clear] at h
  refine lv_aload_n hx hb dX8_clear_0 rfl (lv_at hl 0 rfl) ?_
  refine va_get (D := D) (ci := 7) (v := .ref (q 10)) (C := RX8) (T := TX8) (N := 7) hx hb hts (fun w h => sub_z _ (inX8 w h)) hown hK hP 0 rfl rfl 1 (by decide) (hts _ (sub_z _ k_213)) (fun _ h => h) rfl dX8_clear_1 ?_
  obtain ⟨v1, hv1, h⟩ := dq h
  refine cVi (As := []) (rest := []) ⟨hx, hb, hml, hown, hts⟩ (c_X3_count (dT := dT) (rs := rs) (g := g) (bh := bh) (c1 := c1) (c2 := c2) (re := re) (pl := pl) (cl := cl) hD hv1) (cwV 0 hts (good_V sub_z k_341 k_342 k_343 k_3 k_344) rfl rfl rfl (by decide +kernel) (by decide)) (va_recv hK hP (ci := 3) (q0 := 10) rfl rfl) hK hP hS rfl hl.1 rfl (Nat.le_of_ble_eq_true rfl) dX8_clear_4 (by decide) (fun H locs hP hS => ?_)
  refine lv_istore_n (lv' := [(1, .int v1), (0, .ref (q 0))]) hx hb dX8_clear_7 rfl hl (by decide) rfl (fun ls hl => ?_)
  refine lv_aload_n hx hb dX8_clear_8 rfl (lv_at hl 1 rfl) ?_
  refine va_get (D := D) (ci := 7) (v := .ref (q 10)) (C := RX8) (T := TX8) (N := 7) hx hb hts (fun w h => sub_z _ (inX8 w h)) hown hK hP 0 rfl rfl 1 (by decide) (hts _ (sub_z _ k_213)) (fun _ h => h) rfl dX8_clear_9 ?_
  obtain ⟨v2, hv2, h⟩ := dq h
  refine cVv (As := []) (rest := []) ⟨hx, hb, hml, hown, hts⟩ (c_X3_removeAll (dT := dT) (rs := rs) (g := g) (bh := bh) (c1 := c1) (c2 := c2) (re := re) (pl := pl) (cl := cl) hD hv2) (cwV 0 hts (good_V sub_z k_345 k_346 k_347 k_3 k_348) rfl rfl rfl (by decide +kernel) (by decide)) (va_recv hK hP (ci := 3) (q0 := 10) rfl rfl) hK hP hS rfl hl.1 rfl (Nat.le_of_ble_eq_true rfl) dX8_clear_12 (by decide) (fun H locs hP hS => ?_)
  refine lv_aload_n hx hb dX8_clear_15 rfl (lv_at hl 1 rfl) ?_
  obtain ⟨v3, hv3, h⟩ := dq h
  refine cVv (As := []) (rest := []) ⟨hx, hb, hml, hown, hts⟩ (c_X8_startAnew (dT := dT) (rs := rs) (g := v2) (bh := bh) (c1 := c1) (c2 := c2) (re := re) (pl := pl) (cl := cl) hD hv3) (cwV 0 hts (good_V sub_z k_308 k_310 ks_1 k_1 k_311) rfl rfl rfl (by decide +kernel) (by decide)) (va_recv hK hP (ci := 7) (q0 := 0) rfl rfl) hK hP hS rfl hl.1 rfl (Nat.le_of_ble_eq_true rfl) dX8_clear_16 (by decide) (fun H locs hP hS => ?_)
  refine lv_iload_n hx hb dX8_clear_19 rfl (lv_at hl 0 rfl) ?_
  obtain rfl := Option.some.inj h
  exact rI hx hb hr hlk hK hP hS dX8_clear_20

set_option maxRecDepth 100000 in
set_option maxHeartbeats 4000000 in
theorem c_X8_of {l : Launch} {D : va_G} {dT : Nat → ClassId} {q : Nat → Nat} (hD : xD q) {rs : (Nat → tRow)} {g : tG_} {bh : tBH} {c1 : tC} {c2 : tC} {re : tRE} {pl : tPL} {cl : tCL} {a1 : Int32} {a2 : Int32} {v : Int32} (h : f_X8_of g c1 a1 a2 = some v) : MG l yX8_of cX8_of 3 (some .int) 2 [.ref (q 0), .int a1, .int a2] D (tyL dT) (wX dT q rs g bh c1 c2 re pl cl) (QI D (tyL dT) (xA q) (wX dT q rs g bh c1 c2 re pl cl) v) (xA q) := by
  refine MG.mk (by decide +kernel) (Nat.le_of_ble_eq_true rfl) ?_
  intro p e s m below meth c hx hb hr hml hown hts hlk hK hP ls hl
  have hown : s.vm.findClass RX8 = some m.cls := hown
  have hS : va_S (xA q) s.heap s.heap [] := va_S.rf
  have hl : lv_has ls 3 [(0, .ref (q 0)), (1, .int a1), (2, .int a2)] := hl
  rw [f_X8_of] at h
  refine lv_aload_n hx hb dX8_of_0 rfl (lv_at hl 0 rfl) ?_
  refine va_get (D := D) (ci := 7) (v := .ref (q 10)) (C := RX8) (T := TX8) (N := 7) hx hb hts (fun w h => sub_z _ (inX8 w h)) hown hK hP 0 rfl rfl 1 (by decide) (hts _ (sub_z _ k_213)) (fun _ h => h) rfl dX8_of_1 ?_
  refine lv_iload_n hx hb dX8_of_4 rfl (lv_at hl 1 rfl) ?_
  obtain ⟨v1, hv1, h⟩ := dq h
  refine cVi (As := [.int a1]) (rest := []) ⟨hx, hb, hml, hown, hts⟩ (c_X3_has (dT := dT) (rs := rs) (g := g) (bh := bh) (c1 := c1) (c2 := c2) (re := re) (pl := pl) (cl := cl) hD hv1) (cwV 1 hts (good_V sub_z k_332 k_297 k_298 k_3 k_299) rfl rfl rfl (by decide +kernel) (by decide)) (va_recv hK hP (ci := 3) (q0 := 10) rfl rfl) hK hP hS rfl hl.1 rfl (Nat.le_of_ble_eq_true rfl) dX8_of_5 (by decide) (fun H locs hP hS => ?_)
  refine lv_if_ne (tgt := 13) hx hb dX8_of_8 (by decide) (fun k2 => ?_) (fun k2 => ?_)
  · rw [if_neg k2] at h
    refine lv_iload_n hx hb dX8_of_13 rfl (lv_at hl 2 rfl) ?_
    by_cases k3 : a2 = (0 : Int32)
    · rw [if_pos k3] at h
      refine lv_tableIn (tgt := 52) (off := 38) hx hb dX8_of_14 (by rw [k3]; decide) (by rw [k3]; decide) (by rw [k3]; rfl) (by decide) ?_
      refine lv_aload_n hx hb dX8_of_52 rfl (lv_at hl 0 rfl) ?_
      refine va_get (D := D) (ci := 7) (v := .ref (q 10)) (C := RX8) (T := TX8) (N := 7) hx hb hts (fun w h => sub_z _ (inX8 w h)) hown hK hP 0 rfl rfl 1 (by decide) (hts _ (sub_z _ k_213)) (fun _ h => h) rfl dX8_of_53 ?_
      refine lv_iload_n hx hb dX8_of_56 rfl (lv_at hl 1 rfl) ?_
      obtain ⟨v14, hv14, h⟩ := dq h
      refine cVi (As := [.int a1]) (rest := []) ⟨hx, hb, hml, hown, hts⟩ (c_X3_kind (dT := dT) (rs := rs) (g := g) (bh := bh) (c1 := c1) (c2 := c2) (re := re) (pl := pl) (cl := cl) hD hv14) (cwV 1 hts (good_V sub_z k_353 k_354 k_355 k_3 k_356) rfl rfl rfl (by decide +kernel) (by decide)) (va_recv hK hP (ci := 3) (q0 := 10) rfl rfl) hK hP hS rfl hl.1 rfl (Nat.le_of_ble_eq_true rfl) dX8_of_57 (by decide) (fun H locs hP hS => ?_)
      obtain rfl := Option.some.inj h
      exact rI hx hb hr hlk hK hP hS dX8_of_60
    · rw [if_neg k3] at h
      by_cases k4 : a2 = (1 : Int32)
      · rw [if_pos k4] at h
        refine lv_tableIn (tgt := 61) (off := 47) hx hb dX8_of_14 (by rw [k4]; decide) (by rw [k4]; decide) (by rw [k4]; rfl) (by decide) ?_
        refine lv_aload_n hx hb dX8_of_61 rfl (lv_at hl 0 rfl) ?_
        refine va_get (D := D) (ci := 7) (v := .ref (q 10)) (C := RX8) (T := TX8) (N := 7) hx hb hts (fun w h => sub_z _ (inX8 w h)) hown hK hP 0 rfl rfl 1 (by decide) (hts _ (sub_z _ k_213)) (fun _ h => h) rfl dX8_of_62 ?_
        refine lv_iload_n hx hb dX8_of_65 rfl (lv_at hl 1 rfl) ?_
        obtain ⟨v13, hv13, h⟩ := dq h
        refine cVi (As := [.int a1]) (rest := []) ⟨hx, hb, hml, hown, hts⟩ (c_X3_grains (dT := dT) (rs := rs) (g := g) (bh := bh) (c1 := c1) (c2 := c2) (re := re) (pl := pl) (cl := cl) hD hv13) (cwV 1 hts (good_V sub_z k_357 k_358 k_359 k_3 k_360) rfl rfl rfl (by decide +kernel) (by decide)) (va_recv hK hP (ci := 3) (q0 := 10) rfl rfl) hK hP hS rfl hl.1 rfl (Nat.le_of_ble_eq_true rfl) dX8_of_66 (by decide) (fun H locs hP hS => ?_)
        obtain rfl := Option.some.inj h
        exact rI hx hb hr hlk hK hP hS dX8_of_69
      · rw [if_neg k4] at h
        by_cases k5 : a2 = (2 : Int32)
        · rw [if_pos k5] at h
          refine lv_tableIn (tgt := 70) (off := 56) hx hb dX8_of_14 (by rw [k5]; decide) (by rw [k5]; decide) (by rw [k5]; rfl) (by decide) ?_
          refine lv_aload_n hx hb dX8_of_70 rfl (lv_at hl 0 rfl) ?_
          refine va_get (D := D) (ci := 7) (v := .ref (q 10)) (C := RX8) (T := TX8) (N := 7) hx hb hts (fun w h => sub_z _ (inX8 w h)) hown hK hP 0 rfl rfl 1 (by decide) (hts _ (sub_z _ k_213)) (fun _ h => h) rfl dX8_of_71 ?_
          refine lv_iload_n hx hb dX8_of_74 rfl (lv_at hl 1 rfl) ?_
          obtain ⟨v12, hv12, h⟩ := dq h
          refine cVi (As := [.int a1]) (rest := []) ⟨hx, hb, hml, hown, hts⟩ (c_X3_with (dT := dT) (rs := rs) (g := g) (bh := bh) (c1 := c1) (c2 := c2) (re := re) (pl := pl) (cl := cl) hD hv12) (cwV 1 hts (good_V sub_z k_361 k_362 k_363 k_3 k_364) rfl rfl rfl (by decide +kernel) (by decide)) (va_recv hK hP (ci := 3) (q0 := 10) rfl rfl) hK hP hS rfl hl.1 rfl (Nat.le_of_ble_eq_true rfl) dX8_of_75 (by decide) (fun H locs hP hS => ?_)
          obtain rfl := Option.some.inj h
          exact rI hx hb hr hlk hK hP hS dX8_of_78
        · rw [if_neg k5] at h
          by_cases k6 : a2 = (3 : Int32)
          · rw [if_pos k6] at h
            refine lv_tableIn (tgt := 79) (off := 65) hx hb dX8_of_14 (by rw [k6]; decide) (by rw [k6]; decide) (by rw [k6]; rfl) (by decide) ?_
            refine lv_aload_n hx hb dX8_of_79 rfl (lv_at hl 0 rfl) ?_
            refine va_get (D := D) (ci := 7) (v := .ref (q 14)) (C := RX8) (T := TX8) (N := 7) hx hb hts (fun w h => sub_z _ (inX8 w h)) hown hK hP 0 rfl rfl 2 (by decide) (hts _ (sub_z _ k_214)) (fun _ h => h) rfl dX8_of_80 ?_
            refine lv_iload_n hx hb dX8_of_83 rfl (lv_at hl 1 rfl) ?_
            refine lv_iload_n hx hb dX8_of_84 rfl (lv_at hl 2 rfl) ?_
            refine lv_iconst (v := 3) hx hb dX8_of_85 (by decide) ?_
            refine lv_isub hx hb dX8_of_86 ?_
            obtain ⟨v11, hv11, h⟩ := dq h
            refine cVi (As := [.int a1, .int (a2 - (3 : Int32))]) (rest := []) ⟨hx, hb, hml, hown, hts⟩ (c_X0_part (dT := dT) (rs := rs) (g := g) (bh := bh) (c1 := c1) (c2 := c2) (re := re) (pl := pl) (cl := cl) hD hv11) (cwV 2 hts (good_V sub_z k_365 k_366 k_367 k_4 k_368) rfl rfl rfl (by decide +kernel) (by decide)) (va_recv hK hP (ci := 0) (q0 := 14) rfl rfl) hK hP hS rfl hl.1 rfl (Nat.le_of_ble_eq_true rfl) dX8_of_87 (by decide) (fun H locs hP hS => ?_)
            obtain rfl := Option.some.inj h
            exact rI hx hb hr hlk hK hP hS dX8_of_90
          · rw [if_neg k6] at h
            by_cases k7 : a2 = (4 : Int32)
            · rw [if_pos k7] at h
              refine lv_tableIn (tgt := 79) (off := 65) hx hb dX8_of_14 (by rw [k7]; decide) (by rw [k7]; decide) (by rw [k7]; rfl) (by decide) ?_
              refine lv_aload_n hx hb dX8_of_79 rfl (lv_at hl 0 rfl) ?_
              refine va_get (D := D) (ci := 7) (v := .ref (q 14)) (C := RX8) (T := TX8) (N := 7) hx hb hts (fun w h => sub_z _ (inX8 w h)) hown hK hP 0 rfl rfl 2 (by decide) (hts _ (sub_z _ k_214)) (fun _ h => h) rfl dX8_of_80 ?_
              refine lv_iload_n hx hb dX8_of_83 rfl (lv_at hl 1 rfl) ?_
              refine lv_iload_n hx hb dX8_of_84 rfl (lv_at hl 2 rfl) ?_
              refine lv_iconst (v := 3) hx hb dX8_of_85 (by decide) ?_
              refine lv_isub hx hb dX8_of_86 ?_
              obtain ⟨v10, hv10, h⟩ := dq h
              refine cVi (As := [.int a1, .int (a2 - (3 : Int32))]) (rest := []) ⟨hx, hb, hml, hown, hts⟩ (c_X0_part (dT := dT) (rs := rs) (g := g) (bh := bh) (c1 := c1) (c2 := c2) (re := re) (pl := pl) (cl := cl) hD hv10) (cwV 2 hts (good_V sub_z k_365 k_366 k_367 k_4 k_368) rfl rfl rfl (by decide +kernel) (by decide)) (va_recv hK hP (ci := 0) (q0 := 14) rfl rfl) hK hP hS rfl hl.1 rfl (Nat.le_of_ble_eq_true rfl) dX8_of_87 (by decide) (fun H locs hP hS => ?_)
              obtain rfl := Option.some.inj h
              exact rI hx hb hr hlk hK hP hS dX8_of_90
            · rw [if_neg k7] at h
              by_cases k8 : a2 = (5 : Int32)
              · rw [if_pos k8] at h
                refine lv_tableIn (tgt := 79) (off := 65) hx hb dX8_of_14 (by rw [k8]; decide) (by rw [k8]; decide) (by rw [k8]; rfl) (by decide) ?_
                refine lv_aload_n hx hb dX8_of_79 rfl (lv_at hl 0 rfl) ?_
                refine va_get (D := D) (ci := 7) (v := .ref (q 14)) (C := RX8) (T := TX8) (N := 7) hx hb hts (fun w h => sub_z _ (inX8 w h)) hown hK hP 0 rfl rfl 2 (by decide) (hts _ (sub_z _ k_214)) (fun _ h => h) rfl dX8_of_80 ?_
                refine lv_iload_n hx hb dX8_of_83 rfl (lv_at hl 1 rfl) ?_
                refine lv_iload_n hx hb dX8_of_84 rfl (lv_at hl 2 rfl) ?_
                refine lv_iconst (v := 3) hx hb dX8_of_85 (by decide) ?_
                refine lv_isub hx hb dX8_of_86 ?_
                obtain ⟨v9, hv9, h⟩ := dq h
                refine cVi (As := [.int a1, .int (a2 - (3 : Int32))]) (rest := []) ⟨hx, hb, hml, hown, hts⟩ (c_X0_part (dT := dT) (rs := rs) (g := g) (bh := bh) (c1 := c1) (c2 := c2) (re := re) (pl := pl) (cl := cl) hD hv9) (cwV 2 hts (good_V sub_z k_365 k_366 k_367 k_4 k_368) rfl rfl rfl (by decide +kernel) (by decide)) (va_recv hK hP (ci := 0) (q0 := 14) rfl rfl) hK hP hS rfl hl.1 rfl (Nat.le_of_ble_eq_true rfl) dX8_of_87 (by decide) (fun H locs hP hS => ?_)
                obtain rfl := Option.some.inj h
                exact rI hx hb hr hlk hK hP hS dX8_of_90
              · rw [if_neg k8] at h
                refine lv_tableOut (tgt := 91) hx hb dX8_of_14 (by have n0 := lv_neT (a := 0) k3 (by decide); have n1 := lv_neT (a := 1) k4 (by decide); have n2 := lv_neT (a := 2) k5 (by decide); have n3 := lv_neT (a := 3) k6 (by decide); have n4 := lv_neT (a := 4) k7 (by decide); have n5 := lv_neT (a := 5) k8 (by decide); omega) (by decide) ?_
                refine lv_iconst (v := -1) hx hb dX8_of_91 (by decide) ?_
                obtain rfl := Option.some.inj h
                exact rI hx hb hr hlk hK hP hS dX8_of_92
  · rw [if_pos k2] at h
    refine lv_iconst (v := -1) hx hb dX8_of_11 (by decide) ?_
    obtain rfl := Option.some.inj h
    exact rI hx hb hr hlk hK hP hS dX8_of_12

set_option maxRecDepth 100000 in
set_option maxHeartbeats 4000000 in
theorem c_X8_glasses {l : Launch} {D : va_G} {dT : Nat → ClassId} {q : Nat → Nat} (hD : xD q) {rs : (Nat → tRow)} {g : tG_} {bh : tBH} {c1 : tC} {c2 : tC} {re : tRE} {pl : tPL} {cl : tCL}  {v : Int32} (h : f_X8_glasses g = some v) : MG l yX8_glasses cX8_glasses 1 (some .int) 1 [.ref (q 0)] D (tyL dT) (wX dT q rs g bh c1 c2 re pl cl) (QI D (tyL dT) (xA q) (wX dT q rs g bh c1 c2 re pl cl) v) (xA q) := by
  refine MG.mk (by decide +kernel) (Nat.le_of_ble_eq_true rfl) ?_
  intro p e s m below meth c hx hb hr hml hown hts hlk hK hP ls hl
  have hown : s.vm.findClass RX8 = some m.cls := hown
  have hS : va_S (xA q) s.heap s.heap [] := va_S.rf
  have hl : lv_has ls 1 [(0, .ref (q 0))] := hl
  rw [f_X8_glasses] at h
  refine lv_aload_n hx hb dX8_glasses_0 rfl (lv_at hl 0 rfl) ?_
  refine va_get (D := D) (ci := 7) (v := .ref (q 10)) (C := RX8) (T := TX8) (N := 7) hx hb hts (fun w h => sub_z _ (inX8 w h)) hown hK hP 0 rfl rfl 1 (by decide) (hts _ (sub_z _ k_213)) (fun _ h => h) rfl dX8_glasses_1 ?_
  obtain ⟨v1, hv1, h⟩ := dq h
  refine cVi (As := []) (rest := []) ⟨hx, hb, hml, hown, hts⟩ (c_X3_count (dT := dT) (rs := rs) (g := g) (bh := bh) (c1 := c1) (c2 := c2) (re := re) (pl := pl) (cl := cl) hD hv1) (cwV 0 hts (good_V sub_z k_341 k_342 k_343 k_3 k_344) rfl rfl rfl (by decide +kernel) (by decide)) (va_recv hK hP (ci := 3) (q0 := 10) rfl rfl) hK hP hS rfl hl.1 rfl (Nat.le_of_ble_eq_true rfl) dX8_glasses_4 (by decide) (fun H locs hP hS => ?_)
  obtain rfl := Option.some.inj h
  exact rI hx hb hr hlk hK hP hS dX8_glasses_7

set_option maxRecDepth 100000 in
set_option maxHeartbeats 4000000 in
theorem c_X8_can {l : Launch} {D : va_G} {dT : Nat → ClassId} {q : Nat → Nat} (hD : xD q) {rs : (Nat → tRow)} {g : tG_} {bh : tBH} {c1 : tC} {c2 : tC} {re : tRE} {pl : tPL} {cl : tCL} {a1 : Int32} {v : Int32} (h : f_X8_can g c1 a1 = some v) : MG l yX8_can cX8_can 2 (some .int) 4 [.ref (q 0), .int a1] D (tyL dT) (wX dT q rs g bh c1 c2 re pl cl) (QI D (tyL dT) (xA q) (wX dT q rs g bh c1 c2 re pl cl) v) (xA q) := by
  refine MG.mk (by decide +kernel) (Nat.le_of_ble_eq_true rfl) ?_
  intro p e s m below meth c hx hb hr hml hown hts hlk hK hP ls hl
  have hown : s.vm.findClass RX8 = some m.cls := hown
  have hS : va_S (xA q) s.heap s.heap [] := va_S.rf
  have hl : lv_has ls 2 [(0, .ref (q 0)), (1, .int a1)] := hl
  rw [f_X8_can] at h
  refine lv_iload_n hx hb dX8_can_0 rfl (lv_at hl 1 rfl) ?_
  obtain ⟨v1, hv1, h⟩ := dq h
  refine cSi (As := [.int a1]) (rest := []) ⟨hx, hb, hml, hown, hts⟩ (c_X4_isNone_x (dT := dT) (rs := rs) (g := g) (bh := bh) (c1 := c1) (c2 := c2) (re := re) (pl := pl) (cl := cl) hD hv1) (va_cwS 1 hts (good_S sub_z k_381 k_382 k_11 k_383) rfl rfl rfl (by decide +kernel) (by decide)) hK hP hS rfl hl.1 rfl (Nat.le_of_ble_eq_true rfl) dX8_can_1 (by decide) (fun H locs hP hS => ?_)
  refine lv_if_eq (tgt := 9) hx hb dX8_can_4 (by decide) (fun k2 => ?_) (fun k2 => ?_)
  · rw [if_pos k2] at h
    refine lv_aload_n hx hb dX8_can_9 rfl (lv_at hl 0 rfl) ?_
    refine va_get (D := D) (ci := 7) (v := .ref (q 14)) (C := RX8) (T := TX8) (N := 7) hx hb hts (fun w h => sub_z _ (inX8 w h)) hown hK hP 0 rfl rfl 2 (by decide) (hts _ (sub_z _ k_214)) (fun _ h => h) rfl dX8_can_10 ?_
    refine lv_iload_n hx hb dX8_can_13 rfl (lv_at hl 1 rfl) ?_
    obtain ⟨v3, hv3, h⟩ := dq h
    refine cVi (As := [.int a1]) (rest := []) ⟨hx, hb, hml, hown, hts⟩ (c_X0_allows (dT := dT) (rs := rs) (g := g) (bh := bh) (c1 := c1) (c2 := c2) (re := re) (pl := pl) (cl := cl) hD hv3) (cwV 1 hts (good_V sub_z k_384 k_385 k_386 k_4 k_387) rfl rfl rfl (by decide +kernel) (by decide)) (va_recv hK hP (ci := 0) (q0 := 14) rfl rfl) hK hP hS rfl hl.1 rfl (Nat.le_of_ble_eq_true rfl) dX8_can_14 (by decide) (fun H locs hP hS => ?_)
    refine lv_if_eq (tgt := 24) hx hb dX8_can_17 (by decide) (fun k4 => ?_) (fun k4 => ?_)
    · rw [if_pos k4] at h
      refine lv_iconst (v := 0) hx hb dX8_can_24 (by decide) ?_
      obtain rfl := Option.some.inj h
      exact rI hx hb hr hlk hK hP hS dX8_can_25
    · rw [if_neg k4] at h
      refine lv_iconst (v := 1) hx hb dX8_can_20 (by decide) ?_
      refine lv_goto (tgt := 25) hx hb dX8_can_21 (by decide) ?_
      obtain rfl := Option.some.inj h
      exact rI hx hb hr hlk hK hP hS dX8_can_25
  · rw [if_neg k2] at h
    refine lv_iconst (v := -1) hx hb dX8_can_7 (by decide) ?_
    obtain rfl := Option.some.inj h
    exact rI hx hb hr hlk hK hP hS dX8_can_8

set_option maxRecDepth 100000 in
set_option maxHeartbeats 4000000 in
theorem c_X8_hand {l : Launch} {D : va_G} {dT : Nat → ClassId} {q : Nat → Nat} (hD : xD q) {rs : (Nat → tRow)} {g : tG_} {bh : tBH} {c1 : tC} {c2 : tC} {re : tRE} {pl : tPL} {cl : tCL} {a1 : Int32} {v : Int32 × tBH × tC} (h : f_X8_hand g bh c1 a1 = some v) : MG l yX8_hand cX8_hand 2 (some .int) 4 [.ref (q 0), .int a1] D (tyL dT) (wX dT q rs g bh c1 c2 re pl cl) (QI D (tyL dT) (xA q) (wX dT q rs g v.2.1 v.2.2 c2 re pl cl) v.1) (xA q) := by
  refine MG.mk (by decide +kernel) (Nat.le_of_ble_eq_true rfl) ?_
  intro p e s m below meth c hx hb hr hml hown hts hlk hK hP ls hl
  have hown : s.vm.findClass RX8 = some m.cls := hown
  have hS : va_S (xA q) s.heap s.heap [] := va_S.rf
  have hl : lv_has ls 2 [(0, .ref (q 0)), (1, .int a1)] := hl
  rw [f_X8_hand] at h
  refine lv_iload_n hx hb dX8_hand_0 rfl (lv_at hl 1 rfl) ?_
  obtain ⟨v1, hv1, h⟩ := dq h
  refine cSi (As := [.int a1]) (rest := []) ⟨hx, hb, hml, hown, hts⟩ (c_X4_isNone_x (dT := dT) (rs := rs) (g := g) (bh := bh) (c1 := c1) (c2 := c2) (re := re) (pl := pl) (cl := cl) hD hv1) (va_cwS 1 hts (good_S sub_z k_381 k_382 k_11 k_383) rfl rfl rfl (by decide +kernel) (by decide)) hK hP hS rfl hl.1 rfl (Nat.le_of_ble_eq_true rfl) dX8_hand_1 (by decide) (fun H locs hP hS => ?_)
  refine lv_if_eq (tgt := 9) hx hb dX8_hand_4 (by decide) (fun k2 => ?_) (fun k2 => ?_)
  · rw [if_pos k2] at h
    refine lv_aload_n hx hb dX8_hand_9 rfl (lv_at hl 0 rfl) ?_
    refine va_get (D := D) (ci := 7) (v := .ref (q 14)) (C := RX8) (T := TX8) (N := 7) hx hb hts (fun w h => sub_z _ (inX8 w h)) hown hK hP 0 rfl rfl 2 (by decide) (hts _ (sub_z _ k_214)) (fun _ h => h) rfl dX8_hand_10 ?_
    obtain ⟨v3, hv3, h⟩ := dq h
    refine cVi (As := []) (rest := []) ⟨hx, hb, hml, hown, hts⟩ (c_X0_isHandled (dT := dT) (rs := rs) (g := g) (bh := bh) (c1 := c1) (c2 := c2) (re := re) (pl := pl) (cl := cl) hD hv3) (cwV 0 hts (good_V sub_z k_410 k_411 k_412 k_4 k_413) rfl rfl rfl (by decide +kernel) (by decide)) (va_recv hK hP (ci := 0) (q0 := 14) rfl rfl) hK hP hS rfl hl.1 rfl (Nat.le_of_ble_eq_true rfl) dX8_hand_13 (by decide) (fun H locs hP hS => ?_)
    refine lv_if_eq (tgt := 22) hx hb dX8_hand_16 (by decide) (fun k4 => ?_) (fun k4 => ?_)
    · rw [if_pos k4] at h
      refine lv_aload_n hx hb dX8_hand_22 rfl (lv_at hl 0 rfl) ?_
      refine va_get (D := D) (ci := 7) (v := .ref (q 14)) (C := RX8) (T := TX8) (N := 7) hx hb hts (fun w h => sub_z _ (inX8 w h)) hown hK hP 0 rfl rfl 2 (by decide) (hts _ (sub_z _ k_214)) (fun _ h => h) rfl dX8_hand_23 ?_
      refine lv_iload_n hx hb dX8_hand_26 rfl (lv_at hl 1 rfl) ?_
      obtain ⟨v5, hv5, h⟩ := dq h
      refine cVi (As := [.int a1]) (rest := []) ⟨hx, hb, hml, hown, hts⟩ (c_X0_allows (dT := dT) (rs := rs) (g := g) (bh := bh) (c1 := c1) (c2 := c2) (re := re) (pl := pl) (cl := cl) hD hv5) (cwV 1 hts (good_V sub_z k_384 k_385 k_386 k_4 k_387) rfl rfl rfl (by decide +kernel) (by decide)) (va_recv hK hP (ci := 0) (q0 := 14) rfl rfl) hK hP hS rfl hl.1 rfl (Nat.le_of_ble_eq_true rfl) dX8_hand_27 (by decide) (fun H locs hP hS => ?_)
      refine lv_if_ne (tgt := 36) hx hb dX8_hand_30 (by decide) (fun k6 => ?_) (fun k6 => ?_)
      · rw [if_neg k6] at h
        refine lv_aload_n hx hb dX8_hand_36 rfl (lv_at hl 0 rfl) ?_
        refine va_get (D := D) (ci := 7) (v := .ref (q 14)) (C := RX8) (T := TX8) (N := 7) hx hb hts (fun w h => sub_z _ (inX8 w h)) hown hK hP 0 rfl rfl 2 (by decide) (hts _ (sub_z _ k_214)) (fun _ h => h) rfl dX8_hand_37 ?_
        refine lv_iload_n hx hb dX8_hand_40 rfl (lv_at hl 1 rfl) ?_
        obtain ⟨v7, hv7, h⟩ := dq h
        refine cVv (As := [.int a1]) (rest := []) ⟨hx, hb, hml, hown, hts⟩ (c_X0_handle (dT := dT) (rs := rs) (g := g) (bh := bh) (c1 := c1) (c2 := c2) (re := re) (pl := pl) (cl := cl) hD hv7) (cwV 1 hts (good_V sub_z k_414 k_415 k_416 k_4 k_417) rfl rfl rfl (by decide +kernel) (by decide)) (va_recv hK hP (ci := 0) (q0 := 14) rfl rfl) hK hP hS rfl hl.1 rfl (Nat.le_of_ble_eq_true rfl) dX8_hand_41 (by decide) (fun H locs hP hS => ?_)
        refine lv_iload_n hx hb dX8_hand_44 rfl (lv_at hl 1 rfl) ?_
        obtain ⟨v8, hv8, h⟩ := dq h
        refine cSi (As := [.int a1]) (rest := []) ⟨hx, hb, hml, hown, hts⟩ (c_X4_countOf_x (dT := dT) (rs := rs) (g := g) (bh := v7.1) (c1 := v7.2) (c2 := c2) (re := re) (pl := pl) (cl := cl) hD hv8) (va_cwS 1 hts (good_S sub_z k_439 k_440 k_11 k_441) rfl rfl rfl (by decide +kernel) (by decide)) hK hP hS rfl hl.1 rfl (Nat.le_of_ble_eq_true rfl) dX8_hand_45 (by decide) (fun H locs hP hS => ?_)
        obtain rfl := Option.some.inj h
        exact rI hx hb hr hlk hK hP hS dX8_hand_48
      · rw [if_pos k6] at h
        refine lv_bipush (v := -6) hx hb dX8_hand_33 (by decide) ?_
        obtain rfl := Option.some.inj h
        exact rI hx hb hr hlk hK hP hS dX8_hand_35
    · rw [if_neg k4] at h
      refine lv_bipush (v := -5) hx hb dX8_hand_19 (by decide) ?_
      obtain rfl := Option.some.inj h
      exact rI hx hb hr hlk hK hP hS dX8_hand_21
  · rw [if_neg k2] at h
    refine lv_iconst (v := -1) hx hb dX8_hand_7 (by decide) ?_
    obtain rfl := Option.some.inj h
    exact rI hx hb hr hlk hK hP hS dX8_hand_8

set_option maxRecDepth 100000 in
set_option maxHeartbeats 4000000 in
theorem c_X8_next {l : Launch} {D : va_G} {dT : Nat → ClassId} {q : Nat → Nat} (hD : xD q) {rs : (Nat → tRow)} {g : tG_} {bh : tBH} {c1 : tC} {c2 : tC} {re : tRE} {pl : tPL} {cl : tCL}  {v : Int32 × tBH × tC} (h : f_X8_next g bh c1 = some v) : MG l yX8_next cX8_next 1 (some .int) 3 [.ref (q 0)] D (tyL dT) (wX dT q rs g bh c1 c2 re pl cl) (QI D (tyL dT) (xA q) (wX dT q rs g v.2.1 v.2.2 c2 re pl cl) v.1) (xA q) := by
  refine MG.mk (by decide +kernel) (Nat.le_of_ble_eq_true rfl) ?_
  intro p e s m below meth c hx hb hr hml hown hts hlk hK hP ls hl
  have hown : s.vm.findClass RX8 = some m.cls := hown
  have hS : va_S (xA q) s.heap s.heap [] := va_S.rf
  have hl : lv_has ls 1 [(0, .ref (q 0))] := hl
  rw [f_X8_next] at h
  refine lv_aload_n hx hb dX8_next_0 rfl (lv_at hl 0 rfl) ?_
  refine va_get (D := D) (ci := 7) (v := .ref (q 14)) (C := RX8) (T := TX8) (N := 7) hx hb hts (fun w h => sub_z _ (inX8 w h)) hown hK hP 0 rfl rfl 2 (by decide) (hts _ (sub_z _ k_214)) (fun _ h => h) rfl dX8_next_1 ?_
  obtain ⟨v1, hv1, h⟩ := dq h
  refine cVi (As := []) (rest := []) ⟨hx, hb, hml, hown, hts⟩ (c_X0_goOn (dT := dT) (rs := rs) (g := g) (bh := bh) (c1 := c1) (c2 := c2) (re := re) (pl := pl) (cl := cl) hD hv1) (cwV 0 hts (good_V sub_z k_452 k_453 k_454 k_4 k_455) rfl rfl rfl (by decide +kernel) (by decide)) (va_recv hK hP (ci := 0) (q0 := 14) rfl rfl) hK hP hS rfl hl.1 rfl (Nat.le_of_ble_eq_true rfl) dX8_next_4 (by decide) (fun H locs hP hS => ?_)
  obtain rfl := Option.some.inj h
  exact rI hx hb hr hlk hK hP hS dX8_next_7

set_option maxRecDepth 100000 in
set_option maxHeartbeats 4000000 in
theorem c_X8_undo {l : Launch} {D : va_G} {dT : Nat → ClassId} {q : Nat → Nat} (hD : xD q) {rs : (Nat → tRow)} {g : tG_} {bh : tBH} {c1 : tC} {c2 : tC} {re : tRE} {pl : tPL} {cl : tCL}  {v : Int32 × tBH × tC} (h : f_X8_undo bh c1 = some v) : MG l yX8_undo cX8_undo 1 (some .int) 2 [.ref (q 0)] D (tyL dT) (wX dT q rs g bh c1 c2 re pl cl) (QI D (tyL dT) (xA q) (wX dT q rs g v.2.1 v.2.2 c2 re pl cl) v.1) (xA q) := by
  refine MG.mk (by decide +kernel) (Nat.le_of_ble_eq_true rfl) ?_
  intro p e s m below meth c hx hb hr hml hown hts hlk hK hP ls hl
  have hown : s.vm.findClass RX8 = some m.cls := hown
  have hS : va_S (xA q) s.heap s.heap [] := va_S.rf
  have hl : lv_has ls 1 [(0, .ref (q 0))] := hl
  rw [f_X8_undo] at h
  refine lv_aload_n hx hb dX8_undo_0 rfl (lv_at hl 0 rfl) ?_
  refine va_get (D := D) (ci := 7) (v := .ref (q 14)) (C := RX8) (T := TX8) (N := 7) hx hb hts (fun w h => sub_z _ (inX8 w h)) hown hK hP 0 rfl rfl 2 (by decide) (hts _ (sub_z _ k_214)) (fun _ h => h) rfl dX8_undo_1 ?_
  obtain ⟨v1, hv1, h⟩ := dq h
  refine cVi (As := []) (rest := []) ⟨hx, hb, hml, hown, hts⟩ (c_X0_takeBack (dT := dT) (rs := rs) (g := g) (bh := bh) (c1 := c1) (c2 := c2) (re := re) (pl := pl) (cl := cl) hD hv1) (cwV 0 hts (good_V sub_z k_476 k_477 k_478 k_4 k_479) rfl rfl rfl (by decide +kernel) (by decide)) (va_recv hK hP (ci := 0) (q0 := 14) rfl rfl) hK hP hS rfl hl.1 rfl (Nat.le_of_ble_eq_true rfl) dX8_undo_4 (by decide) (fun H locs hP hS => ?_)
  obtain rfl := Option.some.inj h
  exact rI hx hb hr hlk hK hP hS dX8_undo_7

set_option maxRecDepth 100000 in
set_option maxHeartbeats 4000000 in
theorem c_X8_begin {l : Launch} {D : va_G} {dT : Nat → ClassId} {q : Nat → Nat} (hD : xD q) {rs : (Nat → tRow)} {g : tG_} {bh : tBH} {c1 : tC} {c2 : tC} {re : tRE} {pl : tPL} {cl : tCL}  {v : Int32 × tBH × tC} (h : f_X8_begin bh c1 = some v) : MG l yX8_begin cX8_begin 1 (some .int) 2 [.ref (q 0)] D (tyL dT) (wX dT q rs g bh c1 c2 re pl cl) (QI D (tyL dT) (xA q) (wX dT q rs g v.2.1 v.2.2 c2 re pl cl) v.1) (xA q) := by
  refine MG.mk (by decide +kernel) (Nat.le_of_ble_eq_true rfl) ?_
  intro p e s m below meth c hx hb hr hml hown hts hlk hK hP ls hl
  have hown : s.vm.findClass RX8 = some m.cls := hown
  have hS : va_S (xA q) s.heap s.heap [] := va_S.rf
  have hl : lv_has ls 1 [(0, .ref (q 0))] := hl
  rw [f_X8_begin] at h
  refine lv_aload_n hx hb dX8_begin_0 rfl (lv_at hl 0 rfl) ?_
  refine va_get (D := D) (ci := 7) (v := .ref (q 14)) (C := RX8) (T := TX8) (N := 7) hx hb hts (fun w h => sub_z _ (inX8 w h)) hown hK hP 0 rfl rfl 2 (by decide) (hts _ (sub_z _ k_214)) (fun _ h => h) rfl dX8_begin_1 ?_
  obtain ⟨v1, hv1, h⟩ := dq h
  refine cVv (As := []) (rest := []) ⟨hx, hb, hml, hown, hts⟩ (c_X0_restart (dT := dT) (rs := rs) (g := g) (bh := bh) (c1 := c1) (c2 := c2) (re := re) (pl := pl) (cl := cl) hD hv1) (cwV 0 hts (good_V sub_z k_312 k_313 k_314 k_4 k_315) rfl rfl rfl (by decide +kernel) (by decide)) (va_recv hK hP (ci := 0) (q0 := 14) rfl rfl) hK hP hS rfl hl.1 rfl (Nat.le_of_ble_eq_true rfl) dX8_begin_4 (by decide) (fun H locs hP hS => ?_)
  refine lv_iconst (v := 1) hx hb dX8_begin_7 (by decide) ?_
  obtain rfl := Option.some.inj h
  exact rI hx hb hr hlk hK hP hS dX8_begin_8

set_option maxRecDepth 100000 in
set_option maxHeartbeats 4000000 in
theorem c_X8_moment {l : Launch} {D : va_G} {dT : Nat → ClassId} {q : Nat → Nat} (hD : xD q) {rs : (Nat → tRow)} {g : tG_} {bh : tBH} {c1 : tC} {c2 : tC} {re : tRE} {pl : tPL} {cl : tCL}  {v : Int32} (h : f_X8_moment bh = some v) : MG l yX8_moment cX8_moment 1 (some .int) 1 [.ref (q 0)] D (tyL dT) (wX dT q rs g bh c1 c2 re pl cl) (QI D (tyL dT) (xA q) (wX dT q rs g bh c1 c2 re pl cl) v) (xA q) := by
  refine MG.mk (by decide +kernel) (Nat.le_of_ble_eq_true rfl) ?_
  intro p e s m below meth c hx hb hr hml hown hts hlk hK hP ls hl
  have hown : s.vm.findClass RX8 = some m.cls := hown
  have hS : va_S (xA q) s.heap s.heap [] := va_S.rf
  have hl : lv_has ls 1 [(0, .ref (q 0))] := hl
  rw [f_X8_moment] at h
  refine lv_aload_n hx hb dX8_moment_0 rfl (lv_at hl 0 rfl) ?_
  refine va_get (D := D) (ci := 7) (v := .ref (q 14)) (C := RX8) (T := TX8) (N := 7) hx hb hts (fun w h => sub_z _ (inX8 w h)) hown hK hP 0 rfl rfl 2 (by decide) (hts _ (sub_z _ k_214)) (fun _ h => h) rfl dX8_moment_1 ?_
  obtain ⟨v1, hv1, h⟩ := dq h
  refine cVi (As := []) (rest := []) ⟨hx, hb, hml, hown, hts⟩ (c_X0_now (dT := dT) (rs := rs) (g := g) (bh := bh) (c1 := c1) (c2 := c2) (re := re) (pl := pl) (cl := cl) hD hv1) (cwV 0 hts (good_V sub_z k_488 k_469 k_470 k_4 k_471) rfl rfl rfl (by decide +kernel) (by decide)) (va_recv hK hP (ci := 0) (q0 := 14) rfl rfl) hK hP hS rfl hl.1 rfl (Nat.le_of_ble_eq_true rfl) dX8_moment_4 (by decide) (fun H locs hP hS => ?_)
  obtain rfl := Option.some.inj h
  exact rI hx hb hr hlk hK hP hS dX8_moment_7

set_option maxRecDepth 100000 in
set_option maxHeartbeats 4000000 in
theorem c_X8_event {l : Launch} {D : va_G} {dT : Nat → ClassId} {q : Nat → Nat} (hD : xD q) {rs : (Nat → tRow)} {g : tG_} {bh : tBH} {c1 : tC} {c2 : tC} {re : tRE} {pl : tPL} {cl : tCL} {a1 : Int32} {v : Int32} (h : f_X8_event bh a1 = some v) : MG l yX8_event cX8_event 2 (some .int) 1 [.ref (q 0), .int a1] D (tyL dT) (wX dT q rs g bh c1 c2 re pl cl) (QI D (tyL dT) (xA q) (wX dT q rs g bh c1 c2 re pl cl) v) (xA q) := by
  refine MG.mk (by decide +kernel) (Nat.le_of_ble_eq_true rfl) ?_
  intro p e s m below meth c hx hb hr hml hown hts hlk hK hP ls hl
  have hown : s.vm.findClass RX8 = some m.cls := hown
  have hS : va_S (xA q) s.heap s.heap [] := va_S.rf
  have hl : lv_has ls 2 [(0, .ref (q 0)), (1, .int a1)] := hl
  rw [f_X8_event] at h
  refine lv_aload_n hx hb dX8_event_0 rfl (lv_at hl 0 rfl) ?_
  refine va_get (D := D) (ci := 7) (v := .ref (q 14)) (C := RX8) (T := TX8) (N := 7) hx hb hts (fun w h => sub_z _ (inX8 w h)) hown hK hP 0 rfl rfl 2 (by decide) (hts _ (sub_z _ k_214)) (fun _ h => h) rfl dX8_event_1 ?_
  refine lv_iload_n hx hb dX8_event_4 rfl (lv_at hl 1 rfl) ?_
  obtain ⟨v1, hv1, h⟩ := dq h
  refine cVi (As := [.int a1]) (rest := []) ⟨hx, hb, hml, hown, hts⟩ (c_X0_momentOf (dT := dT) (rs := rs) (g := g) (bh := bh) (c1 := c1) (c2 := c2) (re := re) (pl := pl) (cl := cl) hD hv1) (cwV 1 hts (good_V sub_z k_493 k_494 k_495 k_4 k_496) rfl rfl rfl (by decide +kernel) (by decide)) (va_recv hK hP (ci := 0) (q0 := 14) rfl rfl) hK hP hS rfl hl.1 rfl (Nat.le_of_ble_eq_true rfl) dX8_event_5 (by decide) (fun H locs hP hS => ?_)
  obtain rfl := Option.some.inj h
  exact rI hx hb hr hlk hK hP hS dX8_event_8

set_option maxRecDepth 100000 in
set_option maxHeartbeats 4000000 in
theorem c_X8_reach {l : Launch} {D : va_G} {dT : Nat → ClassId} {q : Nat → Nat} (hD : xD q) {rs : (Nat → tRow)} {g : tG_} {bh : tBH} {c1 : tC} {c2 : tC} {re : tRE} {pl : tPL} {cl : tCL}  {v : Int32 × tC × tRE} (h : f_X8_reach g c2 re = some v) : MG l yX8_reach cX8_reach 1 (some .int) 6 [.ref (q 0)] D (tyL dT) (wX dT q rs g bh c1 c2 re pl cl) (QI D (tyL dT) (xA q) (wX dT q rs g bh c1 v.2.1 v.2.2 pl cl) v.1) (xA q) := by
  refine MG.mk (by decide +kernel) (Nat.le_of_ble_eq_true rfl) ?_
  intro p e s m below meth c hx hb hr hml hown hts hlk hK hP ls hl
  have hown : s.vm.findClass RX8 = some m.cls := hown
  have hS : va_S (xA q) s.heap s.heap [] := va_S.rf
  have hl : lv_has ls 1 [(0, .ref (q 0))] := hl
  rw [f_X8_reach] at h
  refine lv_aload_n hx hb dX8_reach_0 rfl (lv_at hl 0 rfl) ?_
  refine va_get (D := D) (ci := 7) (v := .ref (q 27)) (C := RX8) (T := TX8) (N := 7) hx hb hts (fun w h => sub_z _ (inX8 w h)) hown hK hP 0 rfl rfl 4 (by decide) (hts _ (sub_z _ k_216)) (fun _ h => h) rfl dX8_reach_1 ?_
  obtain ⟨v1, hv1, h⟩ := dq h
  refine cVi (As := []) (rest := []) ⟨hx, hb, hml, hown, hts⟩ (c_X6_isSpent (dT := dT) (rs := rs) (g := g) (bh := bh) (c1 := c1) (c2 := c2) (re := re) (pl := pl) (cl := cl) hD hv1) (cwV 0 hts (good_V sub_z k_501 k_502 k_503 k_6 k_504) rfl rfl rfl (by decide +kernel) (by decide)) (va_recv hK hP (ci := 5) (q0 := 27) rfl rfl) hK hP hS rfl hl.1 rfl (Nat.le_of_ble_eq_true rfl) dX8_reach_4 (by decide) (fun H locs hP hS => ?_)
  refine lv_if_eq (tgt := 15) hx hb dX8_reach_7 (by decide) (fun k2 => ?_) (fun k2 => ?_)
  · rw [if_pos k2] at h
    refine lv_aload_n hx hb dX8_reach_15 rfl (lv_at hl 0 rfl) ?_
    refine va_get (D := D) (ci := 7) (v := .ref (q 27)) (C := RX8) (T := TX8) (N := 7) hx hb hts (fun w h => sub_z _ (inX8 w h)) hown hK hP 0 rfl rfl 4 (by decide) (hts _ (sub_z _ k_216)) (fun _ h => h) rfl dX8_reach_16 ?_
    obtain ⟨v3, hv3, h⟩ := dq h
    refine cVi (As := []) (rest := []) ⟨hx, hb, hml, hown, hts⟩ (c_X6_count (dT := dT) (rs := rs) (g := g) (bh := bh) (c1 := c1) (c2 := v1.2.1) (re := v1.2.2) (pl := pl) (cl := cl) hD hv3) (cwV 0 hts (good_V sub_z k_537 k_538 k_539 k_6 k_540) rfl rfl rfl (by decide +kernel) (by decide)) (va_recv hK hP (ci := 5) (q0 := 27) rfl rfl) hK hP hS rfl hl.1 rfl (Nat.le_of_ble_eq_true rfl) dX8_reach_19 (by decide) (fun H locs hP hS => ?_)
    obtain rfl := Option.some.inj h
    exact rI hx hb hr hlk hK hP hS dX8_reach_22
  · rw [if_neg k2] at h
    refine lv_bipush (v := -8) hx hb dX8_reach_10 (by decide) ?_
    refine lv_goto (tgt := 22) hx hb dX8_reach_12 (by decide) ?_
    obtain rfl := Option.some.inj h
    exact rI hx hb hr hlk hK hP hS dX8_reach_22

set_option maxRecDepth 100000 in
set_option maxHeartbeats 4000000 in
theorem c_X8_config {l : Launch} {D : va_G} {dT : Nat → ClassId} {q : Nat → Nat} (hD : xD q) {rs : (Nat → tRow)} {g : tG_} {bh : tBH} {c1 : tC} {c2 : tC} {re : tRE} {pl : tPL} {cl : tCL} {a1 : Int32} {a2 : Int32} {a3 : Int32} {v : Int32 × tC × tRE} (h : f_X8_config g c2 re a1 a2 a3 = some v) : MG l yX8_config cX8_config 4 (some .int) 6 [.ref (q 0), .int a1, .int a2, .int a3] D (tyL dT) (wX dT q rs g bh c1 c2 re pl cl) (QI D (tyL dT) (xA q) (wX dT q rs g bh c1 v.2.1 v.2.2 pl cl) v.1) (xA q) := by
  refine MG.mk (by decide +kernel) (Nat.le_of_ble_eq_true rfl) ?_
  intro p e s m below meth c hx hb hr hml hown hts hlk hK hP ls hl
  have hown : s.vm.findClass RX8 = some m.cls := hown
  have hS : va_S (xA q) s.heap s.heap [] := va_S.rf
  have hl : lv_has ls 4 [(0, .ref (q 0)), (1, .int a1), (2, .int a2), (3, .int a3)] := hl
  rw [f_X8_config] at h
  refine lv_aload_n hx hb dX8_config_0 rfl (lv_at hl 0 rfl) ?_
  refine va_get (D := D) (ci := 7) (v := .ref (q 10)) (C := RX8) (T := TX8) (N := 7) hx hb hts (fun w h => sub_z _ (inX8 w h)) hown hK hP 0 rfl rfl 1 (by decide) (hts _ (sub_z _ k_213)) (fun _ h => h) rfl dX8_config_1 ?_
  refine lv_iload_n hx hb dX8_config_4 rfl (lv_at hl 2 rfl) ?_
  obtain ⟨v1, hv1, h⟩ := dq h
  refine cVi (As := [.int a2]) (rest := []) ⟨hx, hb, hml, hown, hts⟩ (c_X3_has (dT := dT) (rs := rs) (g := g) (bh := bh) (c1 := c1) (c2 := c2) (re := re) (pl := pl) (cl := cl) hD hv1) (cwV 1 hts (good_V sub_z k_332 k_297 k_298 k_3 k_299) rfl rfl rfl (by decide +kernel) (by decide)) (va_recv hK hP (ci := 3) (q0 := 10) rfl rfl) hK hP hS rfl hl.1 rfl (Nat.le_of_ble_eq_true rfl) dX8_config_5 (by decide) (fun H locs hP hS => ?_)
  refine lv_if_eq (tgt := 20) hx hb dX8_config_8 (by decide) (fun k2 => ?_) (fun k2 => ?_)
  · rw [if_pos k2] at h
    refine lv_iconst (v := -1) hx hb dX8_config_20 (by decide) ?_
    obtain rfl := Option.some.inj h
    exact rI hx hb hr hlk hK hP hS dX8_config_21
  · rw [if_neg k2] at h
    refine lv_iload_n hx hb dX8_config_11 rfl (lv_at hl 3 rfl) ?_
    refine lv_if_lt (tgt := 20) hx hb dX8_config_12 (by decide) (fun k3 => ?_) (fun k3 => ?_)
    · rw [if_pos k3] at h
      refine lv_iconst (v := -1) hx hb dX8_config_20 (by decide) ?_
      obtain rfl := Option.some.inj h
      exact rI hx hb hr hlk hK hP hS dX8_config_21
    · rw [if_neg k3] at h
      refine lv_iload_n hx hb dX8_config_15 rfl (lv_at hl 3 rfl) ?_
      refine lv_iconst (v := 2) hx hb dX8_config_16 (by decide) ?_
      refine lv_icmp_le (tgt := 22) hx hb dX8_config_17 (by decide) (fun k4 => ?_) (fun k4 => ?_)
      · rw [if_pos k4] at h
        refine lv_aload_n hx hb dX8_config_22 rfl (lv_at hl 0 rfl) ?_
        refine va_get (D := D) (ci := 7) (v := .ref (q 27)) (C := RX8) (T := TX8) (N := 7) hx hb hts (fun w h => sub_z _ (inX8 w h)) hown hK hP 0 rfl rfl 4 (by decide) (hts _ (sub_z _ k_216)) (fun _ h => h) rfl dX8_config_23 ?_
        obtain ⟨v5, hv5, h⟩ := dq h
        refine cVi (As := []) (rest := []) ⟨hx, hb, hml, hown, hts⟩ (c_X6_isSpent (dT := dT) (rs := rs) (g := g) (bh := bh) (c1 := c1) (c2 := c2) (re := re) (pl := pl) (cl := cl) hD hv5) (cwV 0 hts (good_V sub_z k_501 k_502 k_503 k_6 k_504) rfl rfl rfl (by decide +kernel) (by decide)) (va_recv hK hP (ci := 5) (q0 := 27) rfl rfl) hK hP hS rfl hl.1 rfl (Nat.le_of_ble_eq_true rfl) dX8_config_26 (by decide) (fun H locs hP hS => ?_)
        refine lv_if_ne (tgt := 47) hx hb dX8_config_29 (by decide) (fun k6 => ?_) (fun k6 => ?_)
        · rw [if_neg k6] at h
          refine lv_iconst (v := -1) hx hb dX8_config_47 (by decide) ?_
          obtain rfl := Option.some.inj h
          exact rI hx hb hr hlk hK hP hS dX8_config_48
        · rw [if_pos k6] at h
          refine lv_iload_n hx hb dX8_config_32 rfl (lv_at hl 1 rfl) ?_
          refine lv_if_lt (tgt := 47) hx hb dX8_config_33 (by decide) (fun k7 => ?_) (fun k7 => ?_)
          · rw [if_pos k7] at h
            refine lv_iconst (v := -1) hx hb dX8_config_47 (by decide) ?_
            obtain rfl := Option.some.inj h
            exact rI hx hb hr hlk hK hP hS dX8_config_48
          · rw [if_neg k7] at h
            refine lv_iload_n hx hb dX8_config_36 rfl (lv_at hl 1 rfl) ?_
            refine lv_aload_n hx hb dX8_config_37 rfl (lv_at hl 0 rfl) ?_
            refine va_get (D := D) (ci := 7) (v := .ref (q 27)) (C := RX8) (T := TX8) (N := 7) hx hb hts (fun w h => sub_z _ (inX8 w h)) hown hK hP 0 rfl rfl 4 (by decide) (hts _ (sub_z _ k_216)) (fun _ h => h) rfl dX8_config_38 ?_
            obtain ⟨v8, hv8, h⟩ := dq h
            refine cVi (As := []) (rest := [.int a1]) ⟨hx, hb, hml, hown, hts⟩ (c_X6_count (dT := dT) (rs := rs) (g := g) (bh := bh) (c1 := c1) (c2 := v5.2.1) (re := v5.2.2) (pl := pl) (cl := cl) hD hv8) (cwV 0 hts (good_V sub_z k_537 k_538 k_539 k_6 k_540) rfl rfl rfl (by decide +kernel) (by decide)) (va_recv hK hP (ci := 5) (q0 := 27) rfl rfl) hK hP hS rfl hl.1 rfl (Nat.le_of_ble_eq_true rfl) dX8_config_41 (by decide) (fun H locs hP hS => ?_)
            refine lv_icmp_lt (tgt := 49) hx hb dX8_config_44 (by decide) (fun k9 => ?_) (fun k9 => ?_)
            · rw [if_pos k9] at h
              refine lv_aload_n hx hb dX8_config_49 rfl (lv_at hl 0 rfl) ?_
              refine va_get (D := D) (ci := 7) (v := .ref (q 23)) (C := RX8) (T := TX8) (N := 7) hx hb hts (fun w h => sub_z _ (inX8 w h)) hown hK hP 0 rfl rfl 3 (by decide) (hts _ (sub_z _ k_215)) (fun _ h => h) rfl dX8_config_50 ?_
              refine lv_aload_n hx hb dX8_config_53 rfl (lv_at hl 0 rfl) ?_
              refine va_get (D := D) (ci := 7) (v := .ref (q 27)) (C := RX8) (T := TX8) (N := 7) hx hb hts (fun w h => sub_z _ (inX8 w h)) hown hK hP 0 rfl rfl 4 (by decide) (hts _ (sub_z _ k_216)) (fun _ h => h) rfl dX8_config_54 ?_
              refine lv_iload_n hx hb dX8_config_57 rfl (lv_at hl 1 rfl) ?_
              obtain ⟨v10, hv10, h⟩ := dq h
              refine cVl (As := [.int a1]) (rest := [.ref (q 23)]) ⟨hx, hb, hml, hown, hts⟩ (c_X6_keyInOrder (dT := dT) (rs := rs) (g := g) (bh := bh) (c1 := c1) (c2 := v5.2.1) (re := v5.2.2) (pl := pl) (cl := cl) hD hv10) (cwV 1 hts (good_V sub_z k_545 k_546 k_547 k_6 k_548) rfl rfl rfl (by decide +kernel) (by decide)) (va_recv hK hP (ci := 5) (q0 := 27) rfl rfl) hK hP hS rfl hl.1 rfl (Nat.le_of_ble_eq_true rfl) dX8_config_58 (by decide) (fun H locs hP hS => ?_)
              obtain ⟨v11, hv11, h⟩ := dq h
              refine cVv (As := [.long v10]) (rest := []) ⟨hx, hb, hml, hown, hts⟩ (c_X2_take_2 (dT := dT) (rs := rs) (g := g) (bh := bh) (c1 := c1) (c2 := v5.2.1) (re := v5.2.2) (pl := pl) (cl := cl) hD hv11) (cwV 1 hts (good_V sub_z k_549 k_317 k_318 k_5 k_319) rfl rfl rfl (by decide +kernel) (by decide)) (va_recv hK hP (ci := 2) (q0 := 23) rfl rfl) hK hP hS rfl hl.1 rfl (Nat.le_of_ble_eq_true rfl) dX8_config_61 (by decide) (fun H locs hP hS => ?_)
              refine lv_aload_n hx hb dX8_config_64 rfl (lv_at hl 0 rfl) ?_
              refine va_get (D := D) (ci := 7) (v := .ref (q 23)) (C := RX8) (T := TX8) (N := 7) hx hb hts (fun w h => sub_z _ (inX8 w h)) hown hK hP 0 rfl rfl 3 (by decide) (hts _ (sub_z _ k_215)) (fun _ h => h) rfl dX8_config_65 ?_
              refine lv_iload_n hx hb dX8_config_68 rfl (lv_at hl 2 rfl) ?_
              refine lv_iload_n hx hb dX8_config_69 rfl (lv_at hl 3 rfl) ?_
              obtain ⟨v12, hv12, h⟩ := dq h
              refine cVi (As := [.int a2, .int a3]) (rest := []) ⟨hx, hb, hml, hown, hts⟩ (c_X2_part_2 (dT := dT) (rs := rs) (g := g) (bh := bh) (c1 := c1) (c2 := v11) (re := v5.2.2) (pl := pl) (cl := cl) hD hv12) (cwV 2 hts (good_V sub_z k_550 k_370 k_371 k_5 k_372) rfl rfl rfl (by decide +kernel) (by decide)) (va_recv hK hP (ci := 2) (q0 := 23) rfl rfl) hK hP hS rfl hl.1 rfl (Nat.le_of_ble_eq_true rfl) dX8_config_70 (by decide) (fun H locs hP hS => ?_)
              obtain rfl := Option.some.inj h
              exact rI hx hb hr hlk hK hP hS dX8_config_73
            · rw [if_neg k9] at h
              refine lv_iconst (v := -1) hx hb dX8_config_47 (by decide) ?_
              obtain rfl := Option.some.inj h
              exact rI hx hb hr hlk hK hP hS dX8_config_48
      · rw [if_neg k4] at h
        refine lv_iconst (v := -1) hx hb dX8_config_20 (by decide) ?_
        obtain rfl := Option.some.inj h
        exact rI hx hb hr hlk hK hP hS dX8_config_21

set_option maxRecDepth 100000 in
set_option maxHeartbeats 4000000 in
theorem c_X8_refusalOf {l : Launch} {D : va_G} {dT : Nat → ClassId} {q : Nat → Nat} (hD : xD q) {rs : (Nat → tRow)} {g : tG_} {bh : tBH} {c1 : tC} {c2 : tC} {re : tRE} {pl : tPL} {cl : tCL} {a1 : Int32} {v : Int32 × tC × tRE} (h : f_X8_refusalOf g c2 re a1 = some v) : MG l yX8_refusalOf cX8_refusalOf 2 (some .int) 6 [.ref (q 0), .int a1] D (tyL dT) (wX dT q rs g bh c1 c2 re pl cl) (QI D (tyL dT) (xA q) (wX dT q rs g bh c1 v.2.1 v.2.2 pl cl) v.1) (xA q) := by
  refine MG.mk (by decide +kernel) (Nat.le_of_ble_eq_true rfl) ?_
  intro p e s m below meth c hx hb hr hml hown hts hlk hK hP ls hl
  have hown : s.vm.findClass RX8 = some m.cls := hown
  have hS : va_S (xA q) s.heap s.heap [] := va_S.rf
  have hl : lv_has ls 2 [(0, .ref (q 0)), (1, .int a1)] := hl
  rw [f_X8_refusalOf] at h
  refine lv_iload_n hx hb dX8_refusalOf_0 rfl (lv_at hl 1 rfl) ?_
  refine lv_iconst (v := 1) hx hb dX8_refusalOf_1 (by decide) ?_
  refine lv_icmp_lt (tgt := 11) hx hb dX8_refusalOf_2 (by decide) (fun k1 => ?_) (fun k1 => ?_)
  · rw [if_pos k1] at h
    refine lv_iconst (v := -1) hx hb dX8_refusalOf_11 (by decide) ?_
    obtain rfl := Option.some.inj h
    exact rI hx hb hr hlk hK hP hS dX8_refusalOf_12
  · rw [if_neg k1] at h
    refine lv_iload_n hx hb dX8_refusalOf_5 rfl (lv_at hl 1 rfl) ?_
    refine lv_bipush (v := 60) hx hb dX8_refusalOf_6 (by decide) ?_
    refine lv_icmp_le (tgt := 13) hx hb dX8_refusalOf_8 (by decide) (fun k2 => ?_) (fun k2 => ?_)
    · rw [if_pos k2] at h
      refine lv_aload_n hx hb dX8_refusalOf_13 rfl (lv_at hl 0 rfl) ?_
      refine va_get (D := D) (ci := 7) (v := .ref (q 27)) (C := RX8) (T := TX8) (N := 7) hx hb hts (fun w h => sub_z _ (inX8 w h)) hown hK hP 0 rfl rfl 4 (by decide) (hts _ (sub_z _ k_216)) (fun _ h => h) rfl dX8_refusalOf_14 ?_
      obtain ⟨v3, hv3, h⟩ := dq h
      refine cVi (As := []) (rest := []) ⟨hx, hb, hml, hown, hts⟩ (c_X6_isSpent (dT := dT) (rs := rs) (g := g) (bh := bh) (c1 := c1) (c2 := c2) (re := re) (pl := pl) (cl := cl) hD hv3) (cwV 0 hts (good_V sub_z k_501 k_502 k_503 k_6 k_504) rfl rfl rfl (by decide +kernel) (by decide)) (va_recv hK hP (ci := 5) (q0 := 27) rfl rfl) hK hP hS rfl hl.1 rfl (Nat.le_of_ble_eq_true rfl) dX8_refusalOf_17 (by decide) (fun H locs hP hS => ?_)
      refine lv_if_eq (tgt := 28) hx hb dX8_refusalOf_20 (by decide) (fun k4 => ?_) (fun k4 => ?_)
      · rw [if_pos k4] at h
        refine lv_iconst (v := 0) hx hb dX8_refusalOf_28 (by decide) ?_
        obtain rfl := Option.some.inj h
        exact rI hx hb hr hlk hK hP hS dX8_refusalOf_29
      · rw [if_neg k4] at h
        refine lv_bipush (v := -8) hx hb dX8_refusalOf_23 (by decide) ?_
        refine lv_goto (tgt := 29) hx hb dX8_refusalOf_25 (by decide) ?_
        obtain rfl := Option.some.inj h
        exact rI hx hb hr hlk hK hP hS dX8_refusalOf_29
    · rw [if_neg k2] at h
      refine lv_iconst (v := -1) hx hb dX8_refusalOf_11 (by decide) ?_
      obtain rfl := Option.some.inj h
      exact rI hx hb hr hlk hK hP hS dX8_refusalOf_12

set_option maxRecDepth 100000 in
set_option maxHeartbeats 4000000 in
theorem c_X8_pure {l : Launch} {D : va_G} {dT : Nat → ClassId} {q : Nat → Nat} (hD : xD q) {rs : (Nat → tRow)} {g : tG_} {bh : tBH} {c1 : tC} {c2 : tC} {re : tRE} {pl : tPL} {cl : tCL} {a1 : Int32} {v : Int32 × tC × tRE × tPL} (h : f_X8_pure g c2 re pl a1 = some v) : MG l yX8_pure cX8_pure 3 (some .int) 7 [.ref (q 0), .int a1] D (tyL dT) (wX dT q rs g bh c1 c2 re pl cl) (QI D (tyL dT) (xA q) (wX dT q rs g bh c1 v.2.1 v.2.2.1 v.2.2.2 cl) v.1) (xA q) := by
  refine MG.mk (by decide +kernel) (Nat.le_of_ble_eq_true rfl) ?_
  intro p e s m below meth c hx hb hr hml hown hts hlk hK hP ls hl
  have hown : s.vm.findClass RX8 = some m.cls := hown
  have hS : va_S (xA q) s.heap s.heap [] := va_S.rf
  have hl : lv_has ls 3 [(0, .ref (q 0)), (1, .int a1)] := hl
  rw [f_X8_pure] at h
  refine lv_aload_n hx hb dX8_pure_0 rfl (lv_at hl 0 rfl) ?_
  refine lv_iload_n hx hb dX8_pure_1 rfl (lv_at hl 1 rfl) ?_
  obtain ⟨v1, hv1, h⟩ := dq h
  refine cVi (As := [.int a1]) (rest := []) ⟨hx, hb, hml, hown, hts⟩ (c_X8_refusalOf (dT := dT) (rs := rs) (g := g) (bh := bh) (c1 := c1) (c2 := c2) (re := re) (pl := pl) (cl := cl) hD hv1) (cwV 1 hts (good_V sub_z k_555 k_557 ks_11 k_1 k_558) rfl rfl rfl (by decide +kernel) (by decide)) (va_recv hK hP (ci := 7) (q0 := 0) rfl rfl) hK hP hS rfl hl.1 rfl (Nat.le_of_ble_eq_true rfl) dX8_pure_2 (by decide) (fun H locs hP hS => ?_)
  refine lv_istore_n (lv' := [(2, .int v1.1), (0, .ref (q 0)), (1, .int a1)]) hx hb dX8_pure_5 rfl hl (by decide) rfl (fun ls hl => ?_)
  refine lv_iload_n hx hb dX8_pure_6 rfl (lv_at hl 0 rfl) ?_
  refine lv_if_eq (tgt := 12) hx hb dX8_pure_7 (by decide) (fun k2 => ?_) (fun k2 => ?_)
  · rw [if_pos k2] at h
    refine lv_aload_n hx hb dX8_pure_12 rfl (lv_at hl 1 rfl) ?_
    refine va_get (D := D) (ci := 7) (v := .ref (q 35)) (C := RX8) (T := TX8) (N := 7) hx hb hts (fun w h => sub_z _ (inX8 w h)) hown hK hP 0 rfl rfl 5 (by decide) (hts _ (sub_z _ k_217)) (fun _ h => h) rfl dX8_pure_13 ?_
    refine lv_iload_n hx hb dX8_pure_16 rfl (lv_at hl 2 rfl) ?_
    obtain ⟨v3, hv3, h⟩ := dq h
    refine cVi (As := [.int a1]) (rest := []) ⟨hx, hb, hml, hown, hts⟩ (c_X5_isPure (dT := dT) (rs := rs) (g := g) (bh := bh) (c1 := c1) (c2 := v1.2.1) (re := v1.2.2) (pl := pl) (cl := cl) hD hv3) (cwV 1 hts (good_V sub_z k_559 k_560 k_561 k_7 k_562) rfl rfl rfl (by decide +kernel) (by decide)) (va_recv hK hP (ci := 4) (q0 := 35) rfl rfl) hK hP hS rfl hl.1 rfl (Nat.le_of_ble_eq_true rfl) dX8_pure_17 (by decide) (fun H locs hP hS => ?_)
    refine lv_if_eq (tgt := 27) hx hb dX8_pure_20 (by decide) (fun k4 => ?_) (fun k4 => ?_)
    · rw [if_pos k4] at h
      refine lv_iconst (v := 0) hx hb dX8_pure_27 (by decide) ?_
      obtain rfl := Option.some.inj h
      exact rI hx hb hr hlk hK hP hS dX8_pure_28
    · rw [if_neg k4] at h
      refine lv_iconst (v := 1) hx hb dX8_pure_23 (by decide) ?_
      refine lv_goto (tgt := 28) hx hb dX8_pure_24 (by decide) ?_
      obtain rfl := Option.some.inj h
      exact rI hx hb hr hlk hK hP hS dX8_pure_28
  · rw [if_neg k2] at h
    refine lv_iload_n hx hb dX8_pure_10 rfl (lv_at hl 0 rfl) ?_
    obtain rfl := Option.some.inj h
    exact rI hx hb hr hlk hK hP hS dX8_pure_11

set_option maxRecDepth 100000 in
set_option maxHeartbeats 4000000 in
theorem c_X8_spans {l : Launch} {D : va_G} {dT : Nat → ClassId} {q : Nat → Nat} (hD : xD q) {rs : (Nat → tRow)} {g : tG_} {bh : tBH} {c1 : tC} {c2 : tC} {re : tRE} {pl : tPL} {cl : tCL} {a1 : Int32} {v : Int32 × tC × tRE × tPL} (h : f_X8_spans g c2 re pl a1 = some v) : MG l yX8_spans cX8_spans 3 (some .int) 7 [.ref (q 0), .int a1] D (tyL dT) (wX dT q rs g bh c1 c2 re pl cl) (QI D (tyL dT) (xA q) (wX dT q rs g bh c1 v.2.1 v.2.2.1 v.2.2.2 cl) v.1) (xA q) := by
  refine MG.mk (by decide +kernel) (Nat.le_of_ble_eq_true rfl) ?_
  intro p e s m below meth c hx hb hr hml hown hts hlk hK hP ls hl
  have hown : s.vm.findClass RX8 = some m.cls := hown
  have hS : va_S (xA q) s.heap s.heap [] := va_S.rf
  have hl : lv_has ls 3 [(0, .ref (q 0)), (1, .int a1)] := hl
  rw [f_X8_spans] at h
  refine lv_aload_n hx hb dX8_spans_0 rfl (lv_at hl 0 rfl) ?_
  refine lv_iload_n hx hb dX8_spans_1 rfl (lv_at hl 1 rfl) ?_
  obtain ⟨v1, hv1, h⟩ := dq h
  refine cVi (As := [.int a1]) (rest := []) ⟨hx, hb, hml, hown, hts⟩ (c_X8_refusalOf (dT := dT) (rs := rs) (g := g) (bh := bh) (c1 := c1) (c2 := c2) (re := re) (pl := pl) (cl := cl) hD hv1) (cwV 1 hts (good_V sub_z k_555 k_557 ks_11 k_1 k_558) rfl rfl rfl (by decide +kernel) (by decide)) (va_recv hK hP (ci := 7) (q0 := 0) rfl rfl) hK hP hS rfl hl.1 rfl (Nat.le_of_ble_eq_true rfl) dX8_spans_2 (by decide) (fun H locs hP hS => ?_)
  refine lv_istore_n (lv' := [(2, .int v1.1), (0, .ref (q 0)), (1, .int a1)]) hx hb dX8_spans_5 rfl hl (by decide) rfl (fun ls hl => ?_)
  refine lv_iload_n hx hb dX8_spans_6 rfl (lv_at hl 0 rfl) ?_
  refine lv_if_eq (tgt := 14) hx hb dX8_spans_7 (by decide) (fun k2 => ?_) (fun k2 => ?_)
  · rw [if_pos k2] at h
    refine lv_aload_n hx hb dX8_spans_14 rfl (lv_at hl 1 rfl) ?_
    refine va_get (D := D) (ci := 7) (v := .ref (q 35)) (C := RX8) (T := TX8) (N := 7) hx hb hts (fun w h => sub_z _ (inX8 w h)) hown hK hP 0 rfl rfl 5 (by decide) (hts _ (sub_z _ k_217)) (fun _ h => h) rfl dX8_spans_15 ?_
    refine lv_iload_n hx hb dX8_spans_18 rfl (lv_at hl 2 rfl) ?_
    obtain ⟨v3, hv3, h⟩ := dq h
    refine cVi (As := [.int a1]) (rest := []) ⟨hx, hb, hml, hown, hts⟩ (c_X5_pureUpTo (dT := dT) (rs := rs) (g := g) (bh := bh) (c1 := c1) (c2 := v1.2.1) (re := v1.2.2) (pl := pl) (cl := cl) hD hv3) (cwV 1 hts (good_V sub_z k_602 k_603 k_604 k_7 k_605) rfl rfl rfl (by decide +kernel) (by decide)) (va_recv hK hP (ci := 4) (q0 := 35) rfl rfl) hK hP hS rfl hl.1 rfl (Nat.le_of_ble_eq_true rfl) dX8_spans_19 (by decide) (fun H locs hP hS => ?_)
    obtain rfl := Option.some.inj h
    exact rI hx hb hr hlk hK hP hS dX8_spans_22
  · rw [if_neg k2] at h
    refine lv_iload_n hx hb dX8_spans_10 rfl (lv_at hl 0 rfl) ?_
    refine lv_goto (tgt := 22) hx hb dX8_spans_11 (by decide) ?_
    obtain rfl := Option.some.inj h
    exact rI hx hb hr hlk hK hP hS dX8_spans_22

set_option maxRecDepth 100000 in
set_option maxHeartbeats 4000000 in
theorem c_X8_fewest {l : Launch} {D : va_G} {dT : Nat → ClassId} {q : Nat → Nat} (hD : xD q) {rs : (Nat → tRow)} {g : tG_} {bh : tBH} {c1 : tC} {c2 : tC} {re : tRE} {pl : tPL} {cl : tCL} {a1 : Int32} {v : Int32 × tC × tRE × tPL} (h : f_X8_fewest g c2 re pl a1 = some v) : MG l yX8_fewest cX8_fewest 3 (some .int) 7 [.ref (q 0), .int a1] D (tyL dT) (wX dT q rs g bh c1 c2 re pl cl) (QI D (tyL dT) (xA q) (wX dT q rs g bh c1 v.2.1 v.2.2.1 v.2.2.2 cl) v.1) (xA q) := by
  refine MG.mk (by decide +kernel) (Nat.le_of_ble_eq_true rfl) ?_
  intro p e s m below meth c hx hb hr hml hown hts hlk hK hP ls hl
  have hown : s.vm.findClass RX8 = some m.cls := hown
  have hS : va_S (xA q) s.heap s.heap [] := va_S.rf
  have hl : lv_has ls 3 [(0, .ref (q 0)), (1, .int a1)] := hl
  rw [f_X8_fewest] at h
  refine lv_aload_n hx hb dX8_fewest_0 rfl (lv_at hl 0 rfl) ?_
  refine lv_iload_n hx hb dX8_fewest_1 rfl (lv_at hl 1 rfl) ?_
  obtain ⟨v1, hv1, h⟩ := dq h
  refine cVi (As := [.int a1]) (rest := []) ⟨hx, hb, hml, hown, hts⟩ (c_X8_refusalOf (dT := dT) (rs := rs) (g := g) (bh := bh) (c1 := c1) (c2 := c2) (re := re) (pl := pl) (cl := cl) hD hv1) (cwV 1 hts (good_V sub_z k_555 k_557 ks_11 k_1 k_558) rfl rfl rfl (by decide +kernel) (by decide)) (va_recv hK hP (ci := 7) (q0 := 0) rfl rfl) hK hP hS rfl hl.1 rfl (Nat.le_of_ble_eq_true rfl) dX8_fewest_2 (by decide) (fun H locs hP hS => ?_)
  refine lv_istore_n (lv' := [(2, .int v1.1), (0, .ref (q 0)), (1, .int a1)]) hx hb dX8_fewest_5 rfl hl (by decide) rfl (fun ls hl => ?_)
  refine lv_iload_n hx hb dX8_fewest_6 rfl (lv_at hl 0 rfl) ?_
  refine lv_if_eq (tgt := 12) hx hb dX8_fewest_7 (by decide) (fun k2 => ?_) (fun k2 => ?_)
  · rw [if_pos k2] at h
    refine lv_aload_n hx hb dX8_fewest_12 rfl (lv_at hl 1 rfl) ?_
    refine va_get (D := D) (ci := 7) (v := .ref (q 35)) (C := RX8) (T := TX8) (N := 7) hx hb hts (fun w h => sub_z _ (inX8 w h)) hown hK hP 0 rfl rfl 5 (by decide) (hts _ (sub_z _ k_217)) (fun _ h => h) rfl dX8_fewest_13 ?_
    refine lv_iload_n hx hb dX8_fewest_16 rfl (lv_at hl 2 rfl) ?_
    obtain ⟨v3, hv3, h⟩ := dq h
    refine cVi (As := [.int a1]) (rest := []) ⟨hx, hb, hml, hown, hts⟩ (c_X5_isPure (dT := dT) (rs := rs) (g := g) (bh := bh) (c1 := c1) (c2 := v1.2.1) (re := v1.2.2) (pl := pl) (cl := cl) hD hv3) (cwV 1 hts (good_V sub_z k_559 k_560 k_561 k_7 k_562) rfl rfl rfl (by decide +kernel) (by decide)) (va_recv hK hP (ci := 4) (q0 := 35) rfl rfl) hK hP hS rfl hl.1 rfl (Nat.le_of_ble_eq_true rfl) dX8_fewest_17 (by decide) (fun H locs hP hS => ?_)
    refine lv_if_eq (tgt := 34) hx hb dX8_fewest_20 (by decide) (fun k4 => ?_) (fun k4 => ?_)
    · rw [if_pos k4] at h
      refine lv_bipush (v := -7) hx hb dX8_fewest_34 (by decide) ?_
      obtain rfl := Option.some.inj h
      exact rI hx hb hr hlk hK hP hS dX8_fewest_36
    · rw [if_neg k4] at h
      refine lv_aload_n hx hb dX8_fewest_23 rfl (lv_at hl 1 rfl) ?_
      refine va_get (D := D) (ci := 7) (v := .ref (q 35)) (C := RX8) (T := TX8) (N := 7) hx hb hts (fun w h => sub_z _ (inX8 w h)) hown hK hP 0 rfl rfl 5 (by decide) (hts _ (sub_z _ k_217)) (fun _ h => h) rfl dX8_fewest_24 ?_
      refine lv_iload_n hx hb dX8_fewest_27 rfl (lv_at hl 2 rfl) ?_
      obtain ⟨v5, hv5, h⟩ := dq h
      refine cVi (As := [.int a1]) (rest := []) ⟨hx, hb, hml, hown, hts⟩ (c_X5_leastSum (dT := dT) (rs := rs) (g := g) (bh := bh) (c1 := c1) (c2 := v1.2.1) (re := v1.2.2) (pl := v3.2) (cl := cl) hD hv5) (cwV 1 hts (good_V sub_z k_616 k_617 k_618 k_7 k_619) rfl rfl rfl (by decide +kernel) (by decide)) (va_recv hK hP (ci := 4) (q0 := 35) rfl rfl) hK hP hS rfl hl.1 rfl (Nat.le_of_ble_eq_true rfl) dX8_fewest_28 (by decide) (fun H locs hP hS => ?_)
      refine lv_goto (tgt := 36) hx hb dX8_fewest_31 (by decide) ?_
      obtain rfl := Option.some.inj h
      exact rI hx hb hr hlk hK hP hS dX8_fewest_36
  · rw [if_neg k2] at h
    refine lv_iload_n hx hb dX8_fewest_10 rfl (lv_at hl 0 rfl) ?_
    obtain rfl := Option.some.inj h
    exact rI hx hb hr hlk hK hP hS dX8_fewest_11

set_option maxRecDepth 100000 in
set_option maxHeartbeats 4000000 in
theorem c_X8_plan {l : Launch} {D : va_G} {dT : Nat → ClassId} {q : Nat → Nat} (hD : xD q) {rs : (Nat → tRow)} {g : tG_} {bh : tBH} {c1 : tC} {c2 : tC} {re : tRE} {pl : tPL} {cl : tCL} {a1 : Int32} {a2 : Int32} {v : Int32 × tC × tRE × tPL} (h : f_X8_plan g c2 re pl a1 a2 = some v) : MG l yX8_plan cX8_plan 3 (some .int) 7 [.ref (q 0), .int a1, .int a2] D (tyL dT) (wX dT q rs g bh c1 c2 re pl cl) (QI D (tyL dT) (xA q) (wX dT q rs g bh c1 v.2.1 v.2.2.1 v.2.2.2 cl) v.1) (xA q) := by
  refine MG.mk (by decide +kernel) (Nat.le_of_ble_eq_true rfl) ?_
  intro p e s m below meth c hx hb hr hml hown hts hlk hK hP ls hl
  have hown : s.vm.findClass RX8 = some m.cls := hown
  have hS : va_S (xA q) s.heap s.heap [] := va_S.rf
  have hl : lv_has ls 3 [(0, .ref (q 0)), (1, .int a1), (2, .int a2)] := hl
  rw [f_X8_plan] at h
  refine lv_aload_n hx hb dX8_plan_0 rfl (lv_at hl 0 rfl) ?_
  refine lv_iload_n hx hb dX8_plan_1 rfl (lv_at hl 1 rfl) ?_
  obtain ⟨v1, hv1, h⟩ := dq h
  refine cVi (As := [.int a1]) (rest := []) ⟨hx, hb, hml, hown, hts⟩ (c_X8_refusalOf (dT := dT) (rs := rs) (g := g) (bh := bh) (c1 := c1) (c2 := c2) (re := re) (pl := pl) (cl := cl) hD hv1) (cwV 1 hts (good_V sub_z k_555 k_557 ks_11 k_1 k_558) rfl rfl rfl (by decide +kernel) (by decide)) (va_recv hK hP (ci := 7) (q0 := 0) rfl rfl) hK hP hS rfl hl.1 rfl (Nat.le_of_ble_eq_true rfl) dX8_plan_2 (by decide) (fun H locs hP hS => ?_)
  refine lv_if_ne (tgt := 19) hx hb dX8_plan_5 (by decide) (fun k2 => ?_) (fun k2 => ?_)
  · rw [if_neg k2] at h
    refine lv_iconst (v := -1) hx hb dX8_plan_19 (by decide) ?_
    obtain rfl := Option.some.inj h
    exact rI hx hb hr hlk hK hP hS dX8_plan_20
  · rw [if_pos k2] at h
    refine lv_aload_n hx hb dX8_plan_8 rfl (lv_at hl 0 rfl) ?_
    refine va_get (D := D) (ci := 7) (v := .ref (q 35)) (C := RX8) (T := TX8) (N := 7) hx hb hts (fun w h => sub_z _ (inX8 w h)) hown hK hP 0 rfl rfl 5 (by decide) (hts _ (sub_z _ k_217)) (fun _ h => h) rfl dX8_plan_9 ?_
    refine lv_iload_n hx hb dX8_plan_12 rfl (lv_at hl 1 rfl) ?_
    obtain ⟨v3, hv3, h⟩ := dq h
    refine cVi (As := [.int a1]) (rest := []) ⟨hx, hb, hml, hown, hts⟩ (c_X5_isPure (dT := dT) (rs := rs) (g := g) (bh := bh) (c1 := c1) (c2 := v1.2.1) (re := v1.2.2) (pl := pl) (cl := cl) hD hv3) (cwV 1 hts (good_V sub_z k_559 k_560 k_561 k_7 k_562) rfl rfl rfl (by decide +kernel) (by decide)) (va_recv hK hP (ci := 4) (q0 := 35) rfl rfl) hK hP hS rfl hl.1 rfl (Nat.le_of_ble_eq_true rfl) dX8_plan_13 (by decide) (fun H locs hP hS => ?_)
    refine lv_if_ne (tgt := 21) hx hb dX8_plan_16 (by decide) (fun k4 => ?_) (fun k4 => ?_)
    · rw [if_neg k4] at h
      refine lv_aload_n hx hb dX8_plan_21 rfl (lv_at hl 0 rfl) ?_
      refine va_get (D := D) (ci := 7) (v := .ref (q 35)) (C := RX8) (T := TX8) (N := 7) hx hb hts (fun w h => sub_z _ (inX8 w h)) hown hK hP 0 rfl rfl 5 (by decide) (hts _ (sub_z _ k_217)) (fun _ h => h) rfl dX8_plan_22 ?_
      refine lv_iload_n hx hb dX8_plan_25 rfl (lv_at hl 1 rfl) ?_
      obtain ⟨v5, hv5, h⟩ := dq h
      refine cVv (As := [.int a1]) (rest := []) ⟨hx, hb, hml, hown, hts⟩ (c_X5_makePlan (dT := dT) (rs := rs) (g := g) (bh := bh) (c1 := c1) (c2 := v1.2.1) (re := v1.2.2) (pl := v3.2) (cl := cl) hD hv5) (cwV 1 hts (good_V sub_z k_648 k_649 k_650 k_7 k_651) rfl rfl rfl (by decide +kernel) (by decide)) (va_recv hK hP (ci := 4) (q0 := 35) rfl rfl) hK hP hS rfl hl.1 rfl (Nat.le_of_ble_eq_true rfl) dX8_plan_26 (by decide) (fun H locs hP hS => ?_)
      refine lv_iload_n hx hb dX8_plan_29 rfl (lv_at hl 2 rfl) ?_
      refine lv_if_lt (tgt := 55) hx hb dX8_plan_30 (by decide) (fun k6 => ?_) (fun k6 => ?_)
      · rw [if_pos k6] at h
        refine lv_iconst (v := -1) hx hb dX8_plan_55 (by decide) ?_
        obtain rfl := Option.some.inj h
        exact rI hx hb hr hlk hK hP hS dX8_plan_56
      · rw [if_neg k6] at h
        refine lv_iload_n hx hb dX8_plan_33 rfl (lv_at hl 2 rfl) ?_
        refine lv_aload_n hx hb dX8_plan_34 rfl (lv_at hl 0 rfl) ?_
        refine va_get (D := D) (ci := 7) (v := .ref (q 35)) (C := RX8) (T := TX8) (N := 7) hx hb hts (fun w h => sub_z _ (inX8 w h)) hown hK hP 0 rfl rfl 5 (by decide) (hts _ (sub_z _ k_217)) (fun _ h => h) rfl dX8_plan_35 ?_
        obtain ⟨v7, hv7, h⟩ := dq h
        refine cVi (As := []) (rest := [.int a2]) ⟨hx, hb, hml, hown, hts⟩ (c_X5_planLength (dT := dT) (rs := rs) (g := g) (bh := bh) (c1 := c1) (c2 := v1.2.1) (re := v1.2.2) (pl := v5) (cl := cl) hD hv7) (cwV 0 hts (good_V sub_z k_655 k_656 k_657 k_7 k_658) rfl rfl rfl (by decide +kernel) (by decide)) (va_recv hK hP (ci := 4) (q0 := 35) rfl rfl) hK hP hS rfl hl.1 rfl (Nat.le_of_ble_eq_true rfl) dX8_plan_38 (by decide) (fun H locs hP hS => ?_)
        refine lv_icmp_ge (tgt := 55) hx hb dX8_plan_41 (by decide) (fun k8 => ?_) (fun k8 => ?_)
        · rw [if_pos k8] at h
          refine lv_iconst (v := -1) hx hb dX8_plan_55 (by decide) ?_
          obtain rfl := Option.some.inj h
          exact rI hx hb hr hlk hK hP hS dX8_plan_56
        · rw [if_neg k8] at h
          refine lv_aload_n hx hb dX8_plan_44 rfl (lv_at hl 0 rfl) ?_
          refine va_get (D := D) (ci := 7) (v := .ref (q 35)) (C := RX8) (T := TX8) (N := 7) hx hb hts (fun w h => sub_z _ (inX8 w h)) hown hK hP 0 rfl rfl 5 (by decide) (hts _ (sub_z _ k_217)) (fun _ h => h) rfl dX8_plan_45 ?_
          refine lv_iload_n hx hb dX8_plan_48 rfl (lv_at hl 2 rfl) ?_
          obtain ⟨v9, hv9, h⟩ := dq h
          refine cVi (As := [.int a2]) (rest := []) ⟨hx, hb, hml, hown, hts⟩ (c_X5_handlingAt (dT := dT) (rs := rs) (g := g) (bh := bh) (c1 := c1) (c2 := v1.2.1) (re := v1.2.2) (pl := v5) (cl := cl) hD hv9) (cwV 1 hts (good_V sub_z k_659 k_660 k_661 k_7 k_662) rfl rfl rfl (by decide +kernel) (by decide)) (va_recv hK hP (ci := 4) (q0 := 35) rfl rfl) hK hP hS rfl hl.1 rfl (Nat.le_of_ble_eq_true rfl) dX8_plan_49 (by decide) (fun H locs hP hS => ?_)
          refine lv_goto (tgt := 56) hx hb dX8_plan_52 (by decide) ?_
          obtain rfl := Option.some.inj h
          exact rI hx hb hr hlk hK hP hS dX8_plan_56
    · rw [if_pos k4] at h
      refine lv_iconst (v := -1) hx hb dX8_plan_19 (by decide) ?_
      obtain rfl := Option.some.inj h
      exact rI hx hb hr hlk hK hP hS dX8_plan_20

set_option maxRecDepth 100000 in
set_option maxHeartbeats 4000000 in
theorem c_X8_soonest {l : Launch} {D : va_G} {dT : Nat → ClassId} {q : Nat → Nat} (hD : xD q) {rs : (Nat → tRow)} {g : tG_} {bh : tBH} {c1 : tC} {c2 : tC} {re : tRE} {pl : tPL} {cl : tCL} {a1 : Int32} {v : Int32 × tC × tRE × tPL} (h : f_X8_soonest g c2 re pl a1 = some v) : MG l yX8_soonest cX8_soonest 3 (some .int) 7 [.ref (q 0), .int a1] D (tyL dT) (wX dT q rs g bh c1 c2 re pl cl) (QI D (tyL dT) (xA q) (wX dT q rs g bh c1 v.2.1 v.2.2.1 v.2.2.2 cl) v.1) (xA q) := by
  refine MG.mk (by decide +kernel) (Nat.le_of_ble_eq_true rfl) ?_
  intro p e s m below meth c hx hb hr hml hown hts hlk hK hP ls hl
  have hown : s.vm.findClass RX8 = some m.cls := hown
  have hS : va_S (xA q) s.heap s.heap [] := va_S.rf
  have hl : lv_has ls 3 [(0, .ref (q 0)), (1, .int a1)] := hl
  rw [f_X8_soonest] at h
  refine lv_aload_n hx hb dX8_soonest_0 rfl (lv_at hl 0 rfl) ?_
  refine lv_iload_n hx hb dX8_soonest_1 rfl (lv_at hl 1 rfl) ?_
  obtain ⟨v1, hv1, h⟩ := dq h
  refine cVi (As := [.int a1]) (rest := []) ⟨hx, hb, hml, hown, hts⟩ (c_X8_refusalOf (dT := dT) (rs := rs) (g := g) (bh := bh) (c1 := c1) (c2 := c2) (re := re) (pl := pl) (cl := cl) hD hv1) (cwV 1 hts (good_V sub_z k_555 k_557 ks_11 k_1 k_558) rfl rfl rfl (by decide +kernel) (by decide)) (va_recv hK hP (ci := 7) (q0 := 0) rfl rfl) hK hP hS rfl hl.1 rfl (Nat.le_of_ble_eq_true rfl) dX8_soonest_2 (by decide) (fun H locs hP hS => ?_)
  refine lv_istore_n (lv' := [(2, .int v1.1), (0, .ref (q 0)), (1, .int a1)]) hx hb dX8_soonest_5 rfl hl (by decide) rfl (fun ls hl => ?_)
  refine lv_iload_n hx hb dX8_soonest_6 rfl (lv_at hl 0 rfl) ?_
  refine lv_if_eq (tgt := 14) hx hb dX8_soonest_7 (by decide) (fun k2 => ?_) (fun k2 => ?_)
  · rw [if_pos k2] at h
    refine lv_aload_n hx hb dX8_soonest_14 rfl (lv_at hl 1 rfl) ?_
    refine va_get (D := D) (ci := 7) (v := .ref (q 35)) (C := RX8) (T := TX8) (N := 7) hx hb hts (fun w h => sub_z _ (inX8 w h)) hown hK hP 0 rfl rfl 5 (by decide) (hts _ (sub_z _ k_217)) (fun _ h => h) rfl dX8_soonest_15 ?_
    refine lv_iload_n hx hb dX8_soonest_18 rfl (lv_at hl 2 rfl) ?_
    obtain ⟨v3, hv3, h⟩ := dq h
    refine cVi (As := [.int a1]) (rest := []) ⟨hx, hb, hml, hown, hts⟩ (c_X5_soonestEnd (dT := dT) (rs := rs) (g := g) (bh := bh) (c1 := c1) (c2 := v1.2.1) (re := v1.2.2) (pl := pl) (cl := cl) hD hv3) (cwV 1 hts (good_V sub_z k_667 k_668 k_669 k_7 k_670) rfl rfl rfl (by decide +kernel) (by decide)) (va_recv hK hP (ci := 4) (q0 := 35) rfl rfl) hK hP hS rfl hl.1 rfl (Nat.le_of_ble_eq_true rfl) dX8_soonest_19 (by decide) (fun H locs hP hS => ?_)
    obtain rfl := Option.some.inj h
    exact rI hx hb hr hlk hK hP hS dX8_soonest_22
  · rw [if_neg k2] at h
    refine lv_iload_n hx hb dX8_soonest_10 rfl (lv_at hl 0 rfl) ?_
    refine lv_goto (tgt := 22) hx hb dX8_soonest_11 (by decide) ?_
    obtain rfl := Option.some.inj h
    exact rI hx hb hr hlk hK hP hS dX8_soonest_22

set_option maxRecDepth 100000 in
set_option maxHeartbeats 4000000 in
theorem c_X8_claim {l : Launch} {D : va_G} {dT : Nat → ClassId} {q : Nat → Nat} (hD : xD q) {rs : (Nat → tRow)} {g : tG_} {bh : tBH} {c1 : tC} {c2 : tC} {re : tRE} {pl : tPL} {cl : tCL} {a1 : Int32} {v : Int32 × tCL} (h : f_X8_claim cl a1 = some v) : MG l yX8_claim cX8_claim 2 (some .int) 1 [.ref (q 0), .int a1] D (tyL dT) (wX dT q rs g bh c1 c2 re pl cl) (QI D (tyL dT) (xA q) (wX dT q rs g bh c1 c2 re pl v.2) v.1) (xA q) := by
  refine MG.mk (by decide +kernel) (Nat.le_of_ble_eq_true rfl) ?_
  intro p e s m below meth c hx hb hr hml hown hts hlk hK hP ls hl
  have hown : s.vm.findClass RX8 = some m.cls := hown
  have hS : va_S (xA q) s.heap s.heap [] := va_S.rf
  have hl : lv_has ls 2 [(0, .ref (q 0)), (1, .int a1)] := hl
  rw [f_X8_claim] at h
  refine lv_iload_n hx hb dX8_claim_0 rfl (lv_at hl 1 rfl) ?_
  obtain ⟨v1, hv1, h⟩ := dq h
  refine cSi (As := [.int a1]) (rest := []) ⟨hx, hb, hml, hown, hts⟩ (c_X4_isNone_x (dT := dT) (rs := rs) (g := g) (bh := bh) (c1 := c1) (c2 := c2) (re := re) (pl := pl) (cl := cl) hD hv1) (va_cwS 1 hts (good_S sub_z k_381 k_382 k_11 k_383) rfl rfl rfl (by decide +kernel) (by decide)) hK hP hS rfl hl.1 rfl (Nat.le_of_ble_eq_true rfl) dX8_claim_1 (by decide) (fun H locs hP hS => ?_)
  refine lv_if_eq (tgt := 9) hx hb dX8_claim_4 (by decide) (fun k2 => ?_) (fun k2 => ?_)
  · rw [if_pos k2] at h
    refine lv_aload_n hx hb dX8_claim_9 rfl (lv_at hl 0 rfl) ?_
    refine va_get (D := D) (ci := 7) (v := .ref (q 39)) (C := RX8) (T := TX8) (N := 7) hx hb hts (fun w h => sub_z _ (inX8 w h)) hown hK hP 0 rfl rfl 6 (by decide) (hts _ (sub_z _ k_218)) (fun _ h => h) rfl dX8_claim_10 ?_
    obtain ⟨v3, hv3, h⟩ := dq h
    refine cVi (As := []) (rest := []) ⟨hx, hb, hml, hown, hts⟩ (c_X1_isFull (dT := dT) (rs := rs) (g := g) (bh := bh) (c1 := c1) (c2 := c2) (re := re) (pl := pl) (cl := cl) hD hv3) (cwV 0 hts (good_V sub_z k_675 k_676 k_677 k_8 k_678) rfl rfl rfl (by decide +kernel) (by decide)) (va_recv hK hP (ci := 1) (q0 := 39) rfl rfl) hK hP hS rfl hl.1 rfl (Nat.le_of_ble_eq_true rfl) dX8_claim_13 (by decide) (fun H locs hP hS => ?_)
    refine lv_if_eq (tgt := 22) hx hb dX8_claim_16 (by decide) (fun k4 => ?_) (fun k4 => ?_)
    · rw [if_pos k4] at h
      refine lv_aload_n hx hb dX8_claim_22 rfl (lv_at hl 0 rfl) ?_
      refine va_get (D := D) (ci := 7) (v := .ref (q 39)) (C := RX8) (T := TX8) (N := 7) hx hb hts (fun w h => sub_z _ (inX8 w h)) hown hK hP 0 rfl rfl 6 (by decide) (hts _ (sub_z _ k_218)) (fun _ h => h) rfl dX8_claim_23 ?_
      refine lv_iload_n hx hb dX8_claim_26 rfl (lv_at hl 1 rfl) ?_
      obtain ⟨v5, hv5, h⟩ := dq h
      refine cVv (As := [.int a1]) (rest := []) ⟨hx, hb, hml, hown, hts⟩ (c_X1_add (dT := dT) (rs := rs) (g := g) (bh := bh) (c1 := c1) (c2 := c2) (re := re) (pl := pl) (cl := cl) hD hv5) (cwV 1 hts (good_V sub_z k_679 k_680 k_681 k_8 k_682) rfl rfl rfl (by decide +kernel) (by decide)) (va_recv hK hP (ci := 1) (q0 := 39) rfl rfl) hK hP hS rfl hl.1 rfl (Nat.le_of_ble_eq_true rfl) dX8_claim_27 (by decide) (fun H locs hP hS => ?_)
      refine lv_aload_n hx hb dX8_claim_30 rfl (lv_at hl 0 rfl) ?_
      refine va_get (D := D) (ci := 7) (v := .ref (q 39)) (C := RX8) (T := TX8) (N := 7) hx hb hts (fun w h => sub_z _ (inX8 w h)) hown hK hP 0 rfl rfl 6 (by decide) (hts _ (sub_z _ k_218)) (fun _ h => h) rfl dX8_claim_31 ?_
      obtain ⟨v6, hv6, h⟩ := dq h
      refine cVi (As := []) (rest := []) ⟨hx, hb, hml, hown, hts⟩ (c_X1_count (dT := dT) (rs := rs) (g := g) (bh := bh) (c1 := c1) (c2 := c2) (re := re) (pl := pl) (cl := v5) hD hv6) (cwV 0 hts (good_V sub_z k_683 k_684 k_685 k_8 k_686) rfl rfl rfl (by decide +kernel) (by decide)) (va_recv hK hP (ci := 1) (q0 := 39) rfl rfl) hK hP hS rfl hl.1 rfl (Nat.le_of_ble_eq_true rfl) dX8_claim_34 (by decide) (fun H locs hP hS => ?_)
      obtain rfl := Option.some.inj h
      exact rI hx hb hr hlk hK hP hS dX8_claim_37
    · rw [if_neg k4] at h
      refine lv_bipush (v := -2) hx hb dX8_claim_19 (by decide) ?_
      obtain rfl := Option.some.inj h
      exact rI hx hb hr hlk hK hP hS dX8_claim_21
  · rw [if_neg k2] at h
    refine lv_iconst (v := -1) hx hb dX8_claim_7 (by decide) ?_
    obtain rfl := Option.some.inj h
    exact rI hx hb hr hlk hK hP hS dX8_claim_8

set_option maxRecDepth 100000 in
set_option maxHeartbeats 4000000 in
theorem c_X8_copy {l : Launch} {D : va_G} {dT : Nat → ClassId} {q : Nat → Nat} (hD : xD q) {rs : (Nat → tRow)} {g : tG_} {bh : tBH} {c1 : tC} {c2 : tC} {re : tRE} {pl : tPL} {cl : tCL} {a1 : Int32} {v : Int32 × tC × tRE × tPL × tCL} (h : f_X8_copy g c2 re pl cl a1 = some v) : MG l yX8_copy cX8_copy 4 (some .int) 7 [.ref (q 0), .int a1] D (tyL dT) (wX dT q rs g bh c1 c2 re pl cl) (QI D (tyL dT) (xA q) (wX dT q rs g bh c1 v.2.1 v.2.2.1 v.2.2.2.1 v.2.2.2.2) v.1) (xA q) := by
  refine MG.mk (by decide +kernel) (Nat.le_of_ble_eq_true rfl) ?_
  intro p e s m below meth c hx hb hr hml hown hts hlk hK hP ls hl
  have hown : s.vm.findClass RX8 = some m.cls := hown
  have hS : va_S (xA q) s.heap s.heap [] := va_S.rf
  have hl : lv_has ls 4 [(0, .ref (q 0)), (1, .int a1)] := hl
  rw [f_X8_copy] at h
  refine lv_aload_n hx hb dX8_copy_0 rfl (lv_at hl 0 rfl) ?_
  refine lv_iload_n hx hb dX8_copy_1 rfl (lv_at hl 1 rfl) ?_
  obtain ⟨v1, hv1, h⟩ := dq h
  refine cVi (As := [.int a1]) (rest := []) ⟨hx, hb, hml, hown, hts⟩ (c_X8_refusalOf (dT := dT) (rs := rs) (g := g) (bh := bh) (c1 := c1) (c2 := c2) (re := re) (pl := pl) (cl := cl) hD hv1) (cwV 1 hts (good_V sub_z k_555 k_557 ks_11 k_1 k_558) rfl rfl rfl (by decide +kernel) (by decide)) (va_recv hK hP (ci := 7) (q0 := 0) rfl rfl) hK hP hS rfl hl.1 rfl (Nat.le_of_ble_eq_true rfl) dX8_copy_2 (by decide) (fun H locs hP hS => ?_)
  refine lv_istore_n (lv' := [(2, .int v1.1), (0, .ref (q 0)), (1, .int a1)]) hx hb dX8_copy_5 rfl hl (by decide) rfl (fun ls hl => ?_)
  refine lv_iload_n hx hb dX8_copy_6 rfl (lv_at hl 0 rfl) ?_
  refine lv_if_eq (tgt := 12) hx hb dX8_copy_7 (by decide) (fun k2 => ?_) (fun k2 => ?_)
  · rw [if_pos k2] at h
    refine lv_aload_n hx hb dX8_copy_12 rfl (lv_at hl 1 rfl) ?_
    refine va_get (D := D) (ci := 7) (v := .ref (q 35)) (C := RX8) (T := TX8) (N := 7) hx hb hts (fun w h => sub_z _ (inX8 w h)) hown hK hP 0 rfl rfl 5 (by decide) (hts _ (sub_z _ k_217)) (fun _ h => h) rfl dX8_copy_13 ?_
    refine lv_iload_n hx hb dX8_copy_16 rfl (lv_at hl 2 rfl) ?_
    obtain ⟨v3, hv3, h⟩ := dq h
    refine cVi (As := [.int a1]) (rest := []) ⟨hx, hb, hml, hown, hts⟩ (c_X5_isPure (dT := dT) (rs := rs) (g := g) (bh := bh) (c1 := c1) (c2 := v1.2.1) (re := v1.2.2) (pl := pl) (cl := cl) hD hv3) (cwV 1 hts (good_V sub_z k_559 k_560 k_561 k_7 k_562) rfl rfl rfl (by decide +kernel) (by decide)) (va_recv hK hP (ci := 4) (q0 := 35) rfl rfl) hK hP hS rfl hl.1 rfl (Nat.le_of_ble_eq_true rfl) dX8_copy_17 (by decide) (fun H locs hP hS => ?_)
    refine lv_if_ne (tgt := 26) hx hb dX8_copy_20 (by decide) (fun k4 => ?_) (fun k4 => ?_)
    · rw [if_neg k4] at h
      refine lv_aload_n hx hb dX8_copy_26 rfl (lv_at hl 1 rfl) ?_
      refine va_get (D := D) (ci := 7) (v := .ref (q 35)) (C := RX8) (T := TX8) (N := 7) hx hb hts (fun w h => sub_z _ (inX8 w h)) hown hK hP 0 rfl rfl 5 (by decide) (hts _ (sub_z _ k_217)) (fun _ h => h) rfl dX8_copy_27 ?_
      refine lv_iload_n hx hb dX8_copy_30 rfl (lv_at hl 2 rfl) ?_
      obtain ⟨v5, hv5, h⟩ := dq h
      refine cVv (As := [.int a1]) (rest := []) ⟨hx, hb, hml, hown, hts⟩ (c_X5_makePlan (dT := dT) (rs := rs) (g := g) (bh := bh) (c1 := c1) (c2 := v1.2.1) (re := v1.2.2) (pl := v3.2) (cl := cl) hD hv5) (cwV 1 hts (good_V sub_z k_648 k_649 k_650 k_7 k_651) rfl rfl rfl (by decide +kernel) (by decide)) (va_recv hK hP (ci := 4) (q0 := 35) rfl rfl) hK hP hS rfl hl.1 rfl (Nat.le_of_ble_eq_true rfl) dX8_copy_31 (by decide) (fun H locs hP hS => ?_)
      refine lv_aload_n hx hb dX8_copy_34 rfl (lv_at hl 1 rfl) ?_
      refine va_get (D := D) (ci := 7) (v := .ref (q 39)) (C := RX8) (T := TX8) (N := 7) hx hb hts (fun w h => sub_z _ (inX8 w h)) hown hK hP 0 rfl rfl 6 (by decide) (hts _ (sub_z _ k_218)) (fun _ h => h) rfl dX8_copy_35 ?_
      obtain ⟨v6, hv6, h⟩ := dq h
      refine cVv (As := []) (rest := []) ⟨hx, hb, hml, hown, hts⟩ (c_X1_removeAll (dT := dT) (rs := rs) (g := g) (bh := bh) (c1 := c1) (c2 := v1.2.1) (re := v1.2.2) (pl := v5) (cl := cl) hD hv6) (cwV 0 hts (good_V sub_z k_691 k_692 k_693 k_8 k_694) rfl rfl rfl (by decide +kernel) (by decide)) (va_recv hK hP (ci := 1) (q0 := 39) rfl rfl) hK hP hS rfl hl.1 rfl (Nat.le_of_ble_eq_true rfl) dX8_copy_38 (by decide) (fun H locs hP hS => ?_)
      refine lv_iconst (v := 0) hx hb dX8_copy_41 (by decide) ?_
      refine lv_istore_n (lv' := [(3, .int (0 : Int32)), (2, .int v1.1), (0, .ref (q 0)), (1, .int a1)]) hx hb dX8_copy_42 rfl hl (by decide) rfl (fun ls hl => ?_)
      have hL43_11 : ∀ (n : Nat) (cl_43 : tCL) (x3_43 : Int32) (y : Int32 × tCL), f_X8_copy_43 n v5 cl_43 a1 v1.1 x3_43 = some y → ∀ (ls : Array Slot) (H : Heap) (locs : List Loc), lv_has ls 4 [(0, .ref (q 0)), (1, .int a1), (2, .int v1.1), (3, .int x3_43)] → va_P D vwCl (wX dT q rs g bh c1 v1.2.1 v1.2.2 v5 cl_43) H → va_S (xA q) s.heap H locs → ∀ Q : State → Prop, (∀ (ls : Array Slot) (H : Heap) (locs : List Loc), lv_has ls 4 [(0, .ref (q 0)), (1, .int a1), (2, .int v1.1), (3, .int y.1)] → va_P D vwCl (wX dT q rs g bh c1 v1.2.1 v1.2.2 v5 y.2) H → va_S (xA q) s.heap H locs → W p l e (rmD 7) s m [.ref (q 0), .int a1].toArray below meth c H locs 0 0 Q (F0 m 75 ls [])) → W p l e (rmD 7) s m [.ref (q 0), .int a1].toArray below meth c H locs 0 0 Q (F0 m 43 ls []) := by
        intro n
        induction n with
        | zero => intro cl_43 x3_43 y h; exact absurd h (by simp [f_X8_copy_43])
        | succ n ih =>
          intro cl_43 x3_43 y h ls H locs hl hP hS Q kk
          rw [f_X8_copy_43] at h
          refine lv_iload_n hx hb dX8_copy_43 rfl (lv_at hl 3 rfl) ?_
          refine lv_aload_n hx hb dX8_copy_44 rfl (lv_at hl 0 rfl) ?_
          refine va_get (D := D) (ci := 7) (v := .ref (q 35)) (C := RX8) (T := TX8) (N := 7) hx hb hts (fun w h => sub_z _ (inX8 w h)) hown hK hP 0 rfl rfl 5 (by decide) (hts _ (sub_z _ k_217)) (fun _ h => h) rfl dX8_copy_45 ?_
          obtain ⟨v7, hv7, h⟩ := dq h
          refine cVi (As := []) (rest := [.int x3_43]) ⟨hx, hb, hml, hown, hts⟩ (c_X5_planLength (dT := dT) (rs := rs) (g := g) (bh := bh) (c1 := c1) (c2 := v1.2.1) (re := v1.2.2) (pl := v5) (cl := cl_43) hD hv7) (cwV 0 hts (good_V sub_z k_655 k_656 k_657 k_7 k_658) rfl rfl rfl (by decide +kernel) (by decide)) (va_recv hK hP (ci := 4) (q0 := 35) rfl rfl) hK hP hS rfl hl.1 rfl (Nat.le_of_ble_eq_true rfl) dX8_copy_48 (by decide) (fun H locs hP hS => ?_)
          refine lv_icmp_ge (tgt := 75) hx hb dX8_copy_51 (by decide) (fun k8 => ?_) (fun k8 => ?_)
          · rw [if_pos k8] at h
            obtain rfl := Option.some.inj h
            exact kk _ _ _ (lv_sub hl [0, 1, 2, 3] rfl) hP hS
          · rw [if_neg k8] at h
            refine lv_aload_n hx hb dX8_copy_54 rfl (lv_at hl 0 rfl) ?_
            refine va_get (D := D) (ci := 7) (v := .ref (q 39)) (C := RX8) (T := TX8) (N := 7) hx hb hts (fun w h => sub_z _ (inX8 w h)) hown hK hP 0 rfl rfl 6 (by decide) (hts _ (sub_z _ k_218)) (fun _ h => h) rfl dX8_copy_55 ?_
            refine lv_aload_n hx hb dX8_copy_58 rfl (lv_at hl 0 rfl) ?_
            refine va_get (D := D) (ci := 7) (v := .ref (q 35)) (C := RX8) (T := TX8) (N := 7) hx hb hts (fun w h => sub_z _ (inX8 w h)) hown hK hP 0 rfl rfl 5 (by decide) (hts _ (sub_z _ k_217)) (fun _ h => h) rfl dX8_copy_59 ?_
            refine lv_iload_n hx hb dX8_copy_62 rfl (lv_at hl 3 rfl) ?_
            obtain ⟨v9, hv9, h⟩ := dq h
            refine cVi (As := [.int x3_43]) (rest := [.ref (q 39)]) ⟨hx, hb, hml, hown, hts⟩ (c_X5_handlingAt (dT := dT) (rs := rs) (g := g) (bh := bh) (c1 := c1) (c2 := v1.2.1) (re := v1.2.2) (pl := v5) (cl := cl_43) hD hv9) (cwV 1 hts (good_V sub_z k_659 k_660 k_661 k_7 k_662) rfl rfl rfl (by decide +kernel) (by decide)) (va_recv hK hP (ci := 4) (q0 := 35) rfl rfl) hK hP hS rfl hl.1 rfl (Nat.le_of_ble_eq_true rfl) dX8_copy_63 (by decide) (fun H locs hP hS => ?_)
            obtain ⟨v10, hv10, h⟩ := dq h
            refine cVv (As := [.int v9]) (rest := []) ⟨hx, hb, hml, hown, hts⟩ (c_X1_add (dT := dT) (rs := rs) (g := g) (bh := bh) (c1 := c1) (c2 := v1.2.1) (re := v1.2.2) (pl := v5) (cl := cl_43) hD hv10) (cwV 1 hts (good_V sub_z k_679 k_680 k_681 k_8 k_682) rfl rfl rfl (by decide +kernel) (by decide)) (va_recv hK hP (ci := 1) (q0 := 39) rfl rfl) hK hP hS rfl hl.1 rfl (Nat.le_of_ble_eq_true rfl) dX8_copy_66 (by decide) (fun H locs hP hS => ?_)
            refine lv_iinc (v := (x3_43 + (1 : Int32))) (lv' := [(3, .int (x3_43 + (1 : Int32))), (0, .ref (q 0)), (1, .int a1), (2, .int v1.1)]) hx hb dX8_copy_69 hl (k := 3) rfl rfl (by decide) rfl (fun ls hl => ?_)
            refine lv_goto (tgt := 43) hx hb dX8_copy_72 (by decide) ?_
            exact ih _ _ _ h _ _ _ (lv_sub hl [1, 2, 3, 0] rfl) hP hS _ kk
      obtain ⟨y12, hy12, h⟩ := dq h
      refine hL43_11 _ _ _ _ hy12 _ _ _ (lv_sub hl [2, 3, 1, 0] rfl) hP hS _ (fun ls H locs hl hP hS => ?_)
      refine lv_aload_n hx hb dX8_copy_75 rfl (lv_at hl 0 rfl) ?_
      refine va_get (D := D) (ci := 7) (v := .ref (q 39)) (C := RX8) (T := TX8) (N := 7) hx hb hts (fun w h => sub_z _ (inX8 w h)) hown hK hP 0 rfl rfl 6 (by decide) (hts _ (sub_z _ k_218)) (fun _ h => h) rfl dX8_copy_76 ?_
      obtain ⟨v13, hv13, h⟩ := dq h
      refine cVi (As := []) (rest := []) ⟨hx, hb, hml, hown, hts⟩ (c_X1_count (dT := dT) (rs := rs) (g := g) (bh := bh) (c1 := c1) (c2 := v1.2.1) (re := v1.2.2) (pl := v5) (cl := y12.2) hD hv13) (cwV 0 hts (good_V sub_z k_683 k_684 k_685 k_8 k_686) rfl rfl rfl (by decide +kernel) (by decide)) (va_recv hK hP (ci := 1) (q0 := 39) rfl rfl) hK hP hS rfl hl.1 rfl (Nat.le_of_ble_eq_true rfl) dX8_copy_79 (by decide) (fun H locs hP hS => ?_)
      obtain rfl := Option.some.inj h
      exact rI hx hb hr hlk hK hP hS dX8_copy_82
    · rw [if_pos k4] at h
      refine lv_bipush (v := -7) hx hb dX8_copy_23 (by decide) ?_
      obtain rfl := Option.some.inj h
      exact rI hx hb hr hlk hK hP hS dX8_copy_25
  · rw [if_neg k2] at h
    refine lv_iload_n hx hb dX8_copy_10 rfl (lv_at hl 0 rfl) ?_
    obtain rfl := Option.some.inj h
    exact rI hx hb hr hlk hK hP hS dX8_copy_11

set_option maxRecDepth 100000 in
set_option maxHeartbeats 4000000 in
theorem c_X8_alter {l : Launch} {D : va_G} {dT : Nat → ClassId} {q : Nat → Nat} (hD : xD q) {rs : (Nat → tRow)} {g : tG_} {bh : tBH} {c1 : tC} {c2 : tC} {re : tRE} {pl : tPL} {cl : tCL} {a1 : Int32} {a2 : Int32} {v : Int32 × tCL} (h : f_X8_alter cl a1 a2 = some v) : MG l yX8_alter cX8_alter 3 (some .int) 1 [.ref (q 0), .int a1, .int a2] D (tyL dT) (wX dT q rs g bh c1 c2 re pl cl) (QI D (tyL dT) (xA q) (wX dT q rs g bh c1 c2 re pl v.2) v.1) (xA q) := by
  refine MG.mk (by decide +kernel) (Nat.le_of_ble_eq_true rfl) ?_
  intro p e s m below meth c hx hb hr hml hown hts hlk hK hP ls hl
  have hown : s.vm.findClass RX8 = some m.cls := hown
  have hS : va_S (xA q) s.heap s.heap [] := va_S.rf
  have hl : lv_has ls 3 [(0, .ref (q 0)), (1, .int a1), (2, .int a2)] := hl
  rw [f_X8_alter] at h
  refine lv_aload_n hx hb dX8_alter_0 rfl (lv_at hl 0 rfl) ?_
  refine va_get (D := D) (ci := 7) (v := .ref (q 39)) (C := RX8) (T := TX8) (N := 7) hx hb hts (fun w h => sub_z _ (inX8 w h)) hown hK hP 0 rfl rfl 6 (by decide) (hts _ (sub_z _ k_218)) (fun _ h => h) rfl dX8_alter_1 ?_
  refine lv_iload_n hx hb dX8_alter_4 rfl (lv_at hl 1 rfl) ?_
  obtain ⟨v1, hv1, h⟩ := dq h
  refine cVi (As := [.int a1]) (rest := []) ⟨hx, hb, hml, hown, hts⟩ (c_X1_has (dT := dT) (rs := rs) (g := g) (bh := bh) (c1 := c1) (c2 := c2) (re := re) (pl := pl) (cl := cl) hD hv1) (cwV 1 hts (good_V sub_z k_699 k_700 k_701 k_8 k_702) rfl rfl rfl (by decide +kernel) (by decide)) (va_recv hK hP (ci := 1) (q0 := 39) rfl rfl) hK hP hS rfl hl.1 rfl (Nat.le_of_ble_eq_true rfl) dX8_alter_5 (by decide) (fun H locs hP hS => ?_)
  refine lv_if_eq (tgt := 18) hx hb dX8_alter_8 (by decide) (fun k2 => ?_) (fun k2 => ?_)
  · rw [if_pos k2] at h
    refine lv_iconst (v := -1) hx hb dX8_alter_18 (by decide) ?_
    obtain rfl := Option.some.inj h
    exact rI hx hb hr hlk hK hP hS dX8_alter_19
  · rw [if_neg k2] at h
    refine lv_iload_n hx hb dX8_alter_11 rfl (lv_at hl 2 rfl) ?_
    obtain ⟨v3, hv3, h⟩ := dq h
    refine cSi (As := [.int a2]) (rest := []) ⟨hx, hb, hml, hown, hts⟩ (c_X4_isNone_x (dT := dT) (rs := rs) (g := g) (bh := bh) (c1 := c1) (c2 := c2) (re := re) (pl := pl) (cl := cl) hD hv3) (va_cwS 1 hts (good_S sub_z k_381 k_382 k_11 k_383) rfl rfl rfl (by decide +kernel) (by decide)) hK hP hS rfl hl.1 rfl (Nat.le_of_ble_eq_true rfl) dX8_alter_12 (by decide) (fun H locs hP hS => ?_)
    refine lv_if_eq (tgt := 20) hx hb dX8_alter_15 (by decide) (fun k4 => ?_) (fun k4 => ?_)
    · rw [if_pos k4] at h
      refine lv_aload_n hx hb dX8_alter_20 rfl (lv_at hl 0 rfl) ?_
      refine va_get (D := D) (ci := 7) (v := .ref (q 39)) (C := RX8) (T := TX8) (N := 7) hx hb hts (fun w h => sub_z _ (inX8 w h)) hown hK hP 0 rfl rfl 6 (by decide) (hts _ (sub_z _ k_218)) (fun _ h => h) rfl dX8_alter_21 ?_
      refine lv_iload_n hx hb dX8_alter_24 rfl (lv_at hl 1 rfl) ?_
      refine lv_iload_n hx hb dX8_alter_25 rfl (lv_at hl 2 rfl) ?_
      obtain ⟨v5, hv5, h⟩ := dq h
      refine cVv (As := [.int a1, .int a2]) (rest := []) ⟨hx, hb, hml, hown, hts⟩ (c_X1_change (dT := dT) (rs := rs) (g := g) (bh := bh) (c1 := c1) (c2 := c2) (re := re) (pl := pl) (cl := cl) hD hv5) (cwV 2 hts (good_V sub_z k_703 k_704 k_705 k_8 k_706) rfl rfl rfl (by decide +kernel) (by decide)) (va_recv hK hP (ci := 1) (q0 := 39) rfl rfl) hK hP hS rfl hl.1 rfl (Nat.le_of_ble_eq_true rfl) dX8_alter_26 (by decide) (fun H locs hP hS => ?_)
      refine lv_iconst (v := 1) hx hb dX8_alter_29 (by decide) ?_
      obtain rfl := Option.some.inj h
      exact rI hx hb hr hlk hK hP hS dX8_alter_30
    · rw [if_neg k4] at h
      refine lv_iconst (v := -1) hx hb dX8_alter_18 (by decide) ?_
      obtain rfl := Option.some.inj h
      exact rI hx hb hr hlk hK hP hS dX8_alter_19

set_option maxRecDepth 100000 in
set_option maxHeartbeats 4000000 in
theorem c_X8_unclaim {l : Launch} {D : va_G} {dT : Nat → ClassId} {q : Nat → Nat} (hD : xD q) {rs : (Nat → tRow)} {g : tG_} {bh : tBH} {c1 : tC} {c2 : tC} {re : tRE} {pl : tPL} {cl : tCL}  {v : Int32 × tCL} (h : f_X8_unclaim cl = some v) : MG l yX8_unclaim cX8_unclaim 2 (some .int) 1 [.ref (q 0)] D (tyL dT) (wX dT q rs g bh c1 c2 re pl cl) (QI D (tyL dT) (xA q) (wX dT q rs g bh c1 c2 re pl v.2) v.1) (xA q) := by
  refine MG.mk (by decide +kernel) (Nat.le_of_ble_eq_true rfl) ?_
  intro p e s m below meth c hx hb hr hml hown hts hlk hK hP ls hl
  have hown : s.vm.findClass RX8 = some m.cls := hown
  have hS : va_S (xA q) s.heap s.heap [] := va_S.rf
  have hl : lv_has ls 2 [(0, .ref (q 0))] := hl
  rw [f_X8_unclaim] at h
  refine lv_aload_n hx hb dX8_unclaim_0 rfl (lv_at hl 0 rfl) ?_
  refine va_get (D := D) (ci := 7) (v := .ref (q 39)) (C := RX8) (T := TX8) (N := 7) hx hb hts (fun w h => sub_z _ (inX8 w h)) hown hK hP 0 rfl rfl 6 (by decide) (hts _ (sub_z _ k_218)) (fun _ h => h) rfl dX8_unclaim_1 ?_
  obtain ⟨v1, hv1, h⟩ := dq h
  refine cVi (As := []) (rest := []) ⟨hx, hb, hml, hown, hts⟩ (c_X1_count (dT := dT) (rs := rs) (g := g) (bh := bh) (c1 := c1) (c2 := c2) (re := re) (pl := pl) (cl := cl) hD hv1) (cwV 0 hts (good_V sub_z k_683 k_684 k_685 k_8 k_686) rfl rfl rfl (by decide +kernel) (by decide)) (va_recv hK hP (ci := 1) (q0 := 39) rfl rfl) hK hP hS rfl hl.1 rfl (Nat.le_of_ble_eq_true rfl) dX8_unclaim_4 (by decide) (fun H locs hP hS => ?_)
  refine lv_istore_n (lv' := [(1, .int v1), (0, .ref (q 0))]) hx hb dX8_unclaim_7 rfl hl (by decide) rfl (fun ls hl => ?_)
  refine lv_aload_n hx hb dX8_unclaim_8 rfl (lv_at hl 1 rfl) ?_
  refine va_get (D := D) (ci := 7) (v := .ref (q 39)) (C := RX8) (T := TX8) (N := 7) hx hb hts (fun w h => sub_z _ (inX8 w h)) hown hK hP 0 rfl rfl 6 (by decide) (hts _ (sub_z _ k_218)) (fun _ h => h) rfl dX8_unclaim_9 ?_
  obtain ⟨v2, hv2, h⟩ := dq h
  refine cVv (As := []) (rest := []) ⟨hx, hb, hml, hown, hts⟩ (c_X1_removeAll (dT := dT) (rs := rs) (g := g) (bh := bh) (c1 := c1) (c2 := c2) (re := re) (pl := pl) (cl := cl) hD hv2) (cwV 0 hts (good_V sub_z k_691 k_692 k_693 k_8 k_694) rfl rfl rfl (by decide +kernel) (by decide)) (va_recv hK hP (ci := 1) (q0 := 39) rfl rfl) hK hP hS rfl hl.1 rfl (Nat.le_of_ble_eq_true rfl) dX8_unclaim_12 (by decide) (fun H locs hP hS => ?_)
  refine lv_iload_n hx hb dX8_unclaim_15 rfl (lv_at hl 0 rfl) ?_
  obtain rfl := Option.some.inj h
  exact rI hx hb hr hlk hK hP hS dX8_unclaim_16

set_option maxRecDepth 100000 in
set_option maxHeartbeats 4000000 in
theorem c_X8_check {l : Launch} {D : va_G} {dT : Nat → ClassId} {q : Nat → Nat} (hD : xD q) {rs : (Nat → tRow)} {g : tG_} {bh : tBH} {c1 : tC} {c2 : tC} {re : tRE} {pl : tPL} {cl : tCL}  {v : Int32 × tC} (h : f_X8_check g c2 cl = some v) : MG l yX8_check cX8_check 1 (some .int) 4 [.ref (q 0)] D (tyL dT) (wX dT q rs g bh c1 c2 re pl cl) (QI D (tyL dT) (xA q) (wX dT q rs g bh c1 v.2 re pl cl) v.1) (xA q) := by
  refine MG.mk (by decide +kernel) (Nat.le_of_ble_eq_true rfl) ?_
  intro p e s m below meth c hx hb hr hml hown hts hlk hK hP ls hl
  have hown : s.vm.findClass RX8 = some m.cls := hown
  have hS : va_S (xA q) s.heap s.heap [] := va_S.rf
  have hl : lv_has ls 1 [(0, .ref (q 0))] := hl
  rw [f_X8_check] at h
  refine lv_aload_n hx hb dX8_check_0 rfl (lv_at hl 0 rfl) ?_
  refine va_get (D := D) (ci := 7) (v := .ref (q 39)) (C := RX8) (T := TX8) (N := 7) hx hb hts (fun w h => sub_z _ (inX8 w h)) hown hK hP 0 rfl rfl 6 (by decide) (hts _ (sub_z _ k_218)) (fun _ h => h) rfl dX8_check_1 ?_
  refine lv_aload_n hx hb dX8_check_4 rfl (lv_at hl 0 rfl) ?_
  refine va_get (D := D) (ci := 7) (v := .ref (q 23)) (C := RX8) (T := TX8) (N := 7) hx hb hts (fun w h => sub_z _ (inX8 w h)) hown hK hP 0 rfl rfl 3 (by decide) (hts _ (sub_z _ k_215)) (fun _ h => h) rfl dX8_check_5 ?_
  obtain ⟨v1, hv1, h⟩ := dq h
  refine cVi (As := [.ref (q 23)]) (rest := []) ⟨hx, hb, hml, hown, hts⟩ (c_X1_goThrough (dT := dT) (rs := rs) (g := g) (bh := bh) (c1 := c1) (c2 := c2) (re := re) (pl := pl) (cl := cl) hD hv1) (cwV 1 hts (good_V sub_z k_715 k_716 k_717 k_8 k_718) rfl rfl rfl (by decide +kernel) (by decide)) (va_recv hK hP (ci := 1) (q0 := 39) rfl rfl) hK hP hS rfl hl.1 rfl (Nat.le_of_ble_eq_true rfl) dX8_check_8 (by decide) (fun H locs hP hS => ?_)
  obtain rfl := Option.some.inj h
  exact rI hx hb hr hlk hK hP hS dX8_check_11
