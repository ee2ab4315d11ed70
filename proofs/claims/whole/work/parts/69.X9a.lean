set_option maxRecDepth 100000 in
set_option maxHeartbeats 4000000 in
theorem c_X9_in {l : Launch} {D : va_G} {dT : Nat → ClassId} {q : Nat → Nat} (hD : mD q) {mr : tMR} {mg : tMG} {mc : tMC} {mn : tMN} {mh : tMH} {mf : tMF} {mp : tMP} {a0 : Int32} {a1 : Int32} {a2 : Int32} {v : Int32} (h : f_X9_in a0 a1 a2 = some v) : MG l yX9_in cX9_in 3 (some .boolean) 0 [.int a0, .int a1, .int a2] D (tyL dT) (wM dT q mr mg mc mn mh mf mp) (QI D (tyL dT) (mA q) (wM dT q mr mg mc mn mh mf mp) v) (mA q) := by
  refine MG.mk (by decide +kernel) (Nat.le_of_ble_eq_true rfl) ?_
  intro p e s m below meth c hx hb hr hml hown hts hlk hK hP ls hl
  have hown : s.vm.findClass RX9 = some m.cls := hown
  have hS : va_S (mA q) s.heap s.heap [] := va_S.rf
  have hl : lv_has ls 3 [(0, .int a0), (1, .int a1), (2, .int a2)] := hl
  rw [f_X9_in] at h
  refine lv_iload_n hx hb dX9_in_0 rfl (lv_at hl 0 rfl) ?_
  refine lv_iload_n hx hb dX9_in_1 rfl (lv_at hl 1 rfl) ?_
  refine lv_icmp_lt (tgt := 14) hx hb dX9_in_2 (by decide) (fun k1 => ?_) (fun k1 => ?_)
  · rw [if_pos k1] at h
    refine lv_iconst (v := 0) hx hb dX9_in_14 (by decide) ?_
    obtain rfl := Option.some.inj h
    exact rZ (v := (0 : Int32)) hx hb hr hlk rfl hK hP hS dX9_in_15
  · rw [if_neg k1] at h
    refine lv_iload_n hx hb dX9_in_5 rfl (lv_at hl 0 rfl) ?_
    refine lv_iload_n hx hb dX9_in_6 rfl (lv_at hl 2 rfl) ?_
    refine lv_icmp_gt (tgt := 14) hx hb dX9_in_7 (by decide) (fun k2 => ?_) (fun k2 => ?_)
    · rw [if_pos k2] at h
      refine lv_iconst (v := 0) hx hb dX9_in_14 (by decide) ?_
      obtain rfl := Option.some.inj h
      exact rZ (v := (0 : Int32)) hx hb hr hlk rfl hK hP hS dX9_in_15
    · rw [if_neg k2] at h
      refine lv_iconst (v := 1) hx hb dX9_in_10 (by decide) ?_
      refine lv_goto (tgt := 15) hx hb dX9_in_11 (by decide) ?_
      obtain rfl := Option.some.inj h
      exact rZ (v := (1 : Int32)) hx hb hr hlk rfl hK hP hS dX9_in_15

set_option maxRecDepth 100000 in
set_option maxHeartbeats 4000000 in
theorem c_X9_isRow {l : Launch} {D : va_G} {dT : Nat → ClassId} {q : Nat → Nat} (hD : mD q) {mr : tMR} {mg : tMG} {mc : tMC} {mn : tMN} {mh : tMH} {mf : tMF} {mp : tMP} {a0 : Int32} {v : Int32} (h : f_X9_isRow a0 = some v) : MG l yX9_isRow cX9_isRow 1 (some .boolean) 1 [.int a0] D (tyL dT) (wM dT q mr mg mc mn mh mf mp) (QI D (tyL dT) (mA q) (wM dT q mr mg mc mn mh mf mp) v) (mA q) := by
  refine MG.mk (by decide +kernel) (Nat.le_of_ble_eq_true rfl) ?_
  intro p e s m below meth c hx hb hr hml hown hts hlk hK hP ls hl
  have hown : s.vm.findClass RX9 = some m.cls := hown
  have hS : va_S (mA q) s.heap s.heap [] := va_S.rf
  have hl : lv_has ls 1 [(0, .int a0)] := hl
  rw [f_X9_isRow] at h
  refine lv_iload_n hx hb dX9_isRow_0 rfl (lv_at hl 0 rfl) ?_
  refine lv_iconst (v := 0) hx hb dX9_isRow_1 (by decide) ?_
  refine lv_iconst (v := 3) hx hb dX9_isRow_2 (by decide) ?_
  obtain ⟨v1, hv1, h⟩ := dq h
  refine cSi (As := [.int a0, .int (0 : Int32), .int (3 : Int32)]) (rest := []) ⟨hx, hb, hml, hown, hts⟩ (c_X9_in (dT := dT) (mr := mr) (mg := mg) (mc := mc) (mn := mn) (mh := mh) (mf := mf) (mp := mp) hD hv1) (va_cwS 3 hts (good_S sub_z k_837 k_838 k_9 k_839) rfl rfl rfl (by decide +kernel) (by decide)) hK hP hS rfl hl.1 rfl (Nat.le_of_ble_eq_true rfl) dX9_isRow_3 (by decide) (fun H locs hP hS => ?_)
  obtain ⟨k2, h⟩ := dg h
  obtain rfl := Option.some.inj h
  exact rZ hx hb hr hlk (isb_n k2) hK hP hS dX9_isRow_6

set_option maxRecDepth 100000 in
set_option maxHeartbeats 4000000 in
theorem c_X9_isGlass {l : Launch} {D : va_G} {dT : Nat → ClassId} {q : Nat → Nat} (hD : mD q) {mr : tMR} {mg : tMG} {mc : tMC} {mn : tMN} {mh : tMH} {mf : tMF} {mp : tMP} {a1 : Int32} {v : Int32} (h : f_X9_isGlass mg a1 = some v) : MG l yX9_isGlass cX9_isGlass 2 (some .boolean) 1 [.ref (q 0), .int a1] D (tyL dT) (wM dT q mr mg mc mn mh mf mp) (QI D (tyL dT) (mA q) (wM dT q mr mg mc mn mh mf mp) v) (mA q) := by
  refine MG.mk (by decide +kernel) (Nat.le_of_ble_eq_true rfl) ?_
  intro p e s m below meth c hx hb hr hml hown hts hlk hK hP ls hl
  have hown : s.vm.findClass RX9 = some m.cls := hown
  have hS : va_S (mA q) s.heap s.heap [] := va_S.rf
  have hl : lv_has ls 2 [(0, .ref (q 0)), (1, .int a1)] := hl
  rw [f_X9_isGlass] at h
  refine lv_iload_n hx hb dX9_isGlass_0 rfl (lv_at hl 1 rfl) ?_
  refine lv_iconst (v := 0) hx hb dX9_isGlass_1 (by decide) ?_
  refine lv_aload_n hx hb dX9_isGlass_2 rfl (lv_at hl 0 rfl) ?_
  refine va_get (D := D) (ci := 8) (v := .int mg.2.2.2) (C := RX9) (T := TX9) (N := 31) hx hb hts (fun w h => sub_z _ (inX9 w h)) hown hK hP 0 rfl rfl 6 (by decide) (hts _ (sub_z _ k_742)) (fun _ h => h) rfl dX9_isGlass_3 ?_
  refine lv_iconst (v := 1) hx hb dX9_isGlass_6 (by decide) ?_
  refine lv_isub hx hb dX9_isGlass_7 ?_
  obtain ⟨v1, hv1, h⟩ := dq h
  refine cSi (As := [.int a1, .int (0 : Int32), .int (mg.2.2.2 - (1 : Int32))]) (rest := []) ⟨hx, hb, hml, hown, hts⟩ (c_X9_in (dT := dT) (mr := mr) (mg := mg) (mc := mc) (mn := mn) (mh := mh) (mf := mf) (mp := mp) hD hv1) (va_cwS 3 hts (good_S sub_z k_837 k_838 k_9 k_839) rfl rfl rfl (by decide +kernel) (by decide)) hK hP hS rfl hl.1 rfl (Nat.le_of_ble_eq_true rfl) dX9_isGlass_8 (by decide) (fun H locs hP hS => ?_)
  obtain ⟨k2, h⟩ := dg h
  obtain rfl := Option.some.inj h
  exact rZ hx hb hr hlk (isb_n k2) hK hP hS dX9_isGlass_11

set_option maxRecDepth 100000 in
set_option maxHeartbeats 4000000 in
theorem c_X9_row {l : Launch} {D : va_G} {dT : Nat → ClassId} {q : Nat → Nat} (hD : mD q) {mr : tMR} {mg : tMG} {mc : tMC} {mn : tMN} {mh : tMH} {mf : tMF} {mp : tMP} {a1 : Int32} {a2 : Int32} {a3 : Int32} {v : Int32 × tMR} (h : f_X9_row mr a1 a2 a3 = some v) : MG l yX9_row cX9_row 5 (some .int) 2 [.ref (q 0), .int a1, .int a2, .int a3] D (tyL dT) (wM dT q mr mg mc mn mh mf mp) (QI D (tyL dT) (mA q) (wM dT q v.2 mg mc mn mh mf mp) v.1) (mA q) := by
  refine MG.mk (by decide +kernel) (Nat.le_of_ble_eq_true rfl) ?_
  intro p e s m below meth c hx hb hr hml hown hts hlk hK hP ls hl
  have hown : s.vm.findClass RX9 = some m.cls := hown
  have hS : va_S (mA q) s.heap s.heap [] := va_S.rf
  have hl : lv_has ls 5 [(0, .ref (q 0)), (1, .int a1), (2, .int a2), (3, .int a3)] := hl
  rw [f_X9_row] at h
  refine lv_iload_n hx hb dX9_row_0 rfl (lv_at hl 1 rfl) ?_
  obtain ⟨v1, hv1, h⟩ := dq h
  refine cSi (As := [.int a1]) (rest := []) ⟨hx, hb, hml, hown, hts⟩ (c_X9_isRow (dT := dT) (mr := mr) (mg := mg) (mc := mc) (mn := mn) (mh := mh) (mf := mf) (mp := mp) hD hv1) (va_cwS 1 hts (good_S sub_z k_834 k_835 k_9 k_836) rfl rfl rfl (by decide +kernel) (by decide)) hK hP hS rfl hl.1 rfl (Nat.le_of_ble_eq_true rfl) dX9_row_1 (by decide) (fun H locs hP hS => ?_)
  refine lv_if_eq (tgt := 16) hx hb dX9_row_4 (by decide) (fun k2 => ?_) (fun k2 => ?_)
  · rw [if_pos k2] at h
    refine lv_iconst (v := -1) hx hb dX9_row_16 (by decide) ?_
    obtain rfl := Option.some.inj h
    exact rI hx hb hr hlk hK hP hS dX9_row_17
  · rw [if_neg k2] at h
    refine lv_iload_n hx hb dX9_row_7 rfl (lv_at hl 2 rfl) ?_
    refine lv_iconst (v := 0) hx hb dX9_row_8 (by decide) ?_
    refine lv_iconst (v := 2) hx hb dX9_row_9 (by decide) ?_
    obtain ⟨v3, hv3, h⟩ := dq h
    refine cSi (As := [.int a2, .int (0 : Int32), .int (2 : Int32)]) (rest := []) ⟨hx, hb, hml, hown, hts⟩ (c_X9_in (dT := dT) (mr := mr) (mg := mg) (mc := mc) (mn := mn) (mh := mh) (mf := mf) (mp := mp) hD hv3) (va_cwS 3 hts (good_S sub_z k_837 k_838 k_9 k_839) rfl rfl rfl (by decide +kernel) (by decide)) hK hP hS rfl hl.1 rfl (Nat.le_of_ble_eq_true rfl) dX9_row_10 (by decide) (fun H locs hP hS => ?_)
    refine lv_if_ne (tgt := 18) hx hb dX9_row_13 (by decide) (fun k4 => ?_) (fun k4 => ?_)
    · rw [if_neg k4] at h
      refine lv_iload_n hx hb dX9_row_18 rfl (lv_at hl 3 rfl) ?_
      refine lv_if_ge (tgt := 25) hx hb dX9_row_19 (by decide) (fun k5 => ?_) (fun k5 => ?_)
      · rw [if_pos k5] at h
        refine lv_iload_n hx hb dX9_row_25 rfl (lv_at hl 3 rfl) ?_
        refine lv_bipush (v := 20) hx hb dX9_row_26 (by decide) ?_
        refine lv_icmp_le (tgt := 33) hx hb dX9_row_28 (by decide) (fun k6 => ?_) (fun k6 => ?_)
        · rw [if_pos k6] at h
          refine lv_aload_n hx hb dX9_row_33 rfl (lv_at hl 0 rfl) ?_
          refine va_get (D := D) (ci := 8) (v := .ref (q 1)) (C := RX9) (T := TX9) (N := 31) hx hb hts (fun w h => sub_z _ (inX9 w h)) hown hK hP 0 rfl rfl 0 (by decide) (hts _ (sub_z _ k_736)) (fun _ h => h) rfl dX9_row_34 ?_
          refine lv_iload_n hx hb dX9_row_37 rfl (lv_at hl 1 rfl) ?_
          refine lv_iload_n hx hb dX9_row_38 rfl (lv_at hl 2 rfl) ?_
          obtain ⟨k7, h⟩ := dg h
          refine va_iast (f := mr.1) hx hb hK hP (mD.w hD) hS 1 0 rfl rfl (inb_vp k7) dX9_row_39 (fun H locs hP _ hS => ?_)
          have hP : va_P D vwCl (wM dT q ((upd mr.1 a1.toNatClampNeg a2), mr.2.1, mr.2.2) mg mc mn mh mf mp) H := hP
          refine lv_aload_n hx hb dX9_row_40 rfl (lv_at hl 0 rfl) ?_
          refine va_get (D := D) (ci := 8) (v := .ref (q 2)) (C := RX9) (T := TX9) (N := 31) hx hb hts (fun w h => sub_z _ (inX9 w h)) hown hK hP 0 rfl rfl 1 (by decide) (hts _ (sub_z _ k_737)) (fun _ h => h) rfl dX9_row_41 ?_
          refine lv_iload_n hx hb dX9_row_44 rfl (lv_at hl 1 rfl) ?_
          refine lv_iload_n hx hb dX9_row_45 rfl (lv_at hl 3 rfl) ?_
          obtain ⟨k8, h⟩ := dg h
          refine va_iast (f := mr.2.1) hx hb hK hP (mD.w hD) hS 2 0 rfl rfl (inb_vp k8) dX9_row_46 (fun H locs hP _ hS => ?_)
          have hP : va_P D vwCl (wM dT q ((upd mr.1 a1.toNatClampNeg a2), (upd mr.2.1 a1.toNatClampNeg a3), mr.2.2) mg mc mn mh mf mp) H := hP
          refine lv_iconst (v := 0) hx hb dX9_row_47 (by decide) ?_
          refine lv_istore (lv' := [(4, .int (0 : Int32)), (0, .ref (q 0)), (1, .int a1), (2, .int a2), (3, .int a3)]) hx hb dX9_row_48 hl (by decide) rfl (fun ls hl => ?_)
          have hL50_11 : ∀ (n : Nat) (mr_50 : tMR) (x4_50 : Int32) (y : Int32 × tMR), f_X9_row_50 n mr_50 a1 a2 a3 x4_50 = some y → ∀ (ls : Array Slot) (H : Heap) (locs : List Loc), lv_has ls 5 [(0, .ref (q 0)), (1, .int a1), (2, .int a2), (3, .int a3), (4, .int x4_50)] → va_P D vwCl (wM dT q mr_50 mg mc mn mh mf mp) H → va_S (mA q) s.heap H locs → ∀ Q : State → Prop, (∀ (ls : Array Slot) (H : Heap) (locs : List Loc), lv_has ls 5 [(0, .ref (q 0)), (1, .int a1), (2, .int a2), (3, .int a3), (4, .int y.1)] → va_P D vwCl (wM dT q y.2 mg mc mn mh mf mp) H → va_S (mA q) s.heap H locs → W p l e (rmD 2) s m [.ref (q 0), .int a1, .int a2, .int a3].toArray below meth c H locs 0 0 Q (F0 m 75 ls [])) → W p l e (rmD 2) s m [.ref (q 0), .int a1, .int a2, .int a3].toArray below meth c H locs 0 0 Q (F0 m 50 ls []) := by
            intro n
            induction n with
            | zero => intro mr_50 x4_50 y h; exact absurd h (by simp [f_X9_row_50])
            | succ n ih =>
              intro mr_50 x4_50 y h ls H locs hl hP hS Q kk
              rw [f_X9_row_50] at h
              refine lv_iload hx hb dX9_row_50 (lv_at hl 4 rfl) ?_
              refine lv_iload_n hx hb dX9_row_52 rfl (lv_at hl 3 rfl) ?_
              refine lv_icmp_ge (tgt := 75) hx hb dX9_row_53 (by decide) (fun k9 => ?_) (fun k9 => ?_)
              · rw [if_pos k9] at h
                obtain rfl := Option.some.inj h
                exact kk _ _ _ (lv_sub hl [0, 1, 2, 3, 4] rfl) hP hS
              · rw [if_neg k9] at h
                refine lv_aload_n hx hb dX9_row_56 rfl (lv_at hl 0 rfl) ?_
                refine va_get (D := D) (ci := 8) (v := .ref (q 3)) (C := RX9) (T := TX9) (N := 31) hx hb hts (fun w h => sub_z _ (inX9 w h)) hown hK hP 0 rfl rfl 2 (by decide) (hts _ (sub_z _ k_738)) (fun _ h => h) rfl dX9_row_57 ?_
                refine lv_bipush (v := 20) hx hb dX9_row_60 (by decide) ?_
                refine lv_iload_n hx hb dX9_row_62 rfl (lv_at hl 1 rfl) ?_
                refine lv_imul hx hb dX9_row_63 ?_
                refine lv_iload hx hb dX9_row_64 (lv_at hl 4 rfl) ?_
                refine lv_iadd hx hb dX9_row_66 ?_
                refine lv_iconst (v := 1) hx hb dX9_row_67 (by decide) ?_
                obtain ⟨k10, h⟩ := dg h
                refine va_iast (f := mr_50.2.2) hx hb hK hP (mD.w hD) hS 3 0 rfl rfl (inb_vp k10) dX9_row_68 (fun H locs hP _ hS => ?_)
                have hP : va_P D vwCl (wM dT q (mr_50.1, mr_50.2.1, (upd mr_50.2.2 (((20 : Int32) * a1) + x4_50).toNatClampNeg (1 : Int32))) mg mc mn mh mf mp) H := hP
                refine lv_iinc (v := (x4_50 + (1 : Int32))) (lv' := [(4, .int (x4_50 + (1 : Int32))), (0, .ref (q 0)), (1, .int a1), (2, .int a2), (3, .int a3)]) hx hb dX9_row_69 hl (k := 4) rfl rfl (by decide) rfl (fun ls hl => ?_)
                refine lv_goto (tgt := 50) hx hb dX9_row_72 (by decide) ?_
                exact ih _ _ _ h _ _ _ (lv_sub hl [1, 2, 3, 4, 0] rfl) hP hS _ kk
          obtain ⟨y12, hy12, h⟩ := dq h
          refine hL50_11 _ _ _ _ hy12 _ _ _ (lv_sub hl [1, 2, 3, 4, 0] rfl) hP hS _ (fun ls H locs hl hP hS => ?_)
          refine lv_iconst (v := 1) hx hb dX9_row_75 (by decide) ?_
          obtain rfl := Option.some.inj h
          exact rI hx hb hr hlk hK hP hS dX9_row_76
        · rw [if_neg k6] at h
          refine lv_iconst (v := -1) hx hb dX9_row_31 (by decide) ?_
          obtain rfl := Option.some.inj h
          exact rI hx hb hr hlk hK hP hS dX9_row_32
      · rw [if_neg k5] at h
        refine lv_bipush (v := -4) hx hb dX9_row_22 (by decide) ?_
        obtain rfl := Option.some.inj h
        exact rI hx hb hr hlk hK hP hS dX9_row_24
    · rw [if_pos k4] at h
      refine lv_iconst (v := -1) hx hb dX9_row_16 (by decide) ?_
      obtain rfl := Option.some.inj h
      exact rI hx hb hr hlk hK hP hS dX9_row_17

set_option maxRecDepth 100000 in
set_option maxHeartbeats 4000000 in
theorem c_X9_cell {l : Launch} {D : va_G} {dT : Nat → ClassId} {q : Nat → Nat} (hD : mD q) {mr : tMR} {mg : tMG} {mc : tMC} {mn : tMN} {mh : tMH} {mf : tMF} {mp : tMP} {a1 : Int32} {a2 : Int32} {a3 : Int32} {v : Int32 × tMR} (h : f_X9_cell mr a1 a2 a3 = some v) : MG l yX9_cell cX9_cell 4 (some .int) 2 [.ref (q 0), .int a1, .int a2, .int a3] D (tyL dT) (wM dT q mr mg mc mn mh mf mp) (QI D (tyL dT) (mA q) (wM dT q v.2 mg mc mn mh mf mp) v.1) (mA q) := by
  refine MG.mk (by decide +kernel) (Nat.le_of_ble_eq_true rfl) ?_
  intro p e s m below meth c hx hb hr hml hown hts hlk hK hP ls hl
  have hown : s.vm.findClass RX9 = some m.cls := hown
  have hS : va_S (mA q) s.heap s.heap [] := va_S.rf
  have hl : lv_has ls 4 [(0, .ref (q 0)), (1, .int a1), (2, .int a2), (3, .int a3)] := hl
  rw [f_X9_cell] at h
  refine lv_iload_n hx hb dX9_cell_0 rfl (lv_at hl 1 rfl) ?_
  obtain ⟨v1, hv1, h⟩ := dq h
  refine cSi (As := [.int a1]) (rest := []) ⟨hx, hb, hml, hown, hts⟩ (c_X9_isRow (dT := dT) (mr := mr) (mg := mg) (mc := mc) (mn := mn) (mh := mh) (mf := mf) (mp := mp) hD hv1) (va_cwS 1 hts (good_S sub_z k_834 k_835 k_9 k_836) rfl rfl rfl (by decide +kernel) (by decide)) hK hP hS rfl hl.1 rfl (Nat.le_of_ble_eq_true rfl) dX9_cell_1 (by decide) (fun H locs hP hS => ?_)
  refine lv_if_ne (tgt := 9) hx hb dX9_cell_4 (by decide) (fun k2 => ?_) (fun k2 => ?_)
  · rw [if_neg k2] at h
    refine lv_aload_n hx hb dX9_cell_9 rfl (lv_at hl 0 rfl) ?_
    refine va_get (D := D) (ci := 8) (v := .ref (q 2)) (C := RX9) (T := TX9) (N := 31) hx hb hts (fun w h => sub_z _ (inX9 w h)) hown hK hP 0 rfl rfl 1 (by decide) (hts _ (sub_z _ k_737)) (fun _ h => h) rfl dX9_cell_10 ?_
    refine lv_iload_n hx hb dX9_cell_13 rfl (lv_at hl 1 rfl) ?_
    obtain ⟨k3, h⟩ := dg h
    refine va_iald (f := mr.2.1) hx hb hK hP 2 0 rfl rfl (inb_vp k3) dX9_cell_14 ?_
    refine lv_if_ge (tgt := 21) hx hb dX9_cell_15 (by decide) (fun k4 => ?_) (fun k4 => ?_)
    · rw [if_pos k4] at h
      refine lv_iload_n hx hb dX9_cell_21 rfl (lv_at hl 2 rfl) ?_
      refine lv_iconst (v := 0) hx hb dX9_cell_22 (by decide) ?_
      refine lv_aload_n hx hb dX9_cell_23 rfl (lv_at hl 0 rfl) ?_
      refine va_get (D := D) (ci := 8) (v := .ref (q 2)) (C := RX9) (T := TX9) (N := 31) hx hb hts (fun w h => sub_z _ (inX9 w h)) hown hK hP 0 rfl rfl 1 (by decide) (hts _ (sub_z _ k_737)) (fun _ h => h) rfl dX9_cell_24 ?_
      refine lv_iload_n hx hb dX9_cell_27 rfl (lv_at hl 1 rfl) ?_
      obtain ⟨k5, h⟩ := dg h
      refine va_iald (f := mr.2.1) hx hb hK hP 2 0 rfl rfl (inb_vp k5) dX9_cell_28 ?_
      refine lv_iconst (v := 1) hx hb dX9_cell_29 (by decide) ?_
      refine lv_isub hx hb dX9_cell_30 ?_
      obtain ⟨v6, hv6, h⟩ := dq h
      refine cSi (As := [.int a2, .int (0 : Int32), .int ((mr.2.1 a1.toNatClampNeg) - (1 : Int32))]) (rest := []) ⟨hx, hb, hml, hown, hts⟩ (c_X9_in (dT := dT) (mr := mr) (mg := mg) (mc := mc) (mn := mn) (mh := mh) (mf := mf) (mp := mp) hD hv6) (va_cwS 3 hts (good_S sub_z k_837 k_838 k_9 k_839) rfl rfl rfl (by decide +kernel) (by decide)) hK hP hS rfl hl.1 rfl (Nat.le_of_ble_eq_true rfl) dX9_cell_31 (by decide) (fun H locs hP hS => ?_)
      refine lv_if_ne (tgt := 39) hx hb dX9_cell_34 (by decide) (fun k7 => ?_) (fun k7 => ?_)
      · rw [if_neg k7] at h
        refine lv_aload_n hx hb dX9_cell_39 rfl (lv_at hl 0 rfl) ?_
        refine va_get (D := D) (ci := 8) (v := .ref (q 3)) (C := RX9) (T := TX9) (N := 31) hx hb hts (fun w h => sub_z _ (inX9 w h)) hown hK hP 0 rfl rfl 2 (by decide) (hts _ (sub_z _ k_738)) (fun _ h => h) rfl dX9_cell_40 ?_
        refine lv_bipush (v := 20) hx hb dX9_cell_43 (by decide) ?_
        refine lv_iload_n hx hb dX9_cell_45 rfl (lv_at hl 1 rfl) ?_
        refine lv_imul hx hb dX9_cell_46 ?_
        refine lv_iload_n hx hb dX9_cell_47 rfl (lv_at hl 2 rfl) ?_
        refine lv_iadd hx hb dX9_cell_48 ?_
        refine lv_aload_n hx hb dX9_cell_49 rfl (lv_at hl 0 rfl) ?_
        refine va_get (D := D) (ci := 8) (v := .ref (q 1)) (C := RX9) (T := TX9) (N := 31) hx hb hts (fun w h => sub_z _ (inX9 w h)) hown hK hP 0 rfl rfl 0 (by decide) (hts _ (sub_z _ k_736)) (fun _ h => h) rfl dX9_cell_50 ?_
        refine lv_iload_n hx hb dX9_cell_53 rfl (lv_at hl 1 rfl) ?_
        obtain ⟨k8, h⟩ := dg h
        refine va_iald (f := mr.1) hx hb hK hP 1 0 rfl rfl (inb_vp k8) dX9_cell_54 ?_
        refine lv_if_ne (tgt := 63) hx hb dX9_cell_55 (by decide) (fun k9 => ?_) (fun k9 => ?_)
        · rw [if_neg k9] at h
          refine lv_aload_n hx hb dX9_cell_63 rfl (lv_at hl 0 rfl) ?_
          refine va_get (D := D) (ci := 8) (v := .ref (q 1)) (C := RX9) (T := TX9) (N := 31) hx hb hts (fun w h => sub_z _ (inX9 w h)) hown hK hP 0 rfl rfl 0 (by decide) (hts _ (sub_z _ k_736)) (fun _ h => h) rfl dX9_cell_64 ?_
          refine lv_iload_n hx hb dX9_cell_67 rfl (lv_at hl 1 rfl) ?_
          obtain ⟨k10, h⟩ := dg h
          refine va_iald (f := mr.1) hx hb hK hP 1 0 rfl rfl (inb_vp k10) dX9_cell_68 ?_
          refine lv_iconst (v := 1) hx hb dX9_cell_69 (by decide) ?_
          refine lv_icmp_ne (tgt := 78) hx hb dX9_cell_70 (by decide) (fun k11 => ?_) (fun k11 => ?_)
          · rw [if_neg k11] at h
            refine lv_iload_n hx hb dX9_cell_78 rfl (lv_at hl 3 rfl) ?_
            obtain ⟨k12, h⟩ := dg h
            refine va_iast (f := mr.2.2) hx hb hK hP (mD.w hD) hS 3 0 rfl rfl (inb_vp k12) dX9_cell_79 (fun H locs hP _ hS => ?_)
            have hP : va_P D vwCl (wM dT q (mr.1, mr.2.1, (upd mr.2.2 (((20 : Int32) * a1) + a2).toNatClampNeg a3)) mg mc mn mh mf mp) H := hP
            refine lv_iconst (v := 1) hx hb dX9_cell_80 (by decide) ?_
            obtain rfl := Option.some.inj h
            exact rI hx hb hr hlk hK hP hS dX9_cell_81
          · rw [if_pos k11] at h
            refine lv_iload_n hx hb dX9_cell_73 rfl (lv_at hl 3 rfl) ?_
            refine lv_i2s (v := a3.toInt16.toInt32) hx hb dX9_cell_74 rfl ?_
            refine lv_goto (tgt := 79) hx hb dX9_cell_75 (by decide) ?_
            obtain ⟨k13, h⟩ := dg h
            refine va_iast (f := mr.2.2) hx hb hK hP (mD.w hD) hS 3 0 rfl rfl (inb_vp k13) dX9_cell_79 (fun H locs hP _ hS => ?_)
            have hP : va_P D vwCl (wM dT q (mr.1, mr.2.1, (upd mr.2.2 (((20 : Int32) * a1) + a2).toNatClampNeg a3.toInt16.toInt32)) mg mc mn mh mf mp) H := hP
            refine lv_iconst (v := 1) hx hb dX9_cell_80 (by decide) ?_
            obtain rfl := Option.some.inj h
            exact rI hx hb hr hlk hK hP hS dX9_cell_81
        · rw [if_pos k9] at h
          refine lv_iload_n hx hb dX9_cell_58 rfl (lv_at hl 3 rfl) ?_
          refine lv_i2b (v := a3.toInt8.toInt32) hx hb dX9_cell_59 rfl ?_
          refine lv_goto (tgt := 79) hx hb dX9_cell_60 (by decide) ?_
          obtain ⟨k14, h⟩ := dg h
          refine va_iast (f := mr.2.2) hx hb hK hP (mD.w hD) hS 3 0 rfl rfl (inb_vp k14) dX9_cell_79 (fun H locs hP _ hS => ?_)
          have hP : va_P D vwCl (wM dT q (mr.1, mr.2.1, (upd mr.2.2 (((20 : Int32) * a1) + a2).toNatClampNeg a3.toInt8.toInt32)) mg mc mn mh mf mp) H := hP
          refine lv_iconst (v := 1) hx hb dX9_cell_80 (by decide) ?_
          obtain rfl := Option.some.inj h
          exact rI hx hb hr hlk hK hP hS dX9_cell_81
      · rw [if_pos k7] at h
        refine lv_iconst (v := -1) hx hb dX9_cell_37 (by decide) ?_
        obtain rfl := Option.some.inj h
        exact rI hx hb hr hlk hK hP hS dX9_cell_38
    · rw [if_neg k4] at h
      refine lv_bipush (v := -3) hx hb dX9_cell_18 (by decide) ?_
      obtain rfl := Option.some.inj h
      exact rI hx hb hr hlk hK hP hS dX9_cell_20
  · rw [if_pos k2] at h
    refine lv_iconst (v := -1) hx hb dX9_cell_7 (by decide) ?_
    obtain rfl := Option.some.inj h
    exact rI hx hb hr hlk hK hP hS dX9_cell_8

set_option maxRecDepth 100000 in
set_option maxHeartbeats 4000000 in
theorem c_X9_told {l : Launch} {D : va_G} {dT : Nat → ClassId} {q : Nat → Nat} (hD : mD q) {mr : tMR} {mg : tMG} {mc : tMC} {mn : tMN} {mh : tMH} {mf : tMF} {mp : tMP} {a1 : Int32} {a2 : Int32} {v : Int32} (h : f_X9_told mr a1 a2 = some v) : MG l yX9_told cX9_told 3 (some .int) 2 [.ref (q 0), .int a1, .int a2] D (tyL dT) (wM dT q mr mg mc mn mh mf mp) (QI D (tyL dT) (mA q) (wM dT q mr mg mc mn mh mf mp) v) (mA q) := by
  refine MG.mk (by decide +kernel) (Nat.le_of_ble_eq_true rfl) ?_
  intro p e s m below meth c hx hb hr hml hown hts hlk hK hP ls hl
  have hown : s.vm.findClass RX9 = some m.cls := hown
  have hS : va_S (mA q) s.heap s.heap [] := va_S.rf
  have hl : lv_has ls 3 [(0, .ref (q 0)), (1, .int a1), (2, .int a2)] := hl
  rw [f_X9_told] at h
  refine lv_iload_n hx hb dX9_told_0 rfl (lv_at hl 1 rfl) ?_
  obtain ⟨v1, hv1, h⟩ := dq h
  refine cSi (As := [.int a1]) (rest := []) ⟨hx, hb, hml, hown, hts⟩ (c_X9_isRow (dT := dT) (mr := mr) (mg := mg) (mc := mc) (mn := mn) (mh := mh) (mf := mf) (mp := mp) hD hv1) (va_cwS 1 hts (good_S sub_z k_834 k_835 k_9 k_836) rfl rfl rfl (by decide +kernel) (by decide)) hK hP hS rfl hl.1 rfl (Nat.le_of_ble_eq_true rfl) dX9_told_1 (by decide) (fun H locs hP hS => ?_)
  refine lv_if_eq (tgt := 37) hx hb dX9_told_4 (by decide) (fun k2 => ?_) (fun k2 => ?_)
  · rw [if_pos k2] at h
    refine lv_ldc (v := -2147483648) hx hb hown (hts _ (sub_z _ k_848)) dX9_told_37 ?_
    obtain rfl := Option.some.inj h
    exact rI hx hb hr hlk hK hP hS dX9_told_39
  · rw [if_neg k2] at h
    refine lv_iload_n hx hb dX9_told_7 rfl (lv_at hl 2 rfl) ?_
    refine lv_iconst (v := 0) hx hb dX9_told_8 (by decide) ?_
    refine lv_aload_n hx hb dX9_told_9 rfl (lv_at hl 0 rfl) ?_
    refine va_get (D := D) (ci := 8) (v := .ref (q 2)) (C := RX9) (T := TX9) (N := 31) hx hb hts (fun w h => sub_z _ (inX9 w h)) hown hK hP 0 rfl rfl 1 (by decide) (hts _ (sub_z _ k_737)) (fun _ h => h) rfl dX9_told_10 ?_
    refine lv_iload_n hx hb dX9_told_13 rfl (lv_at hl 1 rfl) ?_
    obtain ⟨k3, h⟩ := dg h
    refine va_iald (f := mr.2.1) hx hb hK hP 2 0 rfl rfl (inb_vp k3) dX9_told_14 ?_
    refine lv_iconst (v := 1) hx hb dX9_told_15 (by decide) ?_
    refine lv_isub hx hb dX9_told_16 ?_
    obtain ⟨v4, hv4, h⟩ := dq h
    refine cSi (As := [.int a2, .int (0 : Int32), .int ((mr.2.1 a1.toNatClampNeg) - (1 : Int32))]) (rest := []) ⟨hx, hb, hml, hown, hts⟩ (c_X9_in (dT := dT) (mr := mr) (mg := mg) (mc := mc) (mn := mn) (mh := mh) (mf := mf) (mp := mp) hD hv4) (va_cwS 3 hts (good_S sub_z k_837 k_838 k_9 k_839) rfl rfl rfl (by decide +kernel) (by decide)) hK hP hS rfl hl.1 rfl (Nat.le_of_ble_eq_true rfl) dX9_told_17 (by decide) (fun H locs hP hS => ?_)
    refine lv_if_eq (tgt := 37) hx hb dX9_told_20 (by decide) (fun k5 => ?_) (fun k5 => ?_)
    · rw [if_pos k5] at h
      refine lv_ldc (v := -2147483648) hx hb hown (hts _ (sub_z _ k_848)) dX9_told_37 ?_
      obtain rfl := Option.some.inj h
      exact rI hx hb hr hlk hK hP hS dX9_told_39
    · rw [if_neg k5] at h
      refine lv_aload_n hx hb dX9_told_23 rfl (lv_at hl 0 rfl) ?_
      refine va_get (D := D) (ci := 8) (v := .ref (q 3)) (C := RX9) (T := TX9) (N := 31) hx hb hts (fun w h => sub_z _ (inX9 w h)) hown hK hP 0 rfl rfl 2 (by decide) (hts _ (sub_z _ k_738)) (fun _ h => h) rfl dX9_told_24 ?_
      refine lv_bipush (v := 20) hx hb dX9_told_27 (by decide) ?_
      refine lv_iload_n hx hb dX9_told_29 rfl (lv_at hl 1 rfl) ?_
      refine lv_imul hx hb dX9_told_30 ?_
      refine lv_iload_n hx hb dX9_told_31 rfl (lv_at hl 2 rfl) ?_
      refine lv_iadd hx hb dX9_told_32 ?_
      obtain ⟨k6, h⟩ := dg h
      refine va_iald (f := mr.2.2) hx hb hK hP 3 0 rfl rfl (inb_vp k6) dX9_told_33 ?_
      refine lv_goto (tgt := 39) hx hb dX9_told_34 (by decide) ?_
      obtain rfl := Option.some.inj h
      exact rI hx hb hr hlk hK hP hS dX9_told_39

set_option maxRecDepth 100000 in
set_option maxHeartbeats 4000000 in
theorem c_X9_lose {l : Launch} {D : va_G} {dT : Nat → ClassId} {q : Nat → Nat} (hD : mD q) {mr : tMR} {mg : tMG} {mc : tMC} {mn : tMN} {mh : tMH} {mf : tMF} {mp : tMP} {a1 : Int32} {v : Int32 × tMR} (h : f_X9_lose mr a1 = some v) : MG l yX9_lose cX9_lose 2 (some .int) 2 [.ref (q 0), .int a1] D (tyL dT) (wM dT q mr mg mc mn mh mf mp) (QI D (tyL dT) (mA q) (wM dT q v.2 mg mc mn mh mf mp) v.1) (mA q) := by
  refine MG.mk (by decide +kernel) (Nat.le_of_ble_eq_true rfl) ?_
  intro p e s m below meth c hx hb hr hml hown hts hlk hK hP ls hl
  have hown : s.vm.findClass RX9 = some m.cls := hown
  have hS : va_S (mA q) s.heap s.heap [] := va_S.rf
  have hl : lv_has ls 2 [(0, .ref (q 0)), (1, .int a1)] := hl
  rw [f_X9_lose] at h
  refine lv_iload_n hx hb dX9_lose_0 rfl (lv_at hl 1 rfl) ?_
  obtain ⟨v1, hv1, h⟩ := dq h
  refine cSi (As := [.int a1]) (rest := []) ⟨hx, hb, hml, hown, hts⟩ (c_X9_isRow (dT := dT) (mr := mr) (mg := mg) (mc := mc) (mn := mn) (mh := mh) (mf := mf) (mp := mp) hD hv1) (va_cwS 1 hts (good_S sub_z k_834 k_835 k_9 k_836) rfl rfl rfl (by decide +kernel) (by decide)) hK hP hS rfl hl.1 rfl (Nat.le_of_ble_eq_true rfl) dX9_lose_1 (by decide) (fun H locs hP hS => ?_)
  refine lv_if_ne (tgt := 9) hx hb dX9_lose_4 (by decide) (fun k2 => ?_) (fun k2 => ?_)
  · rw [if_neg k2] at h
    refine lv_aload_n hx hb dX9_lose_9 rfl (lv_at hl 0 rfl) ?_
    refine va_get (D := D) (ci := 8) (v := .ref (q 2)) (C := RX9) (T := TX9) (N := 31) hx hb hts (fun w h => sub_z _ (inX9 w h)) hown hK hP 0 rfl rfl 1 (by decide) (hts _ (sub_z _ k_737)) (fun _ h => h) rfl dX9_lose_10 ?_
    refine lv_iload_n hx hb dX9_lose_13 rfl (lv_at hl 1 rfl) ?_
    obtain ⟨k3, h⟩ := dg h
    refine va_iald (f := mr.2.1) hx hb hK hP 2 0 rfl rfl (inb_vp k3) dX9_lose_14 ?_
    refine lv_if_ge (tgt := 21) hx hb dX9_lose_15 (by decide) (fun k4 => ?_) (fun k4 => ?_)
    · rw [if_pos k4] at h
      refine lv_aload_n hx hb dX9_lose_21 rfl (lv_at hl 0 rfl) ?_
      refine va_get (D := D) (ci := 8) (v := .ref (q 2)) (C := RX9) (T := TX9) (N := 31) hx hb hts (fun w h => sub_z _ (inX9 w h)) hown hK hP 0 rfl rfl 1 (by decide) (hts _ (sub_z _ k_737)) (fun _ h => h) rfl dX9_lose_22 ?_
      refine lv_iload_n hx hb dX9_lose_25 rfl (lv_at hl 1 rfl) ?_
      refine lv_iconst (v := -1) hx hb dX9_lose_26 (by decide) ?_
      obtain ⟨k5, h⟩ := dg h
      refine va_iast (f := mr.2.1) hx hb hK hP (mD.w hD) hS 2 0 rfl rfl (inb_vp k5) dX9_lose_27 (fun H locs hP _ hS => ?_)
      have hP : va_P D vwCl (wM dT q (mr.1, (upd mr.2.1 a1.toNatClampNeg (-1 : Int32)), mr.2.2) mg mc mn mh mf mp) H := hP
      refine lv_iconst (v := 1) hx hb dX9_lose_28 (by decide) ?_
      obtain rfl := Option.some.inj h
      exact rI hx hb hr hlk hK hP hS dX9_lose_29
    · rw [if_neg k4] at h
      refine lv_bipush (v := -3) hx hb dX9_lose_18 (by decide) ?_
      obtain rfl := Option.some.inj h
      exact rI hx hb hr hlk hK hP hS dX9_lose_20
  · rw [if_pos k2] at h
    refine lv_iconst (v := -1) hx hb dX9_lose_7 (by decide) ?_
    obtain rfl := Option.some.inj h
    exact rI hx hb hr hlk hK hP hS dX9_lose_8

set_option maxRecDepth 100000 in
set_option maxHeartbeats 4000000 in
theorem c_X9_isGrains {l : Launch} {D : va_G} {dT : Nat → ClassId} {q : Nat → Nat} (hD : mD q) {mr : tMR} {mg : tMG} {mc : tMC} {mn : tMN} {mh : tMH} {mf : tMF} {mp : tMP} {a1 : Int32} {a2 : Int32} {v : Int32} (h : f_X9_isGrains mr a1 a2 = some v) : MG l yX9_isGrains cX9_isGrains 3 (some .boolean) 1 [.ref (q 0), .int a1, .int a2] D (tyL dT) (wM dT q mr mg mc mn mh mf mp) (QI D (tyL dT) (mA q) (wM dT q mr mg mc mn mh mf mp) v) (mA q) := by
  refine MG.mk (by decide +kernel) (Nat.le_of_ble_eq_true rfl) ?_
  intro p e s m below meth c hx hb hr hml hown hts hlk hK hP ls hl
  have hown : s.vm.findClass RX9 = some m.cls := hown
  have hS : va_S (mA q) s.heap s.heap [] := va_S.rf
  have hl : lv_has ls 3 [(0, .ref (q 0)), (1, .int a1), (2, .int a2)] := hl
  rw [f_X9_isGrains] at h
  refine lv_iload_n hx hb dX9_isGrains_0 rfl (lv_at hl 2 rfl) ?_
  refine lv_iconst (v := 0) hx hb dX9_isGrains_1 (by decide) ?_
  refine lv_aload_n hx hb dX9_isGrains_2 rfl (lv_at hl 0 rfl) ?_
  refine va_get (D := D) (ci := 8) (v := .ref (q 2)) (C := RX9) (T := TX9) (N := 31) hx hb hts (fun w h => sub_z _ (inX9 w h)) hown hK hP 0 rfl rfl 1 (by decide) (hts _ (sub_z _ k_737)) (fun _ h => h) rfl dX9_isGrains_3 ?_
  refine lv_iload_n hx hb dX9_isGrains_6 rfl (lv_at hl 1 rfl) ?_
  obtain ⟨k1, h⟩ := dg h
  refine va_iald (f := mr.2.1) hx hb hK hP 2 0 rfl rfl (inb_vp k1) dX9_isGrains_7 ?_
  refine lv_iconst (v := 1) hx hb dX9_isGrains_8 (by decide) ?_
  refine lv_isub hx hb dX9_isGrains_9 ?_
  obtain ⟨v2, hv2, h⟩ := dq h
  refine cSi (As := [.int a2, .int (0 : Int32), .int ((mr.2.1 a1.toNatClampNeg) - (1 : Int32))]) (rest := []) ⟨hx, hb, hml, hown, hts⟩ (c_X9_in (dT := dT) (mr := mr) (mg := mg) (mc := mc) (mn := mn) (mh := mh) (mf := mf) (mp := mp) hD hv2) (va_cwS 3 hts (good_S sub_z k_837 k_838 k_9 k_839) rfl rfl rfl (by decide +kernel) (by decide)) hK hP hS rfl hl.1 rfl (Nat.le_of_ble_eq_true rfl) dX9_isGrains_10 (by decide) (fun H locs hP hS => ?_)
  refine lv_if_eq (tgt := 40) hx hb dX9_isGrains_13 (by decide) (fun k3 => ?_) (fun k3 => ?_)
  · rw [if_pos k3] at h
    refine lv_iconst (v := 0) hx hb dX9_isGrains_40 (by decide) ?_
    obtain rfl := Option.some.inj h
    exact rZ (v := (0 : Int32)) hx hb hr hlk rfl hK hP hS dX9_isGrains_41
  · rw [if_neg k3] at h
    refine lv_aload_n hx hb dX9_isGrains_16 rfl (lv_at hl 0 rfl) ?_
    refine va_get (D := D) (ci := 8) (v := .ref (q 3)) (C := RX9) (T := TX9) (N := 31) hx hb hts (fun w h => sub_z _ (inX9 w h)) hown hK hP 0 rfl rfl 2 (by decide) (hts _ (sub_z _ k_738)) (fun _ h => h) rfl dX9_isGrains_17 ?_
    refine lv_bipush (v := 20) hx hb dX9_isGrains_20 (by decide) ?_
    refine lv_iload_n hx hb dX9_isGrains_22 rfl (lv_at hl 1 rfl) ?_
    refine lv_imul hx hb dX9_isGrains_23 ?_
    refine lv_iload_n hx hb dX9_isGrains_24 rfl (lv_at hl 2 rfl) ?_
    refine lv_iadd hx hb dX9_isGrains_25 ?_
    obtain ⟨k4, h⟩ := dg h
    refine va_iald (f := mr.2.2) hx hb hK hP 3 0 rfl rfl (inb_vp k4) dX9_isGrains_26 ?_
    refine lv_iconst (v := 1) hx hb dX9_isGrains_27 (by decide) ?_
    refine lv_bipush (v := 30) hx hb dX9_isGrains_28 (by decide) ?_
    obtain ⟨v5, hv5, h⟩ := dq h
    refine cSi (As := [.int (mr.2.2 (((20 : Int32) * a1) + a2).toNatClampNeg), .int (1 : Int32), .int (30 : Int32)]) (rest := []) ⟨hx, hb, hml, hown, hts⟩ (c_X9_in (dT := dT) (mr := mr) (mg := mg) (mc := mc) (mn := mn) (mh := mh) (mf := mf) (mp := mp) hD hv5) (va_cwS 3 hts (good_S sub_z k_837 k_838 k_9 k_839) rfl rfl rfl (by decide +kernel) (by decide)) hK hP hS rfl hl.1 rfl (Nat.le_of_ble_eq_true rfl) dX9_isGrains_30 (by decide) (fun H locs hP hS => ?_)
    refine lv_if_eq (tgt := 40) hx hb dX9_isGrains_33 (by decide) (fun k6 => ?_) (fun k6 => ?_)
    · rw [if_pos k6] at h
      refine lv_iconst (v := 0) hx hb dX9_isGrains_40 (by decide) ?_
      obtain rfl := Option.some.inj h
      exact rZ (v := (0 : Int32)) hx hb hr hlk rfl hK hP hS dX9_isGrains_41
    · rw [if_neg k6] at h
      refine lv_iconst (v := 1) hx hb dX9_isGrains_36 (by decide) ?_
      refine lv_goto (tgt := 41) hx hb dX9_isGrains_37 (by decide) ?_
      obtain rfl := Option.some.inj h
      exact rZ (v := (1 : Int32)) hx hb hr hlk rfl hK hP hS dX9_isGrains_41

set_option maxRecDepth 100000 in
set_option maxHeartbeats 4000000 in
theorem c_X9_start {l : Launch} {D : va_G} {dT : Nat → ClassId} {q : Nat → Nat} (hD : mD q) {mr : tMR} {mg : tMG} {mc : tMC} {mn : tMN} {mh : tMH} {mf : tMF} {mp : tMP}  {v : tMH} (h : f_X9_start mh = some v) : MG l yX9_start cX9_start 1 none 0 [.ref (q 0)] D (tyL dT) (wM dT q mr mg mc mn mh mf mp) (QV D (tyL dT) (mA q) (wM dT q mr mg mc mn v mf mp)) (mA q) := by
  refine MG.mk (by decide +kernel) (Nat.le_of_ble_eq_true rfl) ?_
  intro p e s m below meth c hx hb hr hml hown hts hlk hK hP ls hl
  have hown : s.vm.findClass RX9 = some m.cls := hown
  have hS : va_S (mA q) s.heap s.heap [] := va_S.rf
  have hl : lv_has ls 1 [(0, .ref (q 0))] := hl
  rw [f_X9_start] at h
  refine lv_aload_n hx hb dX9_start_0 rfl (lv_at hl 0 rfl) ?_
  refine lv_lconst (v := 0) hx hb dX9_start_1 (by decide) ?_
  refine va_put (D := D) (ci := 8) (v := .long (0 : Int64)) (ty := .long) (C := RX9) (T := TX9) (N := 31) hx hb hts (fun w h => sub_z _ (inX9 w h)) tyX9 tyX9_ok nmX9 hown hK hP (mD.w hD) hS 0 rfl rfl 12 (by decide) (hts _ (sub_z _ k_748)) (fun _ h => h) rfl (by decide +kernel) rfl rfl (Nat.le_of_ble_eq_true rfl) dX9_start_2 (fun H locs hP _ hS => ?_)
  have hP : va_P D vwCl (wM dT q mr mg mc mn ((0 : Int64), mh.2.1, mh.2.2.1, mh.2.2.2.1, mh.2.2.2.2.1, mh.2.2.2.2.2.1, mh.2.2.2.2.2.2.1, mh.2.2.2.2.2.2.2.1, mh.2.2.2.2.2.2.2.2.1, mh.2.2.2.2.2.2.2.2.2) mf mp) H := hP
  refine lv_aload_n hx hb dX9_start_5 rfl (lv_at hl 0 rfl) ?_
  refine lv_iconst (v := 0) hx hb dX9_start_6 (by decide) ?_
  refine va_put (D := D) (ci := 8) (v := .int (0 : Int32)) (ty := .int) (C := RX9) (T := TX9) (N := 31) hx hb hts (fun w h => sub_z _ (inX9 w h)) tyX9 tyX9_ok nmX9 hown hK hP (mD.w hD) hS 0 rfl rfl 13 (by decide) (hts _ (sub_z _ k_749)) (fun _ h => h) rfl (by decide +kernel) rfl rfl (Nat.le_of_ble_eq_true rfl) dX9_start_7 (fun H locs hP _ hS => ?_)
  have hP : va_P D vwCl (wM dT q mr mg mc mn ((0 : Int64), (0 : Int32), mh.2.2.1, mh.2.2.2.1, mh.2.2.2.2.1, mh.2.2.2.2.2.1, mh.2.2.2.2.2.2.1, mh.2.2.2.2.2.2.2.1, mh.2.2.2.2.2.2.2.2.1, mh.2.2.2.2.2.2.2.2.2) mf mp) H := hP
  refine lv_aload_n hx hb dX9_start_10 rfl (lv_at hl 0 rfl) ?_
  refine lv_iconst (v := 0) hx hb dX9_start_11 (by decide) ?_
  refine va_put (D := D) (ci := 8) (v := .int (0 : Int32)) (ty := .boolean) (C := RX9) (T := TX9) (N := 31) hx hb hts (fun w h => sub_z _ (inX9 w h)) tyX9 tyX9_ok nmX9 hown hK hP (mD.w hD) hS 0 rfl rfl 14 (by decide) (hts _ (sub_z _ k_750)) (fun _ h => h) rfl (by decide +kernel) rfl rfl (Nat.le_of_ble_eq_true rfl) dX9_start_12 (fun H locs hP _ hS => ?_)
  have hP : va_P D vwCl (wM dT q mr mg mc mn ((0 : Int64), (0 : Int32), (0 : Int32), mh.2.2.2.1, mh.2.2.2.2.1, mh.2.2.2.2.2.1, mh.2.2.2.2.2.2.1, mh.2.2.2.2.2.2.2.1, mh.2.2.2.2.2.2.2.2.1, mh.2.2.2.2.2.2.2.2.2) mf mp) H := hP
  refine lv_aload_n hx hb dX9_start_15 rfl (lv_at hl 0 rfl) ?_
  refine va_get (D := D) (ci := 8) (v := .ref (q 11)) (C := RX9) (T := TX9) (N := 31) hx hb hts (fun w h => sub_z _ (inX9 w h)) hown hK hP 0 rfl rfl 15 (by decide) (hts _ (sub_z _ k_751)) (fun _ h => h) rfl dX9_start_16 ?_
  refine lv_iconst (v := 0) hx hb dX9_start_19 (by decide) ?_
  refine lv_iconst (v := 0) hx hb dX9_start_20 (by decide) ?_
  obtain ⟨k1, h⟩ := dg h
  refine va_iast (f := mh.2.2.2.1) hx hb hK hP (mD.w hD) hS 11 0 rfl rfl (inb_vp k1) dX9_start_21 (fun H locs hP _ hS => ?_)
  have hP : va_P D vwCl (wM dT q mr mg mc mn ((0 : Int64), (0 : Int32), (0 : Int32), (upd mh.2.2.2.1 (0 : Int32).toNatClampNeg (0 : Int32)), mh.2.2.2.2.1, mh.2.2.2.2.2.1, mh.2.2.2.2.2.2.1, mh.2.2.2.2.2.2.2.1, mh.2.2.2.2.2.2.2.2.1, mh.2.2.2.2.2.2.2.2.2) mf mp) H := hP
  refine lv_aload_n hx hb dX9_start_22 rfl (lv_at hl 0 rfl) ?_
  refine lv_iconst (v := 1) hx hb dX9_start_23 (by decide) ?_
  refine va_put (D := D) (ci := 8) (v := .int (1 : Int32)) (ty := .int) (C := RX9) (T := TX9) (N := 31) hx hb hts (fun w h => sub_z _ (inX9 w h)) tyX9 tyX9_ok nmX9 hown hK hP (mD.w hD) hS 0 rfl rfl 16 (by decide) (hts _ (sub_z _ k_752)) (fun _ h => h) rfl (by decide +kernel) rfl rfl (Nat.le_of_ble_eq_true rfl) dX9_start_24 (fun H locs hP _ hS => ?_)
  have hP : va_P D vwCl (wM dT q mr mg mc mn ((0 : Int64), (0 : Int32), (0 : Int32), (upd mh.2.2.2.1 (0 : Int32).toNatClampNeg (0 : Int32)), (1 : Int32), mh.2.2.2.2.2.1, mh.2.2.2.2.2.2.1, mh.2.2.2.2.2.2.2.1, mh.2.2.2.2.2.2.2.2.1, mh.2.2.2.2.2.2.2.2.2) mf mp) H := hP
  refine lv_aload_n hx hb dX9_start_27 rfl (lv_at hl 0 rfl) ?_
  refine lv_iconst (v := 0) hx hb dX9_start_28 (by decide) ?_
  refine va_put (D := D) (ci := 8) (v := .int (0 : Int32)) (ty := .int) (C := RX9) (T := TX9) (N := 31) hx hb hts (fun w h => sub_z _ (inX9 w h)) tyX9 tyX9_ok nmX9 hown hK hP (mD.w hD) hS 0 rfl rfl 21 (by decide) (hts _ (sub_z _ k_757)) (fun _ h => h) rfl (by decide +kernel) rfl rfl (Nat.le_of_ble_eq_true rfl) dX9_start_29 (fun H locs hP _ hS => ?_)
  have hP : va_P D vwCl (wM dT q mr mg mc mn ((0 : Int64), (0 : Int32), (0 : Int32), (upd mh.2.2.2.1 (0 : Int32).toNatClampNeg (0 : Int32)), (1 : Int32), mh.2.2.2.2.2.1, mh.2.2.2.2.2.2.1, mh.2.2.2.2.2.2.2.1, mh.2.2.2.2.2.2.2.2.1, (0 : Int32)) mf mp) H := hP
  obtain rfl := Option.some.inj h
  exact rV hx hb hr hlk hK hP hS dX9_start_32

set_option maxRecDepth 100000 in
set_option maxHeartbeats 4000000 in
theorem c_X9_glass {l : Launch} {D : va_G} {dT : Nat → ClassId} {q : Nat → Nat} (hD : mD q) {mr : tMR} {mg : tMG} {mc : tMC} {mn : tMN} {mh : tMH} {mf : tMF} {mp : tMP} {a1 : Int32} {a2 : Int32} {a3 : Int32} {a4 : Int32} {v : Int32 × tMG × tMH × tMF} (h : f_X9_glass mr mg mh mf a1 a2 a3 a4 = some v) : MG l yX9_glass cX9_glass 5 (some .int) 2 [.ref (q 0), .int a1, .int a2, .int a3, .int a4] D (tyL dT) (wM dT q mr mg mc mn mh mf mp) (QI D (tyL dT) (mA q) (wM dT q mr v.2.1 mc mn v.2.2.1 v.2.2.2 mp) v.1) (mA q) := by
  refine MG.mk (by decide +kernel) (Nat.le_of_ble_eq_true rfl) ?_
  intro p e s m below meth c hx hb hr hml hown hts hlk hK hP ls hl
  have hown : s.vm.findClass RX9 = some m.cls := hown
  have hS : va_S (mA q) s.heap s.heap [] := va_S.rf
  have hl : lv_has ls 5 [(0, .ref (q 0)), (1, .int a1), (2, .int a2), (3, .int a3), (4, .int a4)] := hl
  rw [f_X9_glass] at h
  refine lv_iload_n hx hb dX9_glass_0 rfl (lv_at hl 2 rfl) ?_
  obtain ⟨v1, hv1, h⟩ := dq h
  refine cSi (As := [.int a2]) (rest := []) ⟨hx, hb, hml, hown, hts⟩ (c_X9_isRow (dT := dT) (mr := mr) (mg := mg) (mc := mc) (mn := mn) (mh := mh) (mf := mf) (mp := mp) hD hv1) (va_cwS 1 hts (good_S sub_z k_834 k_835 k_9 k_836) rfl rfl rfl (by decide +kernel) (by decide)) hK hP hS rfl hl.1 rfl (Nat.le_of_ble_eq_true rfl) dX9_glass_1 (by decide) (fun H locs hP hS => ?_)
  refine lv_if_eq (tgt := 16) hx hb dX9_glass_4 (by decide) (fun k2 => ?_) (fun k2 => ?_)
  · rw [if_pos k2] at h
    refine lv_iconst (v := -1) hx hb dX9_glass_16 (by decide) ?_
    obtain rfl := Option.some.inj h
    exact rI hx hb hr hlk hK hP hS dX9_glass_17
  · rw [if_neg k2] at h
    refine lv_iload_n hx hb dX9_glass_7 rfl (lv_at hl 1 rfl) ?_
    refine lv_iconst (v := 0) hx hb dX9_glass_8 (by decide) ?_
    refine lv_iconst (v := 4) hx hb dX9_glass_9 (by decide) ?_
    obtain ⟨v3, hv3, h⟩ := dq h
    refine cSi (As := [.int a1, .int (0 : Int32), .int (4 : Int32)]) (rest := []) ⟨hx, hb, hml, hown, hts⟩ (c_X9_in (dT := dT) (mr := mr) (mg := mg) (mc := mc) (mn := mn) (mh := mh) (mf := mf) (mp := mp) hD hv3) (va_cwS 3 hts (good_S sub_z k_837 k_838 k_9 k_839) rfl rfl rfl (by decide +kernel) (by decide)) hK hP hS rfl hl.1 rfl (Nat.le_of_ble_eq_true rfl) dX9_glass_10 (by decide) (fun H locs hP hS => ?_)
    refine lv_if_ne (tgt := 18) hx hb dX9_glass_13 (by decide) (fun k4 => ?_) (fun k4 => ?_)
    · rw [if_neg k4] at h
      refine lv_aload_n hx hb dX9_glass_18 rfl (lv_at hl 0 rfl) ?_
      refine va_get (D := D) (ci := 8) (v := .ref (q 2)) (C := RX9) (T := TX9) (N := 31) hx hb hts (fun w h => sub_z _ (inX9 w h)) hown hK hP 0 rfl rfl 1 (by decide) (hts _ (sub_z _ k_737)) (fun _ h => h) rfl dX9_glass_19 ?_
      refine lv_iload_n hx hb dX9_glass_22 rfl (lv_at hl 2 rfl) ?_
      obtain ⟨k5, h⟩ := dg h
      refine va_iald (f := mr.2.1) hx hb hK hP 2 0 rfl rfl (inb_vp k5) dX9_glass_23 ?_
      refine lv_if_ge (tgt := 30) hx hb dX9_glass_24 (by decide) (fun k6 => ?_) (fun k6 => ?_)
      · rw [if_pos k6] at h
        refine lv_aload_n hx hb dX9_glass_30 rfl (lv_at hl 0 rfl) ?_
        refine lv_iload_n hx hb dX9_glass_31 rfl (lv_at hl 2 rfl) ?_
        refine lv_iload_n hx hb dX9_glass_32 rfl (lv_at hl 3 rfl) ?_
        obtain ⟨v7, hv7, h⟩ := dq h
        refine cVi (As := [.int a2, .int a3]) (rest := []) ⟨hx, hb, hml, hown, hts⟩ (c_X9_isGrains (dT := dT) (mr := mr) (mg := mg) (mc := mc) (mn := mn) (mh := mh) (mf := mf) (mp := mp) hD hv7) (cwV 2 hts (good_V sub_z k_857 k_859 ks_20 k_9 k_860) rfl rfl rfl (by decide +kernel) (by decide)) (va_recv hK hP (ci := 8) (q0 := 0) rfl rfl) hK hP hS rfl hl.1 rfl (Nat.le_of_ble_eq_true rfl) dX9_glass_33 (by decide) (fun H locs hP hS => ?_)
        refine lv_if_eq (tgt := 69) hx hb dX9_glass_36 (by decide) (fun k8 => ?_) (fun k8 => ?_)
        · rw [if_pos k8] at h
          refine lv_iconst (v := -1) hx hb dX9_glass_69 (by decide) ?_
          obtain rfl := Option.some.inj h
          exact rI hx hb hr hlk hK hP hS dX9_glass_70
        · rw [if_neg k8] at h
          refine lv_iload_n hx hb dX9_glass_39 rfl (lv_at hl 1 rfl) ?_
          refine lv_iconst (v := 1) hx hb dX9_glass_40 (by decide) ?_
          refine lv_icmp_ne (tgt := 53) hx hb dX9_glass_41 (by decide) (fun k9 => ?_) (fun k9 => ?_)
          · rw [if_neg k9] at h
            refine lv_iload_n hx hb dX9_glass_53 rfl (lv_at hl 1 rfl) ?_
            refine lv_iconst (v := 4) hx hb dX9_glass_54 (by decide) ?_
            refine lv_icmp_ne (tgt := 71) hx hb dX9_glass_55 (by decide) (fun k10 => ?_) (fun k10 => ?_)
            · rw [if_neg k10] at h
              refine lv_aload_n hx hb dX9_glass_71 rfl (lv_at hl 0 rfl) ?_
              refine va_get (D := D) (ci := 8) (v := .int mg.2.2.2) (C := RX9) (T := TX9) (N := 31) hx hb hts (fun w h => sub_z _ (inX9 w h)) hown hK hP 0 rfl rfl 6 (by decide) (hts _ (sub_z _ k_742)) (fun _ h => h) rfl dX9_glass_72 ?_
              refine lv_iconst (v := 4) hx hb dX9_glass_75 (by decide) ?_
              refine lv_icmp_ne (tgt := 82) hx hb dX9_glass_76 (by decide) (fun k11 => ?_) (fun k11 => ?_)
              · rw [if_neg k11] at h
                refine lv_aload_n hx hb dX9_glass_82 rfl (lv_at hl 0 rfl) ?_
                refine va_get (D := D) (ci := 8) (v := .ref (q 4)) (C := RX9) (T := TX9) (N := 31) hx hb hts (fun w h => sub_z _ (inX9 w h)) hown hK hP 0 rfl rfl 3 (by decide) (hts _ (sub_z _ k_739)) (fun _ h => h) rfl dX9_glass_83 ?_
                refine lv_aload_n hx hb dX9_glass_86 rfl (lv_at hl 0 rfl) ?_
                refine va_get (D := D) (ci := 8) (v := .int mg.2.2.2) (C := RX9) (T := TX9) (N := 31) hx hb hts (fun w h => sub_z _ (inX9 w h)) hown hK hP 0 rfl rfl 6 (by decide) (hts _ (sub_z _ k_742)) (fun _ h => h) rfl dX9_glass_87 ?_
                refine lv_iload_n hx hb dX9_glass_90 rfl (lv_at hl 1 rfl) ?_
                obtain ⟨k12, h⟩ := dg h
                refine va_iast (f := mg.1) hx hb hK hP (mD.w hD) hS 4 0 rfl rfl (inb_vp k12) dX9_glass_91 (fun H locs hP _ hS => ?_)
                have hP : va_P D vwCl (wM dT q mr ((upd mg.1 mg.2.2.2.toNatClampNeg a1), mg.2.1, mg.2.2.1, mg.2.2.2) mc mn mh mf mp) H := hP
                refine lv_aload_n hx hb dX9_glass_92 rfl (lv_at hl 0 rfl) ?_
                refine va_get (D := D) (ci := 8) (v := .ref (q 5)) (C := RX9) (T := TX9) (N := 31) hx hb hts (fun w h => sub_z _ (inX9 w h)) hown hK hP 0 rfl rfl 4 (by decide) (hts _ (sub_z _ k_740)) (fun _ h => h) rfl dX9_glass_93 ?_
                refine lv_aload_n hx hb dX9_glass_96 rfl (lv_at hl 0 rfl) ?_
                refine va_get (D := D) (ci := 8) (v := .int mg.2.2.2) (C := RX9) (T := TX9) (N := 31) hx hb hts (fun w h => sub_z _ (inX9 w h)) hown hK hP 0 rfl rfl 6 (by decide) (hts _ (sub_z _ k_742)) (fun _ h => h) rfl dX9_glass_97 ?_
                refine lv_aload_n hx hb dX9_glass_100 rfl (lv_at hl 0 rfl) ?_
                refine va_get (D := D) (ci := 8) (v := .ref (q 3)) (C := RX9) (T := TX9) (N := 31) hx hb hts (fun w h => sub_z _ (inX9 w h)) hown hK hP 0 rfl rfl 2 (by decide) (hts _ (sub_z _ k_738)) (fun _ h => h) rfl dX9_glass_101 ?_
                refine lv_bipush (v := 20) hx hb dX9_glass_104 (by decide) ?_
                refine lv_iload_n hx hb dX9_glass_106 rfl (lv_at hl 2 rfl) ?_
                refine lv_imul hx hb dX9_glass_107 ?_
                refine lv_iload_n hx hb dX9_glass_108 rfl (lv_at hl 3 rfl) ?_
                refine lv_iadd hx hb dX9_glass_109 ?_
                obtain ⟨k13, h⟩ := dg h
                refine va_iald (f := mr.2.2) hx hb hK hP 3 0 rfl rfl (inb_vp k13) dX9_glass_110 ?_
                obtain ⟨k14, h⟩ := dg h
                refine va_iast (f := mg.2.1) hx hb hK hP (mD.w hD) hS 5 0 rfl rfl (inb_vp k14) dX9_glass_111 (fun H locs hP _ hS => ?_)
                have hP : va_P D vwCl (wM dT q mr ((upd mg.1 mg.2.2.2.toNatClampNeg a1), (upd mg.2.1 mg.2.2.2.toNatClampNeg (mr.2.2 (((20 : Int32) * a2) + a3).toNatClampNeg)), mg.2.2.1, mg.2.2.2) mc mn mh mf mp) H := hP
                refine lv_aload_n hx hb dX9_glass_112 rfl (lv_at hl 0 rfl) ?_
                refine va_get (D := D) (ci := 8) (v := .ref (q 6)) (C := RX9) (T := TX9) (N := 31) hx hb hts (fun w h => sub_z _ (inX9 w h)) hown hK hP 0 rfl rfl 5 (by decide) (hts _ (sub_z _ k_741)) (fun _ h => h) rfl dX9_glass_113 ?_
                refine lv_aload_n hx hb dX9_glass_116 rfl (lv_at hl 0 rfl) ?_
                refine va_get (D := D) (ci := 8) (v := .int mg.2.2.2) (C := RX9) (T := TX9) (N := 31) hx hb hts (fun w h => sub_z _ (inX9 w h)) hown hK hP 0 rfl rfl 6 (by decide) (hts _ (sub_z _ k_742)) (fun _ h => h) rfl dX9_glass_117 ?_
                refine lv_iload_n hx hb dX9_glass_120 rfl (lv_at hl 1 rfl) ?_
                refine lv_iconst (v := 1) hx hb dX9_glass_121 (by decide) ?_
                refine lv_icmp_eq (tgt := 130) hx hb dX9_glass_122 (by decide) (fun k15 => ?_) (fun k15 => ?_)
                · rw [if_pos k15] at h
                  refine lv_iload hx hb dX9_glass_130 (lv_at hl 4 rfl) ?_
                  refine lv_goto (tgt := 136) hx hb dX9_glass_132 (by decide) ?_
                  obtain ⟨k16, h⟩ := dg h
                  refine va_iast (f := mg.2.2.1) hx hb hK hP (mD.w hD) hS 6 0 rfl rfl (inb_vp k16) dX9_glass_136 (fun H locs hP _ hS => ?_)
                  have hP : va_P D vwCl (wM dT q mr ((upd mg.1 mg.2.2.2.toNatClampNeg a1), (upd mg.2.1 mg.2.2.2.toNatClampNeg (mr.2.2 (((20 : Int32) * a2) + a3).toNatClampNeg)), (upd mg.2.2.1 mg.2.2.2.toNatClampNeg a4), mg.2.2.2) mc mn mh mf mp) H := hP
                  refine lv_aload_n hx hb dX9_glass_137 rfl (lv_at hl 0 rfl) ?_
                  refine lv_dup hx hb dX9_glass_138 rfl ?_
                  refine va_get (D := D) (ci := 8) (v := .int mg.2.2.2) (C := RX9) (T := TX9) (N := 31) hx hb hts (fun w h => sub_z _ (inX9 w h)) hown hK hP 0 rfl rfl 6 (by decide) (hts _ (sub_z _ k_742)) (fun _ h => h) rfl dX9_glass_139 ?_
                  refine lv_iconst (v := 1) hx hb dX9_glass_142 (by decide) ?_
                  refine lv_iadd hx hb dX9_glass_143 ?_
                  refine va_put (D := D) (ci := 8) (v := .int (mg.2.2.2 + (1 : Int32))) (ty := .int) (C := RX9) (T := TX9) (N := 31) hx hb hts (fun w h => sub_z _ (inX9 w h)) tyX9 tyX9_ok nmX9 hown hK hP (mD.w hD) hS 0 rfl rfl 6 (by decide) (hts _ (sub_z _ k_742)) (fun _ h => h) rfl (by decide +kernel) rfl rfl (Nat.le_of_ble_eq_true rfl) dX9_glass_144 (fun H locs hP _ hS => ?_)
                  have hP : va_P D vwCl (wM dT q mr ((upd mg.1 mg.2.2.2.toNatClampNeg a1), (upd mg.2.1 mg.2.2.2.toNatClampNeg (mr.2.2 (((20 : Int32) * a2) + a3).toNatClampNeg)), (upd mg.2.2.1 mg.2.2.2.toNatClampNeg a4), (mg.2.2.2 + (1 : Int32))) mc mn mh mf mp) H := hP
                  refine lv_aload_n hx hb dX9_glass_147 rfl (lv_at hl 0 rfl) ?_
                  refine lv_iconst (v := 0) hx hb dX9_glass_148 (by decide) ?_
                  refine va_put (D := D) (ci := 8) (v := .int (0 : Int32)) (ty := .boolean) (C := RX9) (T := TX9) (N := 31) hx hb hts (fun w h => sub_z _ (inX9 w h)) tyX9 tyX9_ok nmX9 hown hK hP (mD.w hD) hS 0 rfl rfl 22 (by decide) (hts _ (sub_z _ k_758)) (fun _ h => h) rfl (by decide +kernel) rfl rfl (Nat.le_of_ble_eq_true rfl) dX9_glass_149 (fun H locs hP _ hS => ?_)
                  have hP : va_P D vwCl (wM dT q mr ((upd mg.1 mg.2.2.2.toNatClampNeg a1), (upd mg.2.1 mg.2.2.2.toNatClampNeg (mr.2.2 (((20 : Int32) * a2) + a3).toNatClampNeg)), (upd mg.2.2.1 mg.2.2.2.toNatClampNeg a4), (mg.2.2.2 + (1 : Int32))) mc mn mh ((0 : Int32), mf.2.1, mf.2.2.1, mf.2.2.2.1, mf.2.2.2.2.1, mf.2.2.2.2.2.1, mf.2.2.2.2.2.2.1, mf.2.2.2.2.2.2.2) mp) H := hP
                  refine lv_aload_n hx hb dX9_glass_152 rfl (lv_at hl 0 rfl) ?_
                  obtain ⟨v17, hv17, h⟩ := dq h
                  refine cVv (As := []) (rest := []) ⟨hx, hb, hml, hown, hts⟩ (c_X9_start (dT := dT) (mr := mr) (mg := ((upd mg.1 mg.2.2.2.toNatClampNeg a1), (upd mg.2.1 mg.2.2.2.toNatClampNeg (mr.2.2 (((20 : Int32) * a2) + a3).toNatClampNeg)), (upd mg.2.2.1 mg.2.2.2.toNatClampNeg a4), (mg.2.2.2 + (1 : Int32)))) (mc := mc) (mn := mn) (mh := mh) (mf := ((0 : Int32), mf.2.1, mf.2.2.1, mf.2.2.2.1, mf.2.2.2.2.1, mf.2.2.2.2.2.1, mf.2.2.2.2.2.2.1, mf.2.2.2.2.2.2.2)) (mp := mp) hD hv17) (cwV 0 hts (good_V sub_z k_732 k_734 ks_19 k_9 k_735) rfl rfl rfl (by decide +kernel) (by decide)) (va_recv hK hP (ci := 8) (q0 := 0) rfl rfl) hK hP hS rfl hl.1 rfl (Nat.le_of_ble_eq_true rfl) dX9_glass_153 (by decide) (fun H locs hP hS => ?_)
                  refine lv_aload_n hx hb dX9_glass_156 rfl (lv_at hl 0 rfl) ?_
                  refine va_get (D := D) (ci := 8) (v := .int (mg.2.2.2 + (1 : Int32))) (C := RX9) (T := TX9) (N := 31) hx hb hts (fun w h => sub_z _ (inX9 w h)) hown hK hP 0 rfl rfl 6 (by decide) (hts _ (sub_z _ k_742)) (fun _ h => h) rfl dX9_glass_157 ?_
                  refine lv_iconst (v := 1) hx hb dX9_glass_160 (by decide) ?_
                  refine lv_isub hx hb dX9_glass_161 ?_
                  obtain rfl := Option.some.inj h
                  exact rI hx hb hr hlk hK hP hS dX9_glass_162
                · rw [if_neg k15] at h
                  refine lv_iload_n hx hb dX9_glass_125 rfl (lv_at hl 1 rfl) ?_
                  refine lv_iconst (v := 4) hx hb dX9_glass_126 (by decide) ?_
                  refine lv_icmp_ne (tgt := 135) hx hb dX9_glass_127 (by decide) (fun k18 => ?_) (fun k18 => ?_)
                  · rw [if_neg k18] at h
                    refine lv_iconst (v := -1) hx hb dX9_glass_135 (by decide) ?_
                    obtain ⟨k19, h⟩ := dg h
                    refine va_iast (f := mg.2.2.1) hx hb hK hP (mD.w hD) hS 6 0 rfl rfl (inb_vp k19) dX9_glass_136 (fun H locs hP _ hS => ?_)
                    have hP : va_P D vwCl (wM dT q mr ((upd mg.1 mg.2.2.2.toNatClampNeg a1), (upd mg.2.1 mg.2.2.2.toNatClampNeg (mr.2.2 (((20 : Int32) * a2) + a3).toNatClampNeg)), (upd mg.2.2.1 mg.2.2.2.toNatClampNeg (-1 : Int32)), mg.2.2.2) mc mn mh mf mp) H := hP
                    refine lv_aload_n hx hb dX9_glass_137 rfl (lv_at hl 0 rfl) ?_
                    refine lv_dup hx hb dX9_glass_138 rfl ?_
                    refine va_get (D := D) (ci := 8) (v := .int mg.2.2.2) (C := RX9) (T := TX9) (N := 31) hx hb hts (fun w h => sub_z _ (inX9 w h)) hown hK hP 0 rfl rfl 6 (by decide) (hts _ (sub_z _ k_742)) (fun _ h => h) rfl dX9_glass_139 ?_
                    refine lv_iconst (v := 1) hx hb dX9_glass_142 (by decide) ?_
                    refine lv_iadd hx hb dX9_glass_143 ?_
                    refine va_put (D := D) (ci := 8) (v := .int (mg.2.2.2 + (1 : Int32))) (ty := .int) (C := RX9) (T := TX9) (N := 31) hx hb hts (fun w h => sub_z _ (inX9 w h)) tyX9 tyX9_ok nmX9 hown hK hP (mD.w hD) hS 0 rfl rfl 6 (by decide) (hts _ (sub_z _ k_742)) (fun _ h => h) rfl (by decide +kernel) rfl rfl (Nat.le_of_ble_eq_true rfl) dX9_glass_144 (fun H locs hP _ hS => ?_)
                    have hP : va_P D vwCl (wM dT q mr ((upd mg.1 mg.2.2.2.toNatClampNeg a1), (upd mg.2.1 mg.2.2.2.toNatClampNeg (mr.2.2 (((20 : Int32) * a2) + a3).toNatClampNeg)), (upd mg.2.2.1 mg.2.2.2.toNatClampNeg (-1 : Int32)), (mg.2.2.2 + (1 : Int32))) mc mn mh mf mp) H := hP
                    refine lv_aload_n hx hb dX9_glass_147 rfl (lv_at hl 0 rfl) ?_
                    refine lv_iconst (v := 0) hx hb dX9_glass_148 (by decide) ?_
                    refine va_put (D := D) (ci := 8) (v := .int (0 : Int32)) (ty := .boolean) (C := RX9) (T := TX9) (N := 31) hx hb hts (fun w h => sub_z _ (inX9 w h)) tyX9 tyX9_ok nmX9 hown hK hP (mD.w hD) hS 0 rfl rfl 22 (by decide) (hts _ (sub_z _ k_758)) (fun _ h => h) rfl (by decide +kernel) rfl rfl (Nat.le_of_ble_eq_true rfl) dX9_glass_149 (fun H locs hP _ hS => ?_)
                    have hP : va_P D vwCl (wM dT q mr ((upd mg.1 mg.2.2.2.toNatClampNeg a1), (upd mg.2.1 mg.2.2.2.toNatClampNeg (mr.2.2 (((20 : Int32) * a2) + a3).toNatClampNeg)), (upd mg.2.2.1 mg.2.2.2.toNatClampNeg (-1 : Int32)), (mg.2.2.2 + (1 : Int32))) mc mn mh ((0 : Int32), mf.2.1, mf.2.2.1, mf.2.2.2.1, mf.2.2.2.2.1, mf.2.2.2.2.2.1, mf.2.2.2.2.2.2.1, mf.2.2.2.2.2.2.2) mp) H := hP
                    refine lv_aload_n hx hb dX9_glass_152 rfl (lv_at hl 0 rfl) ?_
                    obtain ⟨v20, hv20, h⟩ := dq h
                    refine cVv (As := []) (rest := []) ⟨hx, hb, hml, hown, hts⟩ (c_X9_start (dT := dT) (mr := mr) (mg := ((upd mg.1 mg.2.2.2.toNatClampNeg a1), (upd mg.2.1 mg.2.2.2.toNatClampNeg (mr.2.2 (((20 : Int32) * a2) + a3).toNatClampNeg)), (upd mg.2.2.1 mg.2.2.2.toNatClampNeg (-1 : Int32)), (mg.2.2.2 + (1 : Int32)))) (mc := mc) (mn := mn) (mh := mh) (mf := ((0 : Int32), mf.2.1, mf.2.2.1, mf.2.2.2.1, mf.2.2.2.2.1, mf.2.2.2.2.2.1, mf.2.2.2.2.2.2.1, mf.2.2.2.2.2.2.2)) (mp := mp) hD hv20) (cwV 0 hts (good_V sub_z k_732 k_734 ks_19 k_9 k_735) rfl rfl rfl (by decide +kernel) (by decide)) (va_recv hK hP (ci := 8) (q0 := 0) rfl rfl) hK hP hS rfl hl.1 rfl (Nat.le_of_ble_eq_true rfl) dX9_glass_153 (by decide) (fun H locs hP hS => ?_)
                    refine lv_aload_n hx hb dX9_glass_156 rfl (lv_at hl 0 rfl) ?_
                    refine va_get (D := D) (ci := 8) (v := .int (mg.2.2.2 + (1 : Int32))) (C := RX9) (T := TX9) (N := 31) hx hb hts (fun w h => sub_z _ (inX9 w h)) hown hK hP 0 rfl rfl 6 (by decide) (hts _ (sub_z _ k_742)) (fun _ h => h) rfl dX9_glass_157 ?_
                    refine lv_iconst (v := 1) hx hb dX9_glass_160 (by decide) ?_
                    refine lv_isub hx hb dX9_glass_161 ?_
                    obtain rfl := Option.some.inj h
                    exact rI hx hb hr hlk hK hP hS dX9_glass_162
                  · rw [if_pos k18] at h
                    refine lv_iload hx hb dX9_glass_130 (lv_at hl 4 rfl) ?_
                    refine lv_goto (tgt := 136) hx hb dX9_glass_132 (by decide) ?_
                    obtain ⟨k21, h⟩ := dg h
                    refine va_iast (f := mg.2.2.1) hx hb hK hP (mD.w hD) hS 6 0 rfl rfl (inb_vp k21) dX9_glass_136 (fun H locs hP _ hS => ?_)
                    have hP : va_P D vwCl (wM dT q mr ((upd mg.1 mg.2.2.2.toNatClampNeg a1), (upd mg.2.1 mg.2.2.2.toNatClampNeg (mr.2.2 (((20 : Int32) * a2) + a3).toNatClampNeg)), (upd mg.2.2.1 mg.2.2.2.toNatClampNeg a4), mg.2.2.2) mc mn mh mf mp) H := hP
                    refine lv_aload_n hx hb dX9_glass_137 rfl (lv_at hl 0 rfl) ?_
                    refine lv_dup hx hb dX9_glass_138 rfl ?_
                    refine va_get (D := D) (ci := 8) (v := .int mg.2.2.2) (C := RX9) (T := TX9) (N := 31) hx hb hts (fun w h => sub_z _ (inX9 w h)) hown hK hP 0 rfl rfl 6 (by decide) (hts _ (sub_z _ k_742)) (fun _ h => h) rfl dX9_glass_139 ?_
                    refine lv_iconst (v := 1) hx hb dX9_glass_142 (by decide) ?_
                    refine lv_iadd hx hb dX9_glass_143 ?_
                    refine va_put (D := D) (ci := 8) (v := .int (mg.2.2.2 + (1 : Int32))) (ty := .int) (C := RX9) (T := TX9) (N := 31) hx hb hts (fun w h => sub_z _ (inX9 w h)) tyX9 tyX9_ok nmX9 hown hK hP (mD.w hD) hS 0 rfl rfl 6 (by decide) (hts _ (sub_z _ k_742)) (fun _ h => h) rfl (by decide +kernel) rfl rfl (Nat.le_of_ble_eq_true rfl) dX9_glass_144 (fun H locs hP _ hS => ?_)
                    have hP : va_P D vwCl (wM dT q mr ((upd mg.1 mg.2.2.2.toNatClampNeg a1), (upd mg.2.1 mg.2.2.2.toNatClampNeg (mr.2.2 (((20 : Int32) * a2) + a3).toNatClampNeg)), (upd mg.2.2.1 mg.2.2.2.toNatClampNeg a4), (mg.2.2.2 + (1 : Int32))) mc mn mh mf mp) H := hP
                    refine lv_aload_n hx hb dX9_glass_147 rfl (lv_at hl 0 rfl) ?_
                    refine lv_iconst (v := 0) hx hb dX9_glass_148 (by decide) ?_
                    refine va_put (D := D) (ci := 8) (v := .int (0 : Int32)) (ty := .boolean) (C := RX9) (T := TX9) (N := 31) hx hb hts (fun w h => sub_z _ (inX9 w h)) tyX9 tyX9_ok nmX9 hown hK hP (mD.w hD) hS 0 rfl rfl 22 (by decide) (hts _ (sub_z _ k_758)) (fun _ h => h) rfl (by decide +kernel) rfl rfl (Nat.le_of_ble_eq_true rfl) dX9_glass_149 (fun H locs hP _ hS => ?_)
                    have hP : va_P D vwCl (wM dT q mr ((upd mg.1 mg.2.2.2.toNatClampNeg a1), (upd mg.2.1 mg.2.2.2.toNatClampNeg (mr.2.2 (((20 : Int32) * a2) + a3).toNatClampNeg)), (upd mg.2.2.1 mg.2.2.2.toNatClampNeg a4), (mg.2.2.2 + (1 : Int32))) mc mn mh ((0 : Int32), mf.2.1, mf.2.2.1, mf.2.2.2.1, mf.2.2.2.2.1, mf.2.2.2.2.2.1, mf.2.2.2.2.2.2.1, mf.2.2.2.2.2.2.2) mp) H := hP
                    refine lv_aload_n hx hb dX9_glass_152 rfl (lv_at hl 0 rfl) ?_
                    obtain ⟨v22, hv22, h⟩ := dq h
                    refine cVv (As := []) (rest := []) ⟨hx, hb, hml, hown, hts⟩ (c_X9_start (dT := dT) (mr := mr) (mg := ((upd mg.1 mg.2.2.2.toNatClampNeg a1), (upd mg.2.1 mg.2.2.2.toNatClampNeg (mr.2.2 (((20 : Int32) * a2) + a3).toNatClampNeg)), (upd mg.2.2.1 mg.2.2.2.toNatClampNeg a4), (mg.2.2.2 + (1 : Int32)))) (mc := mc) (mn := mn) (mh := mh) (mf := ((0 : Int32), mf.2.1, mf.2.2.1, mf.2.2.2.1, mf.2.2.2.2.1, mf.2.2.2.2.2.1, mf.2.2.2.2.2.2.1, mf.2.2.2.2.2.2.2)) (mp := mp) hD hv22) (cwV 0 hts (good_V sub_z k_732 k_734 ks_19 k_9 k_735) rfl rfl rfl (by decide +kernel) (by decide)) (va_recv hK hP (ci := 8) (q0 := 0) rfl rfl) hK hP hS rfl hl.1 rfl (Nat.le_of_ble_eq_true rfl) dX9_glass_153 (by decide) (fun H locs hP hS => ?_)
                    refine lv_aload_n hx hb dX9_glass_156 rfl (lv_at hl 0 rfl) ?_
                    refine va_get (D := D) (ci := 8) (v := .int (mg.2.2.2 + (1 : Int32))) (C := RX9) (T := TX9) (N := 31) hx hb hts (fun w h => sub_z _ (inX9 w h)) hown hK hP 0 rfl rfl 6 (by decide) (hts _ (sub_z _ k_742)) (fun _ h => h) rfl dX9_glass_157 ?_
                    refine lv_iconst (v := 1) hx hb dX9_glass_160 (by decide) ?_
                    refine lv_isub hx hb dX9_glass_161 ?_
                    obtain rfl := Option.some.inj h
                    exact rI hx hb hr hlk hK hP hS dX9_glass_162
              · rw [if_pos k11] at h
                refine lv_bipush (v := -2) hx hb dX9_glass_79 (by decide) ?_
                obtain rfl := Option.some.inj h
                exact rI hx hb hr hlk hK hP hS dX9_glass_81
            · rw [if_pos k10] at h
              refine lv_iload hx hb dX9_glass_58 (lv_at hl 4 rfl) ?_
              refine lv_iconst (v := 1) hx hb dX9_glass_60 (by decide) ?_
              refine lv_bipush (v := 9) hx hb dX9_glass_61 (by decide) ?_
              obtain ⟨v23, hv23, h⟩ := dq h
              refine cSi (As := [.int a4, .int (1 : Int32), .int (9 : Int32)]) (rest := []) ⟨hx, hb, hml, hown, hts⟩ (c_X9_in (dT := dT) (mr := mr) (mg := mg) (mc := mc) (mn := mn) (mh := mh) (mf := mf) (mp := mp) hD hv23) (va_cwS 3 hts (good_S sub_z k_837 k_838 k_9 k_839) rfl rfl rfl (by decide +kernel) (by decide)) hK hP hS rfl hl.1 rfl (Nat.le_of_ble_eq_true rfl) dX9_glass_63 (by decide) (fun H locs hP hS => ?_)
              refine lv_if_ne (tgt := 71) hx hb dX9_glass_66 (by decide) (fun k24 => ?_) (fun k24 => ?_)
              · rw [if_neg k24] at h
                refine lv_aload_n hx hb dX9_glass_71 rfl (lv_at hl 0 rfl) ?_
                refine va_get (D := D) (ci := 8) (v := .int mg.2.2.2) (C := RX9) (T := TX9) (N := 31) hx hb hts (fun w h => sub_z _ (inX9 w h)) hown hK hP 0 rfl rfl 6 (by decide) (hts _ (sub_z _ k_742)) (fun _ h => h) rfl dX9_glass_72 ?_
                refine lv_iconst (v := 4) hx hb dX9_glass_75 (by decide) ?_
                refine lv_icmp_ne (tgt := 82) hx hb dX9_glass_76 (by decide) (fun k25 => ?_) (fun k25 => ?_)
                · rw [if_neg k25] at h
                  refine lv_aload_n hx hb dX9_glass_82 rfl (lv_at hl 0 rfl) ?_
                  refine va_get (D := D) (ci := 8) (v := .ref (q 4)) (C := RX9) (T := TX9) (N := 31) hx hb hts (fun w h => sub_z _ (inX9 w h)) hown hK hP 0 rfl rfl 3 (by decide) (hts _ (sub_z _ k_739)) (fun _ h => h) rfl dX9_glass_83 ?_
                  refine lv_aload_n hx hb dX9_glass_86 rfl (lv_at hl 0 rfl) ?_
                  refine va_get (D := D) (ci := 8) (v := .int mg.2.2.2) (C := RX9) (T := TX9) (N := 31) hx hb hts (fun w h => sub_z _ (inX9 w h)) hown hK hP 0 rfl rfl 6 (by decide) (hts _ (sub_z _ k_742)) (fun _ h => h) rfl dX9_glass_87 ?_
                  refine lv_iload_n hx hb dX9_glass_90 rfl (lv_at hl 1 rfl) ?_
                  obtain ⟨k26, h⟩ := dg h
                  refine va_iast (f := mg.1) hx hb hK hP (mD.w hD) hS 4 0 rfl rfl (inb_vp k26) dX9_glass_91 (fun H locs hP _ hS => ?_)
                  have hP : va_P D vwCl (wM dT q mr ((upd mg.1 mg.2.2.2.toNatClampNeg a1), mg.2.1, mg.2.2.1, mg.2.2.2) mc mn mh mf mp) H := hP
                  refine lv_aload_n hx hb dX9_glass_92 rfl (lv_at hl 0 rfl) ?_
                  refine va_get (D := D) (ci := 8) (v := .ref (q 5)) (C := RX9) (T := TX9) (N := 31) hx hb hts (fun w h => sub_z _ (inX9 w h)) hown hK hP 0 rfl rfl 4 (by decide) (hts _ (sub_z _ k_740)) (fun _ h => h) rfl dX9_glass_93 ?_
                  refine lv_aload_n hx hb dX9_glass_96 rfl (lv_at hl 0 rfl) ?_
                  refine va_get (D := D) (ci := 8) (v := .int mg.2.2.2) (C := RX9) (T := TX9) (N := 31) hx hb hts (fun w h => sub_z _ (inX9 w h)) hown hK hP 0 rfl rfl 6 (by decide) (hts _ (sub_z _ k_742)) (fun _ h => h) rfl dX9_glass_97 ?_
                  refine lv_aload_n hx hb dX9_glass_100 rfl (lv_at hl 0 rfl) ?_
                  refine va_get (D := D) (ci := 8) (v := .ref (q 3)) (C := RX9) (T := TX9) (N := 31) hx hb hts (fun w h => sub_z _ (inX9 w h)) hown hK hP 0 rfl rfl 2 (by decide) (hts _ (sub_z _ k_738)) (fun _ h => h) rfl dX9_glass_101 ?_
                  refine lv_bipush (v := 20) hx hb dX9_glass_104 (by decide) ?_
                  refine lv_iload_n hx hb dX9_glass_106 rfl (lv_at hl 2 rfl) ?_
                  refine lv_imul hx hb dX9_glass_107 ?_
                  refine lv_iload_n hx hb dX9_glass_108 rfl (lv_at hl 3 rfl) ?_
                  refine lv_iadd hx hb dX9_glass_109 ?_
                  obtain ⟨k27, h⟩ := dg h
                  refine va_iald (f := mr.2.2) hx hb hK hP 3 0 rfl rfl (inb_vp k27) dX9_glass_110 ?_
                  obtain ⟨k28, h⟩ := dg h
                  refine va_iast (f := mg.2.1) hx hb hK hP (mD.w hD) hS 5 0 rfl rfl (inb_vp k28) dX9_glass_111 (fun H locs hP _ hS => ?_)
                  have hP : va_P D vwCl (wM dT q mr ((upd mg.1 mg.2.2.2.toNatClampNeg a1), (upd mg.2.1 mg.2.2.2.toNatClampNeg (mr.2.2 (((20 : Int32) * a2) + a3).toNatClampNeg)), mg.2.2.1, mg.2.2.2) mc mn mh mf mp) H := hP
                  refine lv_aload_n hx hb dX9_glass_112 rfl (lv_at hl 0 rfl) ?_
                  refine va_get (D := D) (ci := 8) (v := .ref (q 6)) (C := RX9) (T := TX9) (N := 31) hx hb hts (fun w h => sub_z _ (inX9 w h)) hown hK hP 0 rfl rfl 5 (by decide) (hts _ (sub_z _ k_741)) (fun _ h => h) rfl dX9_glass_113 ?_
                  refine lv_aload_n hx hb dX9_glass_116 rfl (lv_at hl 0 rfl) ?_
                  refine va_get (D := D) (ci := 8) (v := .int mg.2.2.2) (C := RX9) (T := TX9) (N := 31) hx hb hts (fun w h => sub_z _ (inX9 w h)) hown hK hP 0 rfl rfl 6 (by decide) (hts _ (sub_z _ k_742)) (fun _ h => h) rfl dX9_glass_117 ?_
                  refine lv_iload_n hx hb dX9_glass_120 rfl (lv_at hl 1 rfl) ?_
                  refine lv_iconst (v := 1) hx hb dX9_glass_121 (by decide) ?_
                  refine lv_icmp_eq (tgt := 130) hx hb dX9_glass_122 (by decide) (fun k29 => ?_) (fun k29 => ?_)
                  · rw [if_pos k29] at h
                    refine lv_iload hx hb dX9_glass_130 (lv_at hl 4 rfl) ?_
                    refine lv_goto (tgt := 136) hx hb dX9_glass_132 (by decide) ?_
                    obtain ⟨k30, h⟩ := dg h
                    refine va_iast (f := mg.2.2.1) hx hb hK hP (mD.w hD) hS 6 0 rfl rfl (inb_vp k30) dX9_glass_136 (fun H locs hP _ hS => ?_)
                    have hP : va_P D vwCl (wM dT q mr ((upd mg.1 mg.2.2.2.toNatClampNeg a1), (upd mg.2.1 mg.2.2.2.toNatClampNeg (mr.2.2 (((20 : Int32) * a2) + a3).toNatClampNeg)), (upd mg.2.2.1 mg.2.2.2.toNatClampNeg a4), mg.2.2.2) mc mn mh mf mp) H := hP
                    refine lv_aload_n hx hb dX9_glass_137 rfl (lv_at hl 0 rfl) ?_
                    refine lv_dup hx hb dX9_glass_138 rfl ?_
                    refine va_get (D := D) (ci := 8) (v := .int mg.2.2.2) (C := RX9) (T := TX9) (N := 31) hx hb hts (fun w h => sub_z _ (inX9 w h)) hown hK hP 0 rfl rfl 6 (by decide) (hts _ (sub_z _ k_742)) (fun _ h => h) rfl dX9_glass_139 ?_
                    refine lv_iconst (v := 1) hx hb dX9_glass_142 (by decide) ?_
                    refine lv_iadd hx hb dX9_glass_143 ?_
                    refine va_put (D := D) (ci := 8) (v := .int (mg.2.2.2 + (1 : Int32))) (ty := .int) (C := RX9) (T := TX9) (N := 31) hx hb hts (fun w h => sub_z _ (inX9 w h)) tyX9 tyX9_ok nmX9 hown hK hP (mD.w hD) hS 0 rfl rfl 6 (by decide) (hts _ (sub_z _ k_742)) (fun _ h => h) rfl (by decide +kernel) rfl rfl (Nat.le_of_ble_eq_true rfl) dX9_glass_144 (fun H locs hP _ hS => ?_)
                    have hP : va_P D vwCl (wM dT q mr ((upd mg.1 mg.2.2.2.toNatClampNeg a1), (upd mg.2.1 mg.2.2.2.toNatClampNeg (mr.2.2 (((20 : Int32) * a2) + a3).toNatClampNeg)), (upd mg.2.2.1 mg.2.2.2.toNatClampNeg a4), (mg.2.2.2 + (1 : Int32))) mc mn mh mf mp) H := hP
                    refine lv_aload_n hx hb dX9_glass_147 rfl (lv_at hl 0 rfl) ?_
                    refine lv_iconst (v := 0) hx hb dX9_glass_148 (by decide) ?_
                    refine va_put (D := D) (ci := 8) (v := .int (0 : Int32)) (ty := .boolean) (C := RX9) (T := TX9) (N := 31) hx hb hts (fun w h => sub_z _ (inX9 w h)) tyX9 tyX9_ok nmX9 hown hK hP (mD.w hD) hS 0 rfl rfl 22 (by decide) (hts _ (sub_z _ k_758)) (fun _ h => h) rfl (by decide +kernel) rfl rfl (Nat.le_of_ble_eq_true rfl) dX9_glass_149 (fun H locs hP _ hS => ?_)
                    have hP : va_P D vwCl (wM dT q mr ((upd mg.1 mg.2.2.2.toNatClampNeg a1), (upd mg.2.1 mg.2.2.2.toNatClampNeg (mr.2.2 (((20 : Int32) * a2) + a3).toNatClampNeg)), (upd mg.2.2.1 mg.2.2.2.toNatClampNeg a4), (mg.2.2.2 + (1 : Int32))) mc mn mh ((0 : Int32), mf.2.1, mf.2.2.1, mf.2.2.2.1, mf.2.2.2.2.1, mf.2.2.2.2.2.1, mf.2.2.2.2.2.2.1, mf.2.2.2.2.2.2.2) mp) H := hP
                    refine lv_aload_n hx hb dX9_glass_152 rfl (lv_at hl 0 rfl) ?_
                    obtain ⟨v31, hv31, h⟩ := dq h
                    refine cVv (As := []) (rest := []) ⟨hx, hb, hml, hown, hts⟩ (c_X9_start (dT := dT) (mr := mr) (mg := ((upd mg.1 mg.2.2.2.toNatClampNeg a1), (upd mg.2.1 mg.2.2.2.toNatClampNeg (mr.2.2 (((20 : Int32) * a2) + a3).toNatClampNeg)), (upd mg.2.2.1 mg.2.2.2.toNatClampNeg a4), (mg.2.2.2 + (1 : Int32)))) (mc := mc) (mn := mn) (mh := mh) (mf := ((0 : Int32), mf.2.1, mf.2.2.1, mf.2.2.2.1, mf.2.2.2.2.1, mf.2.2.2.2.2.1, mf.2.2.2.2.2.2.1, mf.2.2.2.2.2.2.2)) (mp := mp) hD hv31) (cwV 0 hts (good_V sub_z k_732 k_734 ks_19 k_9 k_735) rfl rfl rfl (by decide +kernel) (by decide)) (va_recv hK hP (ci := 8) (q0 := 0) rfl rfl) hK hP hS rfl hl.1 rfl (Nat.le_of_ble_eq_true rfl) dX9_glass_153 (by decide) (fun H locs hP hS => ?_)
                    refine lv_aload_n hx hb dX9_glass_156 rfl (lv_at hl 0 rfl) ?_
                    refine va_get (D := D) (ci := 8) (v := .int (mg.2.2.2 + (1 : Int32))) (C := RX9) (T := TX9) (N := 31) hx hb hts (fun w h => sub_z _ (inX9 w h)) hown hK hP 0 rfl rfl 6 (by decide) (hts _ (sub_z _ k_742)) (fun _ h => h) rfl dX9_glass_157 ?_
                    refine lv_iconst (v := 1) hx hb dX9_glass_160 (by decide) ?_
                    refine lv_isub hx hb dX9_glass_161 ?_
                    obtain rfl := Option.some.inj h
                    exact rI hx hb hr hlk hK hP hS dX9_glass_162
                  · rw [if_neg k29] at h
                    refine lv_iload_n hx hb dX9_glass_125 rfl (lv_at hl 1 rfl) ?_
                    refine lv_iconst (v := 4) hx hb dX9_glass_126 (by decide) ?_
                    refine lv_icmp_ne (tgt := 135) hx hb dX9_glass_127 (by decide) (fun k32 => ?_) (fun k32 => ?_)
                    · rw [if_neg k32] at h
                      refine lv_iconst (v := -1) hx hb dX9_glass_135 (by decide) ?_
                      obtain ⟨k33, h⟩ := dg h
                      refine va_iast (f := mg.2.2.1) hx hb hK hP (mD.w hD) hS 6 0 rfl rfl (inb_vp k33) dX9_glass_136 (fun H locs hP _ hS => ?_)
                      have hP : va_P D vwCl (wM dT q mr ((upd mg.1 mg.2.2.2.toNatClampNeg a1), (upd mg.2.1 mg.2.2.2.toNatClampNeg (mr.2.2 (((20 : Int32) * a2) + a3).toNatClampNeg)), (upd mg.2.2.1 mg.2.2.2.toNatClampNeg (-1 : Int32)), mg.2.2.2) mc mn mh mf mp) H := hP
                      refine lv_aload_n hx hb dX9_glass_137 rfl (lv_at hl 0 rfl) ?_
                      refine lv_dup hx hb dX9_glass_138 rfl ?_
                      refine va_get (D := D) (ci := 8) (v := .int mg.2.2.2) (C := RX9) (T := TX9) (N := 31) hx hb hts (fun w h => sub_z _ (inX9 w h)) hown hK hP 0 rfl rfl 6 (by decide) (hts _ (sub_z _ k_742)) (fun _ h => h) rfl dX9_glass_139 ?_
                      refine lv_iconst (v := 1) hx hb dX9_glass_142 (by decide) ?_
                      refine lv_iadd hx hb dX9_glass_143 ?_
                      refine va_put (D := D) (ci := 8) (v := .int (mg.2.2.2 + (1 : Int32))) (ty := .int) (C := RX9) (T := TX9) (N := 31) hx hb hts (fun w h => sub_z _ (inX9 w h)) tyX9 tyX9_ok nmX9 hown hK hP (mD.w hD) hS 0 rfl rfl 6 (by decide) (hts _ (sub_z _ k_742)) (fun _ h => h) rfl (by decide +kernel) rfl rfl (Nat.le_of_ble_eq_true rfl) dX9_glass_144 (fun H locs hP _ hS => ?_)
                      have hP : va_P D vwCl (wM dT q mr ((upd mg.1 mg.2.2.2.toNatClampNeg a1), (upd mg.2.1 mg.2.2.2.toNatClampNeg (mr.2.2 (((20 : Int32) * a2) + a3).toNatClampNeg)), (upd mg.2.2.1 mg.2.2.2.toNatClampNeg (-1 : Int32)), (mg.2.2.2 + (1 : Int32))) mc mn mh mf mp) H := hP
                      refine lv_aload_n hx hb dX9_glass_147 rfl (lv_at hl 0 rfl) ?_
                      refine lv_iconst (v := 0) hx hb dX9_glass_148 (by decide) ?_
                      refine va_put (D := D) (ci := 8) (v := .int (0 : Int32)) (ty := .boolean) (C := RX9) (T := TX9) (N := 31) hx hb hts (fun w h => sub_z _ (inX9 w h)) tyX9 tyX9_ok nmX9 hown hK hP (mD.w hD) hS 0 rfl rfl 22 (by decide) (hts _ (sub_z _ k_758)) (fun _ h => h) rfl (by decide +kernel) rfl rfl (Nat.le_of_ble_eq_true rfl) dX9_glass_149 (fun H locs hP _ hS => ?_)
                      have hP : va_P D vwCl (wM dT q mr ((upd mg.1 mg.2.2.2.toNatClampNeg a1), (upd mg.2.1 mg.2.2.2.toNatClampNeg (mr.2.2 (((20 : Int32) * a2) + a3).toNatClampNeg)), (upd mg.2.2.1 mg.2.2.2.toNatClampNeg (-1 : Int32)), (mg.2.2.2 + (1 : Int32))) mc mn mh ((0 : Int32), mf.2.1, mf.2.2.1, mf.2.2.2.1, mf.2.2.2.2.1, mf.2.2.2.2.2.1, mf.2.2.2.2.2.2.1, mf.2.2.2.2.2.2.2) mp) H := hP
                      refine lv_aload_n hx hb dX9_glass_152 rfl (lv_at hl 0 rfl) ?_
                      obtain ⟨v34, hv34, h⟩ := dq h
                      refine cVv (As := []) (rest := []) ⟨hx, hb, hml, hown, hts⟩ (c_X9_start (dT := dT) (mr := mr) (mg := ((upd mg.1 mg.2.2.2.toNatClampNeg a1), (upd mg.2.1 mg.2.2.2.toNatClampNeg (mr.2.2 (((20 : Int32) * a2) + a3).toNatClampNeg)), (upd mg.2.2.1 mg.2.2.2.toNatClampNeg (-1 : Int32)), (mg.2.2.2 + (1 : Int32)))) (mc := mc) (mn := mn) (mh := mh) (mf := ((0 : Int32), mf.2.1, mf.2.2.1, mf.2.2.2.1, mf.2.2.2.2.1, mf.2.2.2.2.2.1, mf.2.2.2.2.2.2.1, mf.2.2.2.2.2.2.2)) (mp := mp) hD hv34) (cwV 0 hts (good_V sub_z k_732 k_734 ks_19 k_9 k_735) rfl rfl rfl (by decide +kernel) (by decide)) (va_recv hK hP (ci := 8) (q0 := 0) rfl rfl) hK hP hS rfl hl.1 rfl (Nat.le_of_ble_eq_true rfl) dX9_glass_153 (by decide) (fun H locs hP hS => ?_)
                      refine lv_aload_n hx hb dX9_glass_156 rfl (lv_at hl 0 rfl) ?_
                      refine va_get (D := D) (ci := 8) (v := .int (mg.2.2.2 + (1 : Int32))) (C := RX9) (T := TX9) (N := 31) hx hb hts (fun w h => sub_z _ (inX9 w h)) hown hK hP 0 rfl rfl 6 (by decide) (hts _ (sub_z _ k_742)) (fun _ h => h) rfl dX9_glass_157 ?_
                      refine lv_iconst (v := 1) hx hb dX9_glass_160 (by decide) ?_
                      refine lv_isub hx hb dX9_glass_161 ?_
                      obtain rfl := Option.some.inj h
                      exact rI hx hb hr hlk hK hP hS dX9_glass_162
                    · rw [if_pos k32] at h
                      refine lv_iload hx hb dX9_glass_130 (lv_at hl 4 rfl) ?_
                      refine lv_goto (tgt := 136) hx hb dX9_glass_132 (by decide) ?_
                      obtain ⟨k35, h⟩ := dg h
                      refine va_iast (f := mg.2.2.1) hx hb hK hP (mD.w hD) hS 6 0 rfl rfl (inb_vp k35) dX9_glass_136 (fun H locs hP _ hS => ?_)
                      have hP : va_P D vwCl (wM dT q mr ((upd mg.1 mg.2.2.2.toNatClampNeg a1), (upd mg.2.1 mg.2.2.2.toNatClampNeg (mr.2.2 (((20 : Int32) * a2) + a3).toNatClampNeg)), (upd mg.2.2.1 mg.2.2.2.toNatClampNeg a4), mg.2.2.2) mc mn mh mf mp) H := hP
                      refine lv_aload_n hx hb dX9_glass_137 rfl (lv_at hl 0 rfl) ?_
                      refine lv_dup hx hb dX9_glass_138 rfl ?_
                      refine va_get (D := D) (ci := 8) (v := .int mg.2.2.2) (C := RX9) (T := TX9) (N := 31) hx hb hts (fun w h => sub_z _ (inX9 w h)) hown hK hP 0 rfl rfl 6 (by decide) (hts _ (sub_z _ k_742)) (fun _ h => h) rfl dX9_glass_139 ?_
                      refine lv_iconst (v := 1) hx hb dX9_glass_142 (by decide) ?_
                      refine lv_iadd hx hb dX9_glass_143 ?_
                      refine va_put (D := D) (ci := 8) (v := .int (mg.2.2.2 + (1 : Int32))) (ty := .int) (C := RX9) (T := TX9) (N := 31) hx hb hts (fun w h => sub_z _ (inX9 w h)) tyX9 tyX9_ok nmX9 hown hK hP (mD.w hD) hS 0 rfl rfl 6 (by decide) (hts _ (sub_z _ k_742)) (fun _ h => h) rfl (by decide +kernel) rfl rfl (Nat.le_of_ble_eq_true rfl) dX9_glass_144 (fun H locs hP _ hS => ?_)
                      have hP : va_P D vwCl (wM dT q mr ((upd mg.1 mg.2.2.2.toNatClampNeg a1), (upd mg.2.1 mg.2.2.2.toNatClampNeg (mr.2.2 (((20 : Int32) * a2) + a3).toNatClampNeg)), (upd mg.2.2.1 mg.2.2.2.toNatClampNeg a4), (mg.2.2.2 + (1 : Int32))) mc mn mh mf mp) H := hP
                      refine lv_aload_n hx hb dX9_glass_147 rfl (lv_at hl 0 rfl) ?_
                      refine lv_iconst (v := 0) hx hb dX9_glass_148 (by decide) ?_
                      refine va_put (D := D) (ci := 8) (v := .int (0 : Int32)) (ty := .boolean) (C := RX9) (T := TX9) (N := 31) hx hb hts (fun w h => sub_z _ (inX9 w h)) tyX9 tyX9_ok nmX9 hown hK hP (mD.w hD) hS 0 rfl rfl 22 (by decide) (hts _ (sub_z _ k_758)) (fun _ h => h) rfl (by decide +kernel) rfl rfl (Nat.le_of_ble_eq_true rfl) dX9_glass_149 (fun H locs hP _ hS => ?_)
                      have hP : va_P D vwCl (wM dT q mr ((upd mg.1 mg.2.2.2.toNatClampNeg a1), (upd mg.2.1 mg.2.2.2.toNatClampNeg (mr.2.2 (((20 : Int32) * a2) + a3).toNatClampNeg)), (upd mg.2.2.1 mg.2.2.2.toNatClampNeg a4), (mg.2.2.2 + (1 : Int32))) mc mn mh ((0 : Int32), mf.2.1, mf.2.2.1, mf.2.2.2.1, mf.2.2.2.2.1, mf.2.2.2.2.2.1, mf.2.2.2.2.2.2.1, mf.2.2.2.2.2.2.2) mp) H := hP
                      refine lv_aload_n hx hb dX9_glass_152 rfl (lv_at hl 0 rfl) ?_
                      obtain ⟨v36, hv36, h⟩ := dq h
                      refine cVv (As := []) (rest := []) ⟨hx, hb, hml, hown, hts⟩ (c_X9_start (dT := dT) (mr := mr) (mg := ((upd mg.1 mg.2.2.2.toNatClampNeg a1), (upd mg.2.1 mg.2.2.2.toNatClampNeg (mr.2.2 (((20 : Int32) * a2) + a3).toNatClampNeg)), (upd mg.2.2.1 mg.2.2.2.toNatClampNeg a4), (mg.2.2.2 + (1 : Int32)))) (mc := mc) (mn := mn) (mh := mh) (mf := ((0 : Int32), mf.2.1, mf.2.2.1, mf.2.2.2.1, mf.2.2.2.2.1, mf.2.2.2.2.2.1, mf.2.2.2.2.2.2.1, mf.2.2.2.2.2.2.2)) (mp := mp) hD hv36) (cwV 0 hts (good_V sub_z k_732 k_734 ks_19 k_9 k_735) rfl rfl rfl (by decide +kernel) (by decide)) (va_recv hK hP (ci := 8) (q0 := 0) rfl rfl) hK hP hS rfl hl.1 rfl (Nat.le_of_ble_eq_true rfl) dX9_glass_153 (by decide) (fun H locs hP hS => ?_)
                      refine lv_aload_n hx hb dX9_glass_156 rfl (lv_at hl 0 rfl) ?_
                      refine va_get (D := D) (ci := 8) (v := .int (mg.2.2.2 + (1 : Int32))) (C := RX9) (T := TX9) (N := 31) hx hb hts (fun w h => sub_z _ (inX9 w h)) hown hK hP 0 rfl rfl 6 (by decide) (hts _ (sub_z _ k_742)) (fun _ h => h) rfl dX9_glass_157 ?_
                      refine lv_iconst (v := 1) hx hb dX9_glass_160 (by decide) ?_
                      refine lv_isub hx hb dX9_glass_161 ?_
                      obtain rfl := Option.some.inj h
                      exact rI hx hb hr hlk hK hP hS dX9_glass_162
                · rw [if_pos k25] at h
                  refine lv_bipush (v := -2) hx hb dX9_glass_79 (by decide) ?_
                  obtain rfl := Option.some.inj h
                  exact rI hx hb hr hlk hK hP hS dX9_glass_81
              · rw [if_pos k24] at h
                refine lv_iconst (v := -1) hx hb dX9_glass_69 (by decide) ?_
                obtain rfl := Option.some.inj h
                exact rI hx hb hr hlk hK hP hS dX9_glass_70
          · rw [if_pos k9] at h
            refine lv_aload_n hx hb dX9_glass_44 rfl (lv_at hl 0 rfl) ?_
            refine lv_iload hx hb dX9_glass_45 (lv_at hl 4 rfl) ?_
            obtain ⟨v37, hv37, h⟩ := dq h
            refine cVi (As := [.int a4]) (rest := []) ⟨hx, hb, hml, hown, hts⟩ (c_X9_isGlass (dT := dT) (mr := mr) (mg := mg) (mc := mc) (mn := mn) (mh := mh) (mf := mf) (mp := mp) hD hv37) (cwV 1 hts (good_V sub_z k_861 k_863 ks_21 k_9 k_864) rfl rfl rfl (by decide +kernel) (by decide)) (va_recv hK hP (ci := 8) (q0 := 0) rfl rfl) hK hP hS rfl hl.1 rfl (Nat.le_of_ble_eq_true rfl) dX9_glass_47 (by decide) (fun H locs hP hS => ?_)
            refine lv_if_eq (tgt := 69) hx hb dX9_glass_50 (by decide) (fun k38 => ?_) (fun k38 => ?_)
            · rw [if_pos k38] at h
              refine lv_iconst (v := -1) hx hb dX9_glass_69 (by decide) ?_
              obtain rfl := Option.some.inj h
              exact rI hx hb hr hlk hK hP hS dX9_glass_70
            · rw [if_neg k38] at h
              refine lv_iload_n hx hb dX9_glass_53 rfl (lv_at hl 1 rfl) ?_
              refine lv_iconst (v := 4) hx hb dX9_glass_54 (by decide) ?_
              refine lv_icmp_ne (tgt := 71) hx hb dX9_glass_55 (by decide) (fun k39 => ?_) (fun k39 => ?_)
              · rw [if_neg k39] at h
                refine lv_aload_n hx hb dX9_glass_71 rfl (lv_at hl 0 rfl) ?_
                refine va_get (D := D) (ci := 8) (v := .int mg.2.2.2) (C := RX9) (T := TX9) (N := 31) hx hb hts (fun w h => sub_z _ (inX9 w h)) hown hK hP 0 rfl rfl 6 (by decide) (hts _ (sub_z _ k_742)) (fun _ h => h) rfl dX9_glass_72 ?_
                refine lv_iconst (v := 4) hx hb dX9_glass_75 (by decide) ?_
                refine lv_icmp_ne (tgt := 82) hx hb dX9_glass_76 (by decide) (fun k40 => ?_) (fun k40 => ?_)
                · rw [if_neg k40] at h
                  refine lv_aload_n hx hb dX9_glass_82 rfl (lv_at hl 0 rfl) ?_
                  refine va_get (D := D) (ci := 8) (v := .ref (q 4)) (C := RX9) (T := TX9) (N := 31) hx hb hts (fun w h => sub_z _ (inX9 w h)) hown hK hP 0 rfl rfl 3 (by decide) (hts _ (sub_z _ k_739)) (fun _ h => h) rfl dX9_glass_83 ?_
                  refine lv_aload_n hx hb dX9_glass_86 rfl (lv_at hl 0 rfl) ?_
                  refine va_get (D := D) (ci := 8) (v := .int mg.2.2.2) (C := RX9) (T := TX9) (N := 31) hx hb hts (fun w h => sub_z _ (inX9 w h)) hown hK hP 0 rfl rfl 6 (by decide) (hts _ (sub_z _ k_742)) (fun _ h => h) rfl dX9_glass_87 ?_
                  refine lv_iload_n hx hb dX9_glass_90 rfl (lv_at hl 1 rfl) ?_
                  obtain ⟨k41, h⟩ := dg h
                  refine va_iast (f := mg.1) hx hb hK hP (mD.w hD) hS 4 0 rfl rfl (inb_vp k41) dX9_glass_91 (fun H locs hP _ hS => ?_)
                  have hP : va_P D vwCl (wM dT q mr ((upd mg.1 mg.2.2.2.toNatClampNeg a1), mg.2.1, mg.2.2.1, mg.2.2.2) mc mn mh mf mp) H := hP
                  refine lv_aload_n hx hb dX9_glass_92 rfl (lv_at hl 0 rfl) ?_
                  refine va_get (D := D) (ci := 8) (v := .ref (q 5)) (C := RX9) (T := TX9) (N := 31) hx hb hts (fun w h => sub_z _ (inX9 w h)) hown hK hP 0 rfl rfl 4 (by decide) (hts _ (sub_z _ k_740)) (fun _ h => h) rfl dX9_glass_93 ?_
                  refine lv_aload_n hx hb dX9_glass_96 rfl (lv_at hl 0 rfl) ?_
                  refine va_get (D := D) (ci := 8) (v := .int mg.2.2.2) (C := RX9) (T := TX9) (N := 31) hx hb hts (fun w h => sub_z _ (inX9 w h)) hown hK hP 0 rfl rfl 6 (by decide) (hts _ (sub_z _ k_742)) (fun _ h => h) rfl dX9_glass_97 ?_
                  refine lv_aload_n hx hb dX9_glass_100 rfl (lv_at hl 0 rfl) ?_
                  refine va_get (D := D) (ci := 8) (v := .ref (q 3)) (C := RX9) (T := TX9) (N := 31) hx hb hts (fun w h => sub_z _ (inX9 w h)) hown hK hP 0 rfl rfl 2 (by decide) (hts _ (sub_z _ k_738)) (fun _ h => h) rfl dX9_glass_101 ?_
                  refine lv_bipush (v := 20) hx hb dX9_glass_104 (by decide) ?_
                  refine lv_iload_n hx hb dX9_glass_106 rfl (lv_at hl 2 rfl) ?_
                  refine lv_imul hx hb dX9_glass_107 ?_
                  refine lv_iload_n hx hb dX9_glass_108 rfl (lv_at hl 3 rfl) ?_
                  refine lv_iadd hx hb dX9_glass_109 ?_
                  obtain ⟨k42, h⟩ := dg h
                  refine va_iald (f := mr.2.2) hx hb hK hP 3 0 rfl rfl (inb_vp k42) dX9_glass_110 ?_
                  obtain ⟨k43, h⟩ := dg h
                  refine va_iast (f := mg.2.1) hx hb hK hP (mD.w hD) hS 5 0 rfl rfl (inb_vp k43) dX9_glass_111 (fun H locs hP _ hS => ?_)
                  have hP : va_P D vwCl (wM dT q mr ((upd mg.1 mg.2.2.2.toNatClampNeg a1), (upd mg.2.1 mg.2.2.2.toNatClampNeg (mr.2.2 (((20 : Int32) * a2) + a3).toNatClampNeg)), mg.2.2.1, mg.2.2.2) mc mn mh mf mp) H := hP
                  refine lv_aload_n hx hb dX9_glass_112 rfl (lv_at hl 0 rfl) ?_
                  refine va_get (D := D) (ci := 8) (v := .ref (q 6)) (C := RX9) (T := TX9) (N := 31) hx hb hts (fun w h => sub_z _ (inX9 w h)) hown hK hP 0 rfl rfl 5 (by decide) (hts _ (sub_z _ k_741)) (fun _ h => h) rfl dX9_glass_113 ?_
                  refine lv_aload_n hx hb dX9_glass_116 rfl (lv_at hl 0 rfl) ?_
                  refine va_get (D := D) (ci := 8) (v := .int mg.2.2.2) (C := RX9) (T := TX9) (N := 31) hx hb hts (fun w h => sub_z _ (inX9 w h)) hown hK hP 0 rfl rfl 6 (by decide) (hts _ (sub_z _ k_742)) (fun _ h => h) rfl dX9_glass_117 ?_
                  refine lv_iload_n hx hb dX9_glass_120 rfl (lv_at hl 1 rfl) ?_
                  refine lv_iconst (v := 1) hx hb dX9_glass_121 (by decide) ?_
                  refine lv_icmp_eq (tgt := 130) hx hb dX9_glass_122 (by decide) (fun k44 => ?_) (fun k44 => ?_)
                  · rw [if_pos k44] at h
                    refine lv_iload hx hb dX9_glass_130 (lv_at hl 4 rfl) ?_
                    refine lv_goto (tgt := 136) hx hb dX9_glass_132 (by decide) ?_
                    obtain ⟨k45, h⟩ := dg h
                    refine va_iast (f := mg.2.2.1) hx hb hK hP (mD.w hD) hS 6 0 rfl rfl (inb_vp k45) dX9_glass_136 (fun H locs hP _ hS => ?_)
                    have hP : va_P D vwCl (wM dT q mr ((upd mg.1 mg.2.2.2.toNatClampNeg a1), (upd mg.2.1 mg.2.2.2.toNatClampNeg (mr.2.2 (((20 : Int32) * a2) + a3).toNatClampNeg)), (upd mg.2.2.1 mg.2.2.2.toNatClampNeg a4), mg.2.2.2) mc mn mh mf mp) H := hP
                    refine lv_aload_n hx hb dX9_glass_137 rfl (lv_at hl 0 rfl) ?_
                    refine lv_dup hx hb dX9_glass_138 rfl ?_
                    refine va_get (D := D) (ci := 8) (v := .int mg.2.2.2) (C := RX9) (T := TX9) (N := 31) hx hb hts (fun w h => sub_z _ (inX9 w h)) hown hK hP 0 rfl rfl 6 (by decide) (hts _ (sub_z _ k_742)) (fun _ h => h) rfl dX9_glass_139 ?_
                    refine lv_iconst (v := 1) hx hb dX9_glass_142 (by decide) ?_
                    refine lv_iadd hx hb dX9_glass_143 ?_
                    refine va_put (D := D) (ci := 8) (v := .int (mg.2.2.2 + (1 : Int32))) (ty := .int) (C := RX9) (T := TX9) (N := 31) hx hb hts (fun w h => sub_z _ (inX9 w h)) tyX9 tyX9_ok nmX9 hown hK hP (mD.w hD) hS 0 rfl rfl 6 (by decide) (hts _ (sub_z _ k_742)) (fun _ h => h) rfl (by decide +kernel) rfl rfl (Nat.le_of_ble_eq_true rfl) dX9_glass_144 (fun H locs hP _ hS => ?_)
                    have hP : va_P D vwCl (wM dT q mr ((upd mg.1 mg.2.2.2.toNatClampNeg a1), (upd mg.2.1 mg.2.2.2.toNatClampNeg (mr.2.2 (((20 : Int32) * a2) + a3).toNatClampNeg)), (upd mg.2.2.1 mg.2.2.2.toNatClampNeg a4), (mg.2.2.2 + (1 : Int32))) mc mn mh mf mp) H := hP
                    refine lv_aload_n hx hb dX9_glass_147 rfl (lv_at hl 0 rfl) ?_
                    refine lv_iconst (v := 0) hx hb dX9_glass_148 (by decide) ?_
                    refine va_put (D := D) (ci := 8) (v := .int (0 : Int32)) (ty := .boolean) (C := RX9) (T := TX9) (N := 31) hx hb hts (fun w h => sub_z _ (inX9 w h)) tyX9 tyX9_ok nmX9 hown hK hP (mD.w hD) hS 0 rfl rfl 22 (by decide) (hts _ (sub_z _ k_758)) (fun _ h => h) rfl (by decide +kernel) rfl rfl (Nat.le_of_ble_eq_true rfl) dX9_glass_149 (fun H locs hP _ hS => ?_)
                    have hP : va_P D vwCl (wM dT q mr ((upd mg.1 mg.2.2.2.toNatClampNeg a1), (upd mg.2.1 mg.2.2.2.toNatClampNeg (mr.2.2 (((20 : Int32) * a2) + a3).toNatClampNeg)), (upd mg.2.2.1 mg.2.2.2.toNatClampNeg a4), (mg.2.2.2 + (1 : Int32))) mc mn mh ((0 : Int32), mf.2.1, mf.2.2.1, mf.2.2.2.1, mf.2.2.2.2.1, mf.2.2.2.2.2.1, mf.2.2.2.2.2.2.1, mf.2.2.2.2.2.2.2) mp) H := hP
                    refine lv_aload_n hx hb dX9_glass_152 rfl (lv_at hl 0 rfl) ?_
                    obtain ⟨v46, hv46, h⟩ := dq h
                    refine cVv (As := []) (rest := []) ⟨hx, hb, hml, hown, hts⟩ (c_X9_start (dT := dT) (mr := mr) (mg := ((upd mg.1 mg.2.2.2.toNatClampNeg a1), (upd mg.2.1 mg.2.2.2.toNatClampNeg (mr.2.2 (((20 : Int32) * a2) + a3).toNatClampNeg)), (upd mg.2.2.1 mg.2.2.2.toNatClampNeg a4), (mg.2.2.2 + (1 : Int32)))) (mc := mc) (mn := mn) (mh := mh) (mf := ((0 : Int32), mf.2.1, mf.2.2.1, mf.2.2.2.1, mf.2.2.2.2.1, mf.2.2.2.2.2.1, mf.2.2.2.2.2.2.1, mf.2.2.2.2.2.2.2)) (mp := mp) hD hv46) (cwV 0 hts (good_V sub_z k_732 k_734 ks_19 k_9 k_735) rfl rfl rfl (by decide +kernel) (by decide)) (va_recv hK hP (ci := 8) (q0 := 0) rfl rfl) hK hP hS rfl hl.1 rfl (Nat.le_of_ble_eq_true rfl) dX9_glass_153 (by decide) (fun H locs hP hS => ?_)
                    refine lv_aload_n hx hb dX9_glass_156 rfl (lv_at hl 0 rfl) ?_
                    refine va_get (D := D) (ci := 8) (v := .int (mg.2.2.2 + (1 : Int32))) (C := RX9) (T := TX9) (N := 31) hx hb hts (fun w h => sub_z _ (inX9 w h)) hown hK hP 0 rfl rfl 6 (by decide) (hts _ (sub_z _ k_742)) (fun _ h => h) rfl dX9_glass_157 ?_
                    refine lv_iconst (v := 1) hx hb dX9_glass_160 (by decide) ?_
                    refine lv_isub hx hb dX9_glass_161 ?_
                    obtain rfl := Option.some.inj h
                    exact rI hx hb hr hlk hK hP hS dX9_glass_162
                  · rw [if_neg k44] at h
                    refine lv_iload_n hx hb dX9_glass_125 rfl (lv_at hl 1 rfl) ?_
                    refine lv_iconst (v := 4) hx hb dX9_glass_126 (by decide) ?_
                    refine lv_icmp_ne (tgt := 135) hx hb dX9_glass_127 (by decide) (fun k47 => ?_) (fun k47 => ?_)
                    · rw [if_neg k47] at h
                      refine lv_iconst (v := -1) hx hb dX9_glass_135 (by decide) ?_
                      obtain ⟨k48, h⟩ := dg h
                      refine va_iast (f := mg.2.2.1) hx hb hK hP (mD.w hD) hS 6 0 rfl rfl (inb_vp k48) dX9_glass_136 (fun H locs hP _ hS => ?_)
                      have hP : va_P D vwCl (wM dT q mr ((upd mg.1 mg.2.2.2.toNatClampNeg a1), (upd mg.2.1 mg.2.2.2.toNatClampNeg (mr.2.2 (((20 : Int32) * a2) + a3).toNatClampNeg)), (upd mg.2.2.1 mg.2.2.2.toNatClampNeg (-1 : Int32)), mg.2.2.2) mc mn mh mf mp) H := hP
                      refine lv_aload_n hx hb dX9_glass_137 rfl (lv_at hl 0 rfl) ?_
                      refine lv_dup hx hb dX9_glass_138 rfl ?_
                      refine va_get (D := D) (ci := 8) (v := .int mg.2.2.2) (C := RX9) (T := TX9) (N := 31) hx hb hts (fun w h => sub_z _ (inX9 w h)) hown hK hP 0 rfl rfl 6 (by decide) (hts _ (sub_z _ k_742)) (fun _ h => h) rfl dX9_glass_139 ?_
                      refine lv_iconst (v := 1) hx hb dX9_glass_142 (by decide) ?_
                      refine lv_iadd hx hb dX9_glass_143 ?_
                      refine va_put (D := D) (ci := 8) (v := .int (mg.2.2.2 + (1 : Int32))) (ty := .int) (C := RX9) (T := TX9) (N := 31) hx hb hts (fun w h => sub_z _ (inX9 w h)) tyX9 tyX9_ok nmX9 hown hK hP (mD.w hD) hS 0 rfl rfl 6 (by decide) (hts _ (sub_z _ k_742)) (fun _ h => h) rfl (by decide +kernel) rfl rfl (Nat.le_of_ble_eq_true rfl) dX9_glass_144 (fun H locs hP _ hS => ?_)
                      have hP : va_P D vwCl (wM dT q mr ((upd mg.1 mg.2.2.2.toNatClampNeg a1), (upd mg.2.1 mg.2.2.2.toNatClampNeg (mr.2.2 (((20 : Int32) * a2) + a3).toNatClampNeg)), (upd mg.2.2.1 mg.2.2.2.toNatClampNeg (-1 : Int32)), (mg.2.2.2 + (1 : Int32))) mc mn mh mf mp) H := hP
                      refine lv_aload_n hx hb dX9_glass_147 rfl (lv_at hl 0 rfl) ?_
                      refine lv_iconst (v := 0) hx hb dX9_glass_148 (by decide) ?_
                      refine va_put (D := D) (ci := 8) (v := .int (0 : Int32)) (ty := .boolean) (C := RX9) (T := TX9) (N := 31) hx hb hts (fun w h => sub_z _ (inX9 w h)) tyX9 tyX9_ok nmX9 hown hK hP (mD.w hD) hS 0 rfl rfl 22 (by decide) (hts _ (sub_z _ k_758)) (fun _ h => h) rfl (by decide +kernel) rfl rfl (Nat.le_of_ble_eq_true rfl) dX9_glass_149 (fun H locs hP _ hS => ?_)
                      have hP : va_P D vwCl (wM dT q mr ((upd mg.1 mg.2.2.2.toNatClampNeg a1), (upd mg.2.1 mg.2.2.2.toNatClampNeg (mr.2.2 (((20 : Int32) * a2) + a3).toNatClampNeg)), (upd mg.2.2.1 mg.2.2.2.toNatClampNeg (-1 : Int32)), (mg.2.2.2 + (1 : Int32))) mc mn mh ((0 : Int32), mf.2.1, mf.2.2.1, mf.2.2.2.1, mf.2.2.2.2.1, mf.2.2.2.2.2.1, mf.2.2.2.2.2.2.1, mf.2.2.2.2.2.2.2) mp) H := hP
                      refine lv_aload_n hx hb dX9_glass_152 rfl (lv_at hl 0 rfl) ?_
                      obtain ⟨v49, hv49, h⟩ := dq h
                      refine cVv (As := []) (rest := []) ⟨hx, hb, hml, hown, hts⟩ (c_X9_start (dT := dT) (mr := mr) (mg := ((upd mg.1 mg.2.2.2.toNatClampNeg a1), (upd mg.2.1 mg.2.2.2.toNatClampNeg (mr.2.2 (((20 : Int32) * a2) + a3).toNatClampNeg)), (upd mg.2.2.1 mg.2.2.2.toNatClampNeg (-1 : Int32)), (mg.2.2.2 + (1 : Int32)))) (mc := mc) (mn := mn) (mh := mh) (mf := ((0 : Int32), mf.2.1, mf.2.2.1, mf.2.2.2.1, mf.2.2.2.2.1, mf.2.2.2.2.2.1, mf.2.2.2.2.2.2.1, mf.2.2.2.2.2.2.2)) (mp := mp) hD hv49) (cwV 0 hts (good_V sub_z k_732 k_734 ks_19 k_9 k_735) rfl rfl rfl (by decide +kernel) (by decide)) (va_recv hK hP (ci := 8) (q0 := 0) rfl rfl) hK hP hS rfl hl.1 rfl (Nat.le_of_ble_eq_true rfl) dX9_glass_153 (by decide) (fun H locs hP hS => ?_)
                      refine lv_aload_n hx hb dX9_glass_156 rfl (lv_at hl 0 rfl) ?_
                      refine va_get (D := D) (ci := 8) (v := .int (mg.2.2.2 + (1 : Int32))) (C := RX9) (T := TX9) (N := 31) hx hb hts (fun w h => sub_z _ (inX9 w h)) hown hK hP 0 rfl rfl 6 (by decide) (hts _ (sub_z _ k_742)) (fun _ h => h) rfl dX9_glass_157 ?_
                      refine lv_iconst (v := 1) hx hb dX9_glass_160 (by decide) ?_
                      refine lv_isub hx hb dX9_glass_161 ?_
                      obtain rfl := Option.some.inj h
                      exact rI hx hb hr hlk hK hP hS dX9_glass_162
                    · rw [if_pos k47] at h
                      refine lv_iload hx hb dX9_glass_130 (lv_at hl 4 rfl) ?_
                      refine lv_goto (tgt := 136) hx hb dX9_glass_132 (by decide) ?_
                      obtain ⟨k50, h⟩ := dg h
                      refine va_iast (f := mg.2.2.1) hx hb hK hP (mD.w hD) hS 6 0 rfl rfl (inb_vp k50) dX9_glass_136 (fun H locs hP _ hS => ?_)
                      have hP : va_P D vwCl (wM dT q mr ((upd mg.1 mg.2.2.2.toNatClampNeg a1), (upd mg.2.1 mg.2.2.2.toNatClampNeg (mr.2.2 (((20 : Int32) * a2) + a3).toNatClampNeg)), (upd mg.2.2.1 mg.2.2.2.toNatClampNeg a4), mg.2.2.2) mc mn mh mf mp) H := hP
                      refine lv_aload_n hx hb dX9_glass_137 rfl (lv_at hl 0 rfl) ?_
                      refine lv_dup hx hb dX9_glass_138 rfl ?_
                      refine va_get (D := D) (ci := 8) (v := .int mg.2.2.2) (C := RX9) (T := TX9) (N := 31) hx hb hts (fun w h => sub_z _ (inX9 w h)) hown hK hP 0 rfl rfl 6 (by decide) (hts _ (sub_z _ k_742)) (fun _ h => h) rfl dX9_glass_139 ?_
                      refine lv_iconst (v := 1) hx hb dX9_glass_142 (by decide) ?_
                      refine lv_iadd hx hb dX9_glass_143 ?_
                      refine va_put (D := D) (ci := 8) (v := .int (mg.2.2.2 + (1 : Int32))) (ty := .int) (C := RX9) (T := TX9) (N := 31) hx hb hts (fun w h => sub_z _ (inX9 w h)) tyX9 tyX9_ok nmX9 hown hK hP (mD.w hD) hS 0 rfl rfl 6 (by decide) (hts _ (sub_z _ k_742)) (fun _ h => h) rfl (by decide +kernel) rfl rfl (Nat.le_of_ble_eq_true rfl) dX9_glass_144 (fun H locs hP _ hS => ?_)
                      have hP : va_P D vwCl (wM dT q mr ((upd mg.1 mg.2.2.2.toNatClampNeg a1), (upd mg.2.1 mg.2.2.2.toNatClampNeg (mr.2.2 (((20 : Int32) * a2) + a3).toNatClampNeg)), (upd mg.2.2.1 mg.2.2.2.toNatClampNeg a4), (mg.2.2.2 + (1 : Int32))) mc mn mh mf mp) H := hP
                      refine lv_aload_n hx hb dX9_glass_147 rfl (lv_at hl 0 rfl) ?_
                      refine lv_iconst (v := 0) hx hb dX9_glass_148 (by decide) ?_
                      refine va_put (D := D) (ci := 8) (v := .int (0 : Int32)) (ty := .boolean) (C := RX9) (T := TX9) (N := 31) hx hb hts (fun w h => sub_z _ (inX9 w h)) tyX9 tyX9_ok nmX9 hown hK hP (mD.w hD) hS 0 rfl rfl 22 (by decide) (hts _ (sub_z _ k_758)) (fun _ h => h) rfl (by decide +kernel) rfl rfl (Nat.le_of_ble_eq_true rfl) dX9_glass_149 (fun H locs hP _ hS => ?_)
                      have hP : va_P D vwCl (wM dT q mr ((upd mg.1 mg.2.2.2.toNatClampNeg a1), (upd mg.2.1 mg.2.2.2.toNatClampNeg (mr.2.2 (((20 : Int32) * a2) + a3).toNatClampNeg)), (upd mg.2.2.1 mg.2.2.2.toNatClampNeg a4), (mg.2.2.2 + (1 : Int32))) mc mn mh ((0 : Int32), mf.2.1, mf.2.2.1, mf.2.2.2.1, mf.2.2.2.2.1, mf.2.2.2.2.2.1, mf.2.2.2.2.2.2.1, mf.2.2.2.2.2.2.2) mp) H := hP
                      refine lv_aload_n hx hb dX9_glass_152 rfl (lv_at hl 0 rfl) ?_
                      obtain ⟨v51, hv51, h⟩ := dq h
                      refine cVv (As := []) (rest := []) ⟨hx, hb, hml, hown, hts⟩ (c_X9_start (dT := dT) (mr := mr) (mg := ((upd mg.1 mg.2.2.2.toNatClampNeg a1), (upd mg.2.1 mg.2.2.2.toNatClampNeg (mr.2.2 (((20 : Int32) * a2) + a3).toNatClampNeg)), (upd mg.2.2.1 mg.2.2.2.toNatClampNeg a4), (mg.2.2.2 + (1 : Int32)))) (mc := mc) (mn := mn) (mh := mh) (mf := ((0 : Int32), mf.2.1, mf.2.2.1, mf.2.2.2.1, mf.2.2.2.2.1, mf.2.2.2.2.2.1, mf.2.2.2.2.2.2.1, mf.2.2.2.2.2.2.2)) (mp := mp) hD hv51) (cwV 0 hts (good_V sub_z k_732 k_734 ks_19 k_9 k_735) rfl rfl rfl (by decide +kernel) (by decide)) (va_recv hK hP (ci := 8) (q0 := 0) rfl rfl) hK hP hS rfl hl.1 rfl (Nat.le_of_ble_eq_true rfl) dX9_glass_153 (by decide) (fun H locs hP hS => ?_)
                      refine lv_aload_n hx hb dX9_glass_156 rfl (lv_at hl 0 rfl) ?_
                      refine va_get (D := D) (ci := 8) (v := .int (mg.2.2.2 + (1 : Int32))) (C := RX9) (T := TX9) (N := 31) hx hb hts (fun w h => sub_z _ (inX9 w h)) hown hK hP 0 rfl rfl 6 (by decide) (hts _ (sub_z _ k_742)) (fun _ h => h) rfl dX9_glass_157 ?_
                      refine lv_iconst (v := 1) hx hb dX9_glass_160 (by decide) ?_
                      refine lv_isub hx hb dX9_glass_161 ?_
                      obtain rfl := Option.some.inj h
                      exact rI hx hb hr hlk hK hP hS dX9_glass_162
                · rw [if_pos k40] at h
                  refine lv_bipush (v := -2) hx hb dX9_glass_79 (by decide) ?_
                  obtain rfl := Option.some.inj h
                  exact rI hx hb hr hlk hK hP hS dX9_glass_81
              · rw [if_pos k39] at h
                refine lv_iload hx hb dX9_glass_58 (lv_at hl 4 rfl) ?_
                refine lv_iconst (v := 1) hx hb dX9_glass_60 (by decide) ?_
                refine lv_bipush (v := 9) hx hb dX9_glass_61 (by decide) ?_
                obtain ⟨v52, hv52, h⟩ := dq h
                refine cSi (As := [.int a4, .int (1 : Int32), .int (9 : Int32)]) (rest := []) ⟨hx, hb, hml, hown, hts⟩ (c_X9_in (dT := dT) (mr := mr) (mg := mg) (mc := mc) (mn := mn) (mh := mh) (mf := mf) (mp := mp) hD hv52) (va_cwS 3 hts (good_S sub_z k_837 k_838 k_9 k_839) rfl rfl rfl (by decide +kernel) (by decide)) hK hP hS rfl hl.1 rfl (Nat.le_of_ble_eq_true rfl) dX9_glass_63 (by decide) (fun H locs hP hS => ?_)
                refine lv_if_ne (tgt := 71) hx hb dX9_glass_66 (by decide) (fun k53 => ?_) (fun k53 => ?_)
                · rw [if_neg k53] at h
                  refine lv_aload_n hx hb dX9_glass_71 rfl (lv_at hl 0 rfl) ?_
                  refine va_get (D := D) (ci := 8) (v := .int mg.2.2.2) (C := RX9) (T := TX9) (N := 31) hx hb hts (fun w h => sub_z _ (inX9 w h)) hown hK hP 0 rfl rfl 6 (by decide) (hts _ (sub_z _ k_742)) (fun _ h => h) rfl dX9_glass_72 ?_
                  refine lv_iconst (v := 4) hx hb dX9_glass_75 (by decide) ?_
                  refine lv_icmp_ne (tgt := 82) hx hb dX9_glass_76 (by decide) (fun k54 => ?_) (fun k54 => ?_)
                  · rw [if_neg k54] at h
                    refine lv_aload_n hx hb dX9_glass_82 rfl (lv_at hl 0 rfl) ?_
                    refine va_get (D := D) (ci := 8) (v := .ref (q 4)) (C := RX9) (T := TX9) (N := 31) hx hb hts (fun w h => sub_z _ (inX9 w h)) hown hK hP 0 rfl rfl 3 (by decide) (hts _ (sub_z _ k_739)) (fun _ h => h) rfl dX9_glass_83 ?_
                    refine lv_aload_n hx hb dX9_glass_86 rfl (lv_at hl 0 rfl) ?_
                    refine va_get (D := D) (ci := 8) (v := .int mg.2.2.2) (C := RX9) (T := TX9) (N := 31) hx hb hts (fun w h => sub_z _ (inX9 w h)) hown hK hP 0 rfl rfl 6 (by decide) (hts _ (sub_z _ k_742)) (fun _ h => h) rfl dX9_glass_87 ?_
                    refine lv_iload_n hx hb dX9_glass_90 rfl (lv_at hl 1 rfl) ?_
                    obtain ⟨k55, h⟩ := dg h
                    refine va_iast (f := mg.1) hx hb hK hP (mD.w hD) hS 4 0 rfl rfl (inb_vp k55) dX9_glass_91 (fun H locs hP _ hS => ?_)
                    have hP : va_P D vwCl (wM dT q mr ((upd mg.1 mg.2.2.2.toNatClampNeg a1), mg.2.1, mg.2.2.1, mg.2.2.2) mc mn mh mf mp) H := hP
                    refine lv_aload_n hx hb dX9_glass_92 rfl (lv_at hl 0 rfl) ?_
                    refine va_get (D := D) (ci := 8) (v := .ref (q 5)) (C := RX9) (T := TX9) (N := 31) hx hb hts (fun w h => sub_z _ (inX9 w h)) hown hK hP 0 rfl rfl 4 (by decide) (hts _ (sub_z _ k_740)) (fun _ h => h) rfl dX9_glass_93 ?_
                    refine lv_aload_n hx hb dX9_glass_96 rfl (lv_at hl 0 rfl) ?_
                    refine va_get (D := D) (ci := 8) (v := .int mg.2.2.2) (C := RX9) (T := TX9) (N := 31) hx hb hts (fun w h => sub_z _ (inX9 w h)) hown hK hP 0 rfl rfl 6 (by decide) (hts _ (sub_z _ k_742)) (fun _ h => h) rfl dX9_glass_97 ?_
                    refine lv_aload_n hx hb dX9_glass_100 rfl (lv_at hl 0 rfl) ?_
                    refine va_get (D := D) (ci := 8) (v := .ref (q 3)) (C := RX9) (T := TX9) (N := 31) hx hb hts (fun w h => sub_z _ (inX9 w h)) hown hK hP 0 rfl rfl 2 (by decide) (hts _ (sub_z _ k_738)) (fun _ h => h) rfl dX9_glass_101 ?_
                    refine lv_bipush (v := 20) hx hb dX9_glass_104 (by decide) ?_
                    refine lv_iload_n hx hb dX9_glass_106 rfl (lv_at hl 2 rfl) ?_
                    refine lv_imul hx hb dX9_glass_107 ?_
                    refine lv_iload_n hx hb dX9_glass_108 rfl (lv_at hl 3 rfl) ?_
                    refine lv_iadd hx hb dX9_glass_109 ?_
                    obtain ⟨k56, h⟩ := dg h
                    refine va_iald (f := mr.2.2) hx hb hK hP 3 0 rfl rfl (inb_vp k56) dX9_glass_110 ?_
                    obtain ⟨k57, h⟩ := dg h
                    refine va_iast (f := mg.2.1) hx hb hK hP (mD.w hD) hS 5 0 rfl rfl (inb_vp k57) dX9_glass_111 (fun H locs hP _ hS => ?_)
                    have hP : va_P D vwCl (wM dT q mr ((upd mg.1 mg.2.2.2.toNatClampNeg a1), (upd mg.2.1 mg.2.2.2.toNatClampNeg (mr.2.2 (((20 : Int32) * a2) + a3).toNatClampNeg)), mg.2.2.1, mg.2.2.2) mc mn mh mf mp) H := hP
                    refine lv_aload_n hx hb dX9_glass_112 rfl (lv_at hl 0 rfl) ?_
                    refine va_get (D := D) (ci := 8) (v := .ref (q 6)) (C := RX9) (T := TX9) (N := 31) hx hb hts (fun w h => sub_z _ (inX9 w h)) hown hK hP 0 rfl rfl 5 (by decide) (hts _ (sub_z _ k_741)) (fun _ h => h) rfl dX9_glass_113 ?_
                    refine lv_aload_n hx hb dX9_glass_116 rfl (lv_at hl 0 rfl) ?_
                    refine va_get (D := D) (ci := 8) (v := .int mg.2.2.2) (C := RX9) (T := TX9) (N := 31) hx hb hts (fun w h => sub_z _ (inX9 w h)) hown hK hP 0 rfl rfl 6 (by decide) (hts _ (sub_z _ k_742)) (fun _ h => h) rfl dX9_glass_117 ?_
                    refine lv_iload_n hx hb dX9_glass_120 rfl (lv_at hl 1 rfl) ?_
                    refine lv_iconst (v := 1) hx hb dX9_glass_121 (by decide) ?_
                    refine lv_icmp_eq (tgt := 130) hx hb dX9_glass_122 (by decide) (fun k58 => ?_) (fun k58 => ?_)
                    · rw [if_pos k58] at h
                      refine lv_iload hx hb dX9_glass_130 (lv_at hl 4 rfl) ?_
                      refine lv_goto (tgt := 136) hx hb dX9_glass_132 (by decide) ?_
                      obtain ⟨k59, h⟩ := dg h
                      refine va_iast (f := mg.2.2.1) hx hb hK hP (mD.w hD) hS 6 0 rfl rfl (inb_vp k59) dX9_glass_136 (fun H locs hP _ hS => ?_)
                      have hP : va_P D vwCl (wM dT q mr ((upd mg.1 mg.2.2.2.toNatClampNeg a1), (upd mg.2.1 mg.2.2.2.toNatClampNeg (mr.2.2 (((20 : Int32) * a2) + a3).toNatClampNeg)), (upd mg.2.2.1 mg.2.2.2.toNatClampNeg a4), mg.2.2.2) mc mn mh mf mp) H := hP
                      refine lv_aload_n hx hb dX9_glass_137 rfl (lv_at hl 0 rfl) ?_
                      refine lv_dup hx hb dX9_glass_138 rfl ?_
                      refine va_get (D := D) (ci := 8) (v := .int mg.2.2.2) (C := RX9) (T := TX9) (N := 31) hx hb hts (fun w h => sub_z _ (inX9 w h)) hown hK hP 0 rfl rfl 6 (by decide) (hts _ (sub_z _ k_742)) (fun _ h => h) rfl dX9_glass_139 ?_
                      refine lv_iconst (v := 1) hx hb dX9_glass_142 (by decide) ?_
                      refine lv_iadd hx hb dX9_glass_143 ?_
                      refine va_put (D := D) (ci := 8) (v := .int (mg.2.2.2 + (1 : Int32))) (ty := .int) (C := RX9) (T := TX9) (N := 31) hx hb hts (fun w h => sub_z _ (inX9 w h)) tyX9 tyX9_ok nmX9 hown hK hP (mD.w hD) hS 0 rfl rfl 6 (by decide) (hts _ (sub_z _ k_742)) (fun _ h => h) rfl (by decide +kernel) rfl rfl (Nat.le_of_ble_eq_true rfl) dX9_glass_144 (fun H locs hP _ hS => ?_)
                      have hP : va_P D vwCl (wM dT q mr ((upd mg.1 mg.2.2.2.toNatClampNeg a1), (upd mg.2.1 mg.2.2.2.toNatClampNeg (mr.2.2 (((20 : Int32) * a2) + a3).toNatClampNeg)), (upd mg.2.2.1 mg.2.2.2.toNatClampNeg a4), (mg.2.2.2 + (1 : Int32))) mc mn mh mf mp) H := hP
                      refine lv_aload_n hx hb dX9_glass_147 rfl (lv_at hl 0 rfl) ?_
                      refine lv_iconst (v := 0) hx hb dX9_glass_148 (by decide) ?_
                      refine va_put (D := D) (ci := 8) (v := .int (0 : Int32)) (ty := .boolean) (C := RX9) (T := TX9) (N := 31) hx hb hts (fun w h => sub_z _ (inX9 w h)) tyX9 tyX9_ok nmX9 hown hK hP (mD.w hD) hS 0 rfl rfl 22 (by decide) (hts _ (sub_z _ k_758)) (fun _ h => h) rfl (by decide +kernel) rfl rfl (Nat.le_of_ble_eq_true rfl) dX9_glass_149 (fun H locs hP _ hS => ?_)
                      have hP : va_P D vwCl (wM dT q mr ((upd mg.1 mg.2.2.2.toNatClampNeg a1), (upd mg.2.1 mg.2.2.2.toNatClampNeg (mr.2.2 (((20 : Int32) * a2) + a3).toNatClampNeg)), (upd mg.2.2.1 mg.2.2.2.toNatClampNeg a4), (mg.2.2.2 + (1 : Int32))) mc mn mh ((0 : Int32), mf.2.1, mf.2.2.1, mf.2.2.2.1, mf.2.2.2.2.1, mf.2.2.2.2.2.1, mf.2.2.2.2.2.2.1, mf.2.2.2.2.2.2.2) mp) H := hP
                      refine lv_aload_n hx hb dX9_glass_152 rfl (lv_at hl 0 rfl) ?_
                      obtain ⟨v60, hv60, h⟩ := dq h
                      refine cVv (As := []) (rest := []) ⟨hx, hb, hml, hown, hts⟩ (c_X9_start (dT := dT) (mr := mr) (mg := ((upd mg.1 mg.2.2.2.toNatClampNeg a1), (upd mg.2.1 mg.2.2.2.toNatClampNeg (mr.2.2 (((20 : Int32) * a2) + a3).toNatClampNeg)), (upd mg.2.2.1 mg.2.2.2.toNatClampNeg a4), (mg.2.2.2 + (1 : Int32)))) (mc := mc) (mn := mn) (mh := mh) (mf := ((0 : Int32), mf.2.1, mf.2.2.1, mf.2.2.2.1, mf.2.2.2.2.1, mf.2.2.2.2.2.1, mf.2.2.2.2.2.2.1, mf.2.2.2.2.2.2.2)) (mp := mp) hD hv60) (cwV 0 hts (good_V sub_z k_732 k_734 ks_19 k_9 k_735) rfl rfl rfl (by decide +kernel) (by decide)) (va_recv hK hP (ci := 8) (q0 := 0) rfl rfl) hK hP hS rfl hl.1 rfl (Nat.le_of_ble_eq_true rfl) dX9_glass_153 (by decide) (fun H locs hP hS => ?_)
                      refine lv_aload_n hx hb dX9_glass_156 rfl (lv_at hl 0 rfl) ?_
                      refine va_get (D := D) (ci := 8) (v := .int (mg.2.2.2 + (1 : Int32))) (C := RX9) (T := TX9) (N := 31) hx hb hts (fun w h => sub_z _ (inX9 w h)) hown hK hP 0 rfl rfl 6 (by decide) (hts _ (sub_z _ k_742)) (fun _ h => h) rfl dX9_glass_157 ?_
                      refine lv_iconst (v := 1) hx hb dX9_glass_160 (by decide) ?_
                      refine lv_isub hx hb dX9_glass_161 ?_
                      obtain rfl := Option.some.inj h
                      exact rI hx hb hr hlk hK hP hS dX9_glass_162
                    · rw [if_neg k58] at h
                      refine lv_iload_n hx hb dX9_glass_125 rfl (lv_at hl 1 rfl) ?_
                      refine lv_iconst (v := 4) hx hb dX9_glass_126 (by decide) ?_
                      refine lv_icmp_ne (tgt := 135) hx hb dX9_glass_127 (by decide) (fun k61 => ?_) (fun k61 => ?_)
                      · rw [if_neg k61] at h
                        refine lv_iconst (v := -1) hx hb dX9_glass_135 (by decide) ?_
                        obtain ⟨k62, h⟩ := dg h
                        refine va_iast (f := mg.2.2.1) hx hb hK hP (mD.w hD) hS 6 0 rfl rfl (inb_vp k62) dX9_glass_136 (fun H locs hP _ hS => ?_)
                        have hP : va_P D vwCl (wM dT q mr ((upd mg.1 mg.2.2.2.toNatClampNeg a1), (upd mg.2.1 mg.2.2.2.toNatClampNeg (mr.2.2 (((20 : Int32) * a2) + a3).toNatClampNeg)), (upd mg.2.2.1 mg.2.2.2.toNatClampNeg (-1 : Int32)), mg.2.2.2) mc mn mh mf mp) H := hP
                        refine lv_aload_n hx hb dX9_glass_137 rfl (lv_at hl 0 rfl) ?_
                        refine lv_dup hx hb dX9_glass_138 rfl ?_
                        refine va_get (D := D) (ci := 8) (v := .int mg.2.2.2) (C := RX9) (T := TX9) (N := 31) hx hb hts (fun w h => sub_z _ (inX9 w h)) hown hK hP 0 rfl rfl 6 (by decide) (hts _ (sub_z _ k_742)) (fun _ h => h) rfl dX9_glass_139 ?_
                        refine lv_iconst (v := 1) hx hb dX9_glass_142 (by decide) ?_
                        refine lv_iadd hx hb dX9_glass_143 ?_
                        refine va_put (D := D) (ci := 8) (v := .int (mg.2.2.2 + (1 : Int32))) (ty := .int) (C := RX9) (T := TX9) (N := 31) hx hb hts (fun w h => sub_z _ (inX9 w h)) tyX9 tyX9_ok nmX9 hown hK hP (mD.w hD) hS 0 rfl rfl 6 (by decide) (hts _ (sub_z _ k_742)) (fun _ h => h) rfl (by decide +kernel) rfl rfl (Nat.le_of_ble_eq_true rfl) dX9_glass_144 (fun H locs hP _ hS => ?_)
                        have hP : va_P D vwCl (wM dT q mr ((upd mg.1 mg.2.2.2.toNatClampNeg a1), (upd mg.2.1 mg.2.2.2.toNatClampNeg (mr.2.2 (((20 : Int32) * a2) + a3).toNatClampNeg)), (upd mg.2.2.1 mg.2.2.2.toNatClampNeg (-1 : Int32)), (mg.2.2.2 + (1 : Int32))) mc mn mh mf mp) H := hP
                        refine lv_aload_n hx hb dX9_glass_147 rfl (lv_at hl 0 rfl) ?_
                        refine lv_iconst (v := 0) hx hb dX9_glass_148 (by decide) ?_
                        refine va_put (D := D) (ci := 8) (v := .int (0 : Int32)) (ty := .boolean) (C := RX9) (T := TX9) (N := 31) hx hb hts (fun w h => sub_z _ (inX9 w h)) tyX9 tyX9_ok nmX9 hown hK hP (mD.w hD) hS 0 rfl rfl 22 (by decide) (hts _ (sub_z _ k_758)) (fun _ h => h) rfl (by decide +kernel) rfl rfl (Nat.le_of_ble_eq_true rfl) dX9_glass_149 (fun H locs hP _ hS => ?_)
                        have hP : va_P D vwCl (wM dT q mr ((upd mg.1 mg.2.2.2.toNatClampNeg a1), (upd mg.2.1 mg.2.2.2.toNatClampNeg (mr.2.2 (((20 : Int32) * a2) + a3).toNatClampNeg)), (upd mg.2.2.1 mg.2.2.2.toNatClampNeg (-1 : Int32)), (mg.2.2.2 + (1 : Int32))) mc mn mh ((0 : Int32), mf.2.1, mf.2.2.1, mf.2.2.2.1, mf.2.2.2.2.1, mf.2.2.2.2.2.1, mf.2.2.2.2.2.2.1, mf.2.2.2.2.2.2.2) mp) H := hP
                        refine lv_aload_n hx hb dX9_glass_152 rfl (lv_at hl 0 rfl) ?_
                        obtain ⟨v63, hv63, h⟩ := dq h
                        refine cVv (As := []) (rest := []) ⟨hx, hb, hml, hown, hts⟩ (c_X9_start (dT := dT) (mr := mr) (mg := ((upd mg.1 mg.2.2.2.toNatClampNeg a1), (upd mg.2.1 mg.2.2.2.toNatClampNeg (mr.2.2 (((20 : Int32) * a2) + a3).toNatClampNeg)), (upd mg.2.2.1 mg.2.2.2.toNatClampNeg (-1 : Int32)), (mg.2.2.2 + (1 : Int32)))) (mc := mc) (mn := mn) (mh := mh) (mf := ((0 : Int32), mf.2.1, mf.2.2.1, mf.2.2.2.1, mf.2.2.2.2.1, mf.2.2.2.2.2.1, mf.2.2.2.2.2.2.1, mf.2.2.2.2.2.2.2)) (mp := mp) hD hv63) (cwV 0 hts (good_V sub_z k_732 k_734 ks_19 k_9 k_735) rfl rfl rfl (by decide +kernel) (by decide)) (va_recv hK hP (ci := 8) (q0 := 0) rfl rfl) hK hP hS rfl hl.1 rfl (Nat.le_of_ble_eq_true rfl) dX9_glass_153 (by decide) (fun H locs hP hS => ?_)
                        refine lv_aload_n hx hb dX9_glass_156 rfl (lv_at hl 0 rfl) ?_
                        refine va_get (D := D) (ci := 8) (v := .int (mg.2.2.2 + (1 : Int32))) (C := RX9) (T := TX9) (N := 31) hx hb hts (fun w h => sub_z _ (inX9 w h)) hown hK hP 0 rfl rfl 6 (by decide) (hts _ (sub_z _ k_742)) (fun _ h => h) rfl dX9_glass_157 ?_
                        refine lv_iconst (v := 1) hx hb dX9_glass_160 (by decide) ?_
                        refine lv_isub hx hb dX9_glass_161 ?_
                        obtain rfl := Option.some.inj h
                        exact rI hx hb hr hlk hK hP hS dX9_glass_162
                      · rw [if_pos k61] at h
                        refine lv_iload hx hb dX9_glass_130 (lv_at hl 4 rfl) ?_
                        refine lv_goto (tgt := 136) hx hb dX9_glass_132 (by decide) ?_
                        obtain ⟨k64, h⟩ := dg h
                        refine va_iast (f := mg.2.2.1) hx hb hK hP (mD.w hD) hS 6 0 rfl rfl (inb_vp k64) dX9_glass_136 (fun H locs hP _ hS => ?_)
                        have hP : va_P D vwCl (wM dT q mr ((upd mg.1 mg.2.2.2.toNatClampNeg a1), (upd mg.2.1 mg.2.2.2.toNatClampNeg (mr.2.2 (((20 : Int32) * a2) + a3).toNatClampNeg)), (upd mg.2.2.1 mg.2.2.2.toNatClampNeg a4), mg.2.2.2) mc mn mh mf mp) H := hP
                        refine lv_aload_n hx hb dX9_glass_137 rfl (lv_at hl 0 rfl) ?_
                        refine lv_dup hx hb dX9_glass_138 rfl ?_
                        refine va_get (D := D) (ci := 8) (v := .int mg.2.2.2) (C := RX9) (T := TX9) (N := 31) hx hb hts (fun w h => sub_z _ (inX9 w h)) hown hK hP 0 rfl rfl 6 (by decide) (hts _ (sub_z _ k_742)) (fun _ h => h) rfl dX9_glass_139 ?_
                        refine lv_iconst (v := 1) hx hb dX9_glass_142 (by decide) ?_
                        refine lv_iadd hx hb dX9_glass_143 ?_
                        refine va_put (D := D) (ci := 8) (v := .int (mg.2.2.2 + (1 : Int32))) (ty := .int) (C := RX9) (T := TX9) (N := 31) hx hb hts (fun w h => sub_z _ (inX9 w h)) tyX9 tyX9_ok nmX9 hown hK hP (mD.w hD) hS 0 rfl rfl 6 (by decide) (hts _ (sub_z _ k_742)) (fun _ h => h) rfl (by decide +kernel) rfl rfl (Nat.le_of_ble_eq_true rfl) dX9_glass_144 (fun H locs hP _ hS => ?_)
                        have hP : va_P D vwCl (wM dT q mr ((upd mg.1 mg.2.2.2.toNatClampNeg a1), (upd mg.2.1 mg.2.2.2.toNatClampNeg (mr.2.2 (((20 : Int32) * a2) + a3).toNatClampNeg)), (upd mg.2.2.1 mg.2.2.2.toNatClampNeg a4), (mg.2.2.2 + (1 : Int32))) mc mn mh mf mp) H := hP
                        refine lv_aload_n hx hb dX9_glass_147 rfl (lv_at hl 0 rfl) ?_
                        refine lv_iconst (v := 0) hx hb dX9_glass_148 (by decide) ?_
                        refine va_put (D := D) (ci := 8) (v := .int (0 : Int32)) (ty := .boolean) (C := RX9) (T := TX9) (N := 31) hx hb hts (fun w h => sub_z _ (inX9 w h)) tyX9 tyX9_ok nmX9 hown hK hP (mD.w hD) hS 0 rfl rfl 22 (by decide) (hts _ (sub_z _ k_758)) (fun _ h => h) rfl (by decide +kernel) rfl rfl (Nat.le_of_ble_eq_true rfl) dX9_glass_149 (fun H locs hP _ hS => ?_)
                        have hP : va_P D vwCl (wM dT q mr ((upd mg.1 mg.2.2.2.toNatClampNeg a1), (upd mg.2.1 mg.2.2.2.toNatClampNeg (mr.2.2 (((20 : Int32) * a2) + a3).toNatClampNeg)), (upd mg.2.2.1 mg.2.2.2.toNatClampNeg a4), (mg.2.2.2 + (1 : Int32))) mc mn mh ((0 : Int32), mf.2.1, mf.2.2.1, mf.2.2.2.1, mf.2.2.2.2.1, mf.2.2.2.2.2.1, mf.2.2.2.2.2.2.1, mf.2.2.2.2.2.2.2) mp) H := hP
                        refine lv_aload_n hx hb dX9_glass_152 rfl (lv_at hl 0 rfl) ?_
                        obtain ⟨v65, hv65, h⟩ := dq h
                        refine cVv (As := []) (rest := []) ⟨hx, hb, hml, hown, hts⟩ (c_X9_start (dT := dT) (mr := mr) (mg := ((upd mg.1 mg.2.2.2.toNatClampNeg a1), (upd mg.2.1 mg.2.2.2.toNatClampNeg (mr.2.2 (((20 : Int32) * a2) + a3).toNatClampNeg)), (upd mg.2.2.1 mg.2.2.2.toNatClampNeg a4), (mg.2.2.2 + (1 : Int32)))) (mc := mc) (mn := mn) (mh := mh) (mf := ((0 : Int32), mf.2.1, mf.2.2.1, mf.2.2.2.1, mf.2.2.2.2.1, mf.2.2.2.2.2.1, mf.2.2.2.2.2.2.1, mf.2.2.2.2.2.2.2)) (mp := mp) hD hv65) (cwV 0 hts (good_V sub_z k_732 k_734 ks_19 k_9 k_735) rfl rfl rfl (by decide +kernel) (by decide)) (va_recv hK hP (ci := 8) (q0 := 0) rfl rfl) hK hP hS rfl hl.1 rfl (Nat.le_of_ble_eq_true rfl) dX9_glass_153 (by decide) (fun H locs hP hS => ?_)
                        refine lv_aload_n hx hb dX9_glass_156 rfl (lv_at hl 0 rfl) ?_
                        refine va_get (D := D) (ci := 8) (v := .int (mg.2.2.2 + (1 : Int32))) (C := RX9) (T := TX9) (N := 31) hx hb hts (fun w h => sub_z _ (inX9 w h)) hown hK hP 0 rfl rfl 6 (by decide) (hts _ (sub_z _ k_742)) (fun _ h => h) rfl dX9_glass_157 ?_
                        refine lv_iconst (v := 1) hx hb dX9_glass_160 (by decide) ?_
                        refine lv_isub hx hb dX9_glass_161 ?_
                        obtain rfl := Option.some.inj h
                        exact rI hx hb hr hlk hK hP hS dX9_glass_162
                  · rw [if_pos k54] at h
                    refine lv_bipush (v := -2) hx hb dX9_glass_79 (by decide) ?_
                    obtain rfl := Option.some.inj h
                    exact rI hx hb hr hlk hK hP hS dX9_glass_81
                · rw [if_pos k53] at h
                  refine lv_iconst (v := -1) hx hb dX9_glass_69 (by decide) ?_
                  obtain rfl := Option.some.inj h
                  exact rI hx hb hr hlk hK hP hS dX9_glass_70
      · rw [if_neg k6] at h
        refine lv_bipush (v := -3) hx hb dX9_glass_27 (by decide) ?_
        obtain rfl := Option.some.inj h
        exact rI hx hb hr hlk hK hP hS dX9_glass_29
    · rw [if_pos k4] at h
      refine lv_iconst (v := -1) hx hb dX9_glass_16 (by decide) ?_
      obtain rfl := Option.some.inj h
      exact rI hx hb hr hlk hK hP hS dX9_glass_17

set_option maxRecDepth 100000 in
set_option maxHeartbeats 4000000 in
theorem c_X9_fill {l : Launch} {D : va_G} {dT : Nat → ClassId} {q : Nat → Nat} (hD : mD q) {mr : tMR} {mg : tMG} {mc : tMC} {mn : tMN} {mh : tMH} {mf : tMF} {mp : tMP} {a1 : Int32} {a2 : Int32} {a3 : Int32} {v : Int32 × tMG × tMH × tMF} (h : f_X9_fill mr mg mh mf a1 a2 a3 = some v) : MG l yX9_fill cX9_fill 4 (some .int) 2 [.ref (q 0), .int a1, .int a2, .int a3] D (tyL dT) (wM dT q mr mg mc mn mh mf mp) (QI D (tyL dT) (mA q) (wM dT q mr v.2.1 mc mn v.2.2.1 v.2.2.2 mp) v.1) (mA q) := by
  refine MG.mk (by decide +kernel) (Nat.le_of_ble_eq_true rfl) ?_
  intro p e s m below meth c hx hb hr hml hown hts hlk hK hP ls hl
  have hown : s.vm.findClass RX9 = some m.cls := hown
  have hS : va_S (mA q) s.heap s.heap [] := va_S.rf
  have hl : lv_has ls 4 [(0, .ref (q 0)), (1, .int a1), (2, .int a2), (3, .int a3)] := hl
  rw [f_X9_fill] at h
  refine lv_aload_n hx hb dX9_fill_0 rfl (lv_at hl 0 rfl) ?_
  refine lv_iload_n hx hb dX9_fill_1 rfl (lv_at hl 1 rfl) ?_
  obtain ⟨v1, hv1, h⟩ := dq h
  refine cVi (As := [.int a1]) (rest := []) ⟨hx, hb, hml, hown, hts⟩ (c_X9_isGlass (dT := dT) (mr := mr) (mg := mg) (mc := mc) (mn := mn) (mh := mh) (mf := mf) (mp := mp) hD hv1) (cwV 1 hts (good_V sub_z k_861 k_863 ks_21 k_9 k_864) rfl rfl rfl (by decide +kernel) (by decide)) (va_recv hK hP (ci := 8) (q0 := 0) rfl rfl) hK hP hS rfl hl.1 rfl (Nat.le_of_ble_eq_true rfl) dX9_fill_2 (by decide) (fun H locs hP hS => ?_)
  refine lv_if_eq (tgt := 15) hx hb dX9_fill_5 (by decide) (fun k2 => ?_) (fun k2 => ?_)
  · rw [if_pos k2] at h
    refine lv_iconst (v := -1) hx hb dX9_fill_15 (by decide) ?_
    obtain rfl := Option.some.inj h
    exact rI hx hb hr hlk hK hP hS dX9_fill_16
  · rw [if_neg k2] at h
    refine lv_iload_n hx hb dX9_fill_8 rfl (lv_at hl 2 rfl) ?_
    obtain ⟨v3, hv3, h⟩ := dq h
    refine cSi (As := [.int a2]) (rest := []) ⟨hx, hb, hml, hown, hts⟩ (c_X9_isRow (dT := dT) (mr := mr) (mg := mg) (mc := mc) (mn := mn) (mh := mh) (mf := mf) (mp := mp) hD hv3) (va_cwS 1 hts (good_S sub_z k_834 k_835 k_9 k_836) rfl rfl rfl (by decide +kernel) (by decide)) hK hP hS rfl hl.1 rfl (Nat.le_of_ble_eq_true rfl) dX9_fill_9 (by decide) (fun H locs hP hS => ?_)
    refine lv_if_ne (tgt := 17) hx hb dX9_fill_12 (by decide) (fun k4 => ?_) (fun k4 => ?_)
    · rw [if_neg k4] at h
      refine lv_aload_n hx hb dX9_fill_17 rfl (lv_at hl 0 rfl) ?_
      refine va_get (D := D) (ci := 8) (v := .ref (q 2)) (C := RX9) (T := TX9) (N := 31) hx hb hts (fun w h => sub_z _ (inX9 w h)) hown hK hP 0 rfl rfl 1 (by decide) (hts _ (sub_z _ k_737)) (fun _ h => h) rfl dX9_fill_18 ?_
      refine lv_iload_n hx hb dX9_fill_21 rfl (lv_at hl 2 rfl) ?_
      obtain ⟨k5, h⟩ := dg h
      refine va_iald (f := mr.2.1) hx hb hK hP 2 0 rfl rfl (inb_vp k5) dX9_fill_22 ?_
      refine lv_if_ge (tgt := 29) hx hb dX9_fill_23 (by decide) (fun k6 => ?_) (fun k6 => ?_)
      · rw [if_pos k6] at h
        refine lv_aload_n hx hb dX9_fill_29 rfl (lv_at hl 0 rfl) ?_
        refine lv_iload_n hx hb dX9_fill_30 rfl (lv_at hl 2 rfl) ?_
        refine lv_iload_n hx hb dX9_fill_31 rfl (lv_at hl 3 rfl) ?_
        obtain ⟨v7, hv7, h⟩ := dq h
        refine cVi (As := [.int a2, .int a3]) (rest := []) ⟨hx, hb, hml, hown, hts⟩ (c_X9_isGrains (dT := dT) (mr := mr) (mg := mg) (mc := mc) (mn := mn) (mh := mh) (mf := mf) (mp := mp) hD hv7) (cwV 2 hts (good_V sub_z k_857 k_859 ks_20 k_9 k_860) rfl rfl rfl (by decide +kernel) (by decide)) (va_recv hK hP (ci := 8) (q0 := 0) rfl rfl) hK hP hS rfl hl.1 rfl (Nat.le_of_ble_eq_true rfl) dX9_fill_32 (by decide) (fun H locs hP hS => ?_)
        refine lv_if_ne (tgt := 40) hx hb dX9_fill_35 (by decide) (fun k8 => ?_) (fun k8 => ?_)
        · rw [if_neg k8] at h
          refine lv_aload_n hx hb dX9_fill_40 rfl (lv_at hl 0 rfl) ?_
          refine va_get (D := D) (ci := 8) (v := .ref (q 5)) (C := RX9) (T := TX9) (N := 31) hx hb hts (fun w h => sub_z _ (inX9 w h)) hown hK hP 0 rfl rfl 4 (by decide) (hts _ (sub_z _ k_740)) (fun _ h => h) rfl dX9_fill_41 ?_
          refine lv_iload_n hx hb dX9_fill_44 rfl (lv_at hl 1 rfl) ?_
          refine lv_aload_n hx hb dX9_fill_45 rfl (lv_at hl 0 rfl) ?_
          refine va_get (D := D) (ci := 8) (v := .ref (q 3)) (C := RX9) (T := TX9) (N := 31) hx hb hts (fun w h => sub_z _ (inX9 w h)) hown hK hP 0 rfl rfl 2 (by decide) (hts _ (sub_z _ k_738)) (fun _ h => h) rfl dX9_fill_46 ?_
          refine lv_bipush (v := 20) hx hb dX9_fill_49 (by decide) ?_
          refine lv_iload_n hx hb dX9_fill_51 rfl (lv_at hl 2 rfl) ?_
          refine lv_imul hx hb dX9_fill_52 ?_
          refine lv_iload_n hx hb dX9_fill_53 rfl (lv_at hl 3 rfl) ?_
          refine lv_iadd hx hb dX9_fill_54 ?_
          obtain ⟨k9, h⟩ := dg h
          refine va_iald (f := mr.2.2) hx hb hK hP 3 0 rfl rfl (inb_vp k9) dX9_fill_55 ?_
          obtain ⟨k10, h⟩ := dg h
          refine va_iast (f := mg.2.1) hx hb hK hP (mD.w hD) hS 5 0 rfl rfl (inb_vp k10) dX9_fill_56 (fun H locs hP _ hS => ?_)
          have hP : va_P D vwCl (wM dT q mr (mg.1, (upd mg.2.1 a1.toNatClampNeg (mr.2.2 (((20 : Int32) * a2) + a3).toNatClampNeg)), mg.2.2.1, mg.2.2.2) mc mn mh mf mp) H := hP
          refine lv_aload_n hx hb dX9_fill_57 rfl (lv_at hl 0 rfl) ?_
          refine lv_iconst (v := 0) hx hb dX9_fill_58 (by decide) ?_
          refine va_put (D := D) (ci := 8) (v := .int (0 : Int32)) (ty := .boolean) (C := RX9) (T := TX9) (N := 31) hx hb hts (fun w h => sub_z _ (inX9 w h)) tyX9 tyX9_ok nmX9 hown hK hP (mD.w hD) hS 0 rfl rfl 22 (by decide) (hts _ (sub_z _ k_758)) (fun _ h => h) rfl (by decide +kernel) rfl rfl (Nat.le_of_ble_eq_true rfl) dX9_fill_59 (fun H locs hP _ hS => ?_)
          have hP : va_P D vwCl (wM dT q mr (mg.1, (upd mg.2.1 a1.toNatClampNeg (mr.2.2 (((20 : Int32) * a2) + a3).toNatClampNeg)), mg.2.2.1, mg.2.2.2) mc mn mh ((0 : Int32), mf.2.1, mf.2.2.1, mf.2.2.2.1, mf.2.2.2.2.1, mf.2.2.2.2.2.1, mf.2.2.2.2.2.2.1, mf.2.2.2.2.2.2.2) mp) H := hP
          refine lv_aload_n hx hb dX9_fill_62 rfl (lv_at hl 0 rfl) ?_
          obtain ⟨v11, hv11, h⟩ := dq h
          refine cVv (As := []) (rest := []) ⟨hx, hb, hml, hown, hts⟩ (c_X9_start (dT := dT) (mr := mr) (mg := (mg.1, (upd mg.2.1 a1.toNatClampNeg (mr.2.2 (((20 : Int32) * a2) + a3).toNatClampNeg)), mg.2.2.1, mg.2.2.2)) (mc := mc) (mn := mn) (mh := mh) (mf := ((0 : Int32), mf.2.1, mf.2.2.1, mf.2.2.2.1, mf.2.2.2.2.1, mf.2.2.2.2.2.1, mf.2.2.2.2.2.2.1, mf.2.2.2.2.2.2.2)) (mp := mp) hD hv11) (cwV 0 hts (good_V sub_z k_732 k_734 ks_19 k_9 k_735) rfl rfl rfl (by decide +kernel) (by decide)) (va_recv hK hP (ci := 8) (q0 := 0) rfl rfl) hK hP hS rfl hl.1 rfl (Nat.le_of_ble_eq_true rfl) dX9_fill_63 (by decide) (fun H locs hP hS => ?_)
          refine lv_iconst (v := 1) hx hb dX9_fill_66 (by decide) ?_
          obtain rfl := Option.some.inj h
          exact rI hx hb hr hlk hK hP hS dX9_fill_67
        · rw [if_pos k8] at h
          refine lv_iconst (v := -1) hx hb dX9_fill_38 (by decide) ?_
          obtain rfl := Option.some.inj h
          exact rI hx hb hr hlk hK hP hS dX9_fill_39
      · rw [if_neg k6] at h
        refine lv_bipush (v := -3) hx hb dX9_fill_26 (by decide) ?_
        obtain rfl := Option.some.inj h
        exact rI hx hb hr hlk hK hP hS dX9_fill_28
    · rw [if_pos k4] at h
      refine lv_iconst (v := -1) hx hb dX9_fill_15 (by decide) ?_
      obtain rfl := Option.some.inj h
      exact rI hx hb hr hlk hK hP hS dX9_fill_16

set_option maxRecDepth 100000 in
set_option maxHeartbeats 4000000 in
theorem c_X9_clear {l : Launch} {D : va_G} {dT : Nat → ClassId} {q : Nat → Nat} (hD : mD q) {mr : tMR} {mg : tMG} {mc : tMC} {mn : tMN} {mh : tMH} {mf : tMF} {mp : tMP}  {v : Int32 × tMG × tMH × tMF} (h : f_X9_clear mg mh mf = some v) : MG l yX9_clear cX9_clear 2 (some .int) 1 [.ref (q 0)] D (tyL dT) (wM dT q mr mg mc mn mh mf mp) (QI D (tyL dT) (mA q) (wM dT q mr v.2.1 mc mn v.2.2.1 v.2.2.2 mp) v.1) (mA q) := by
  refine MG.mk (by decide +kernel) (Nat.le_of_ble_eq_true rfl) ?_
  intro p e s m below meth c hx hb hr hml hown hts hlk hK hP ls hl
  have hown : s.vm.findClass RX9 = some m.cls := hown
  have hS : va_S (mA q) s.heap s.heap [] := va_S.rf
  have hl : lv_has ls 2 [(0, .ref (q 0))] := hl
  rw [f_X9_clear] at h
  refine lv_aload_n hx hb dX9_clear_0 rfl (lv_at hl 0 rfl) ?_
  refine va_get (D := D) (ci := 8) (v := .int mg.2.2.2) (C := RX9) (T := TX9) (N := 31) hx hb hts (fun w h => sub_z _ (inX9 w h)) hown hK hP 0 rfl rfl 6 (by decide) (hts _ (sub_z _ k_742)) (fun _ h => h) rfl dX9_clear_1 ?_
  refine lv_istore_n (lv' := [(1, .int mg.2.2.2), (0, .ref (q 0))]) hx hb dX9_clear_4 rfl hl (by decide) rfl (fun ls hl => ?_)
  refine lv_aload_n hx hb dX9_clear_5 rfl (lv_at hl 1 rfl) ?_
  refine lv_iconst (v := 0) hx hb dX9_clear_6 (by decide) ?_
  refine va_put (D := D) (ci := 8) (v := .int (0 : Int32)) (ty := .int) (C := RX9) (T := TX9) (N := 31) hx hb hts (fun w h => sub_z _ (inX9 w h)) tyX9 tyX9_ok nmX9 hown hK hP (mD.w hD) hS 0 rfl rfl 6 (by decide) (hts _ (sub_z _ k_742)) (fun _ h => h) rfl (by decide +kernel) rfl rfl (Nat.le_of_ble_eq_true rfl) dX9_clear_7 (fun H locs hP _ hS => ?_)
  have hP : va_P D vwCl (wM dT q mr (mg.1, mg.2.1, mg.2.2.1, (0 : Int32)) mc mn mh mf mp) H := hP
  refine lv_aload_n hx hb dX9_clear_10 rfl (lv_at hl 1 rfl) ?_
  refine lv_iconst (v := 0) hx hb dX9_clear_11 (by decide) ?_
  refine va_put (D := D) (ci := 8) (v := .int (0 : Int32)) (ty := .boolean) (C := RX9) (T := TX9) (N := 31) hx hb hts (fun w h => sub_z _ (inX9 w h)) tyX9 tyX9_ok nmX9 hown hK hP (mD.w hD) hS 0 rfl rfl 22 (by decide) (hts _ (sub_z _ k_758)) (fun _ h => h) rfl (by decide +kernel) rfl rfl (Nat.le_of_ble_eq_true rfl) dX9_clear_12 (fun H locs hP _ hS => ?_)
  have hP : va_P D vwCl (wM dT q mr (mg.1, mg.2.1, mg.2.2.1, (0 : Int32)) mc mn mh ((0 : Int32), mf.2.1, mf.2.2.1, mf.2.2.2.1, mf.2.2.2.2.1, mf.2.2.2.2.2.1, mf.2.2.2.2.2.2.1, mf.2.2.2.2.2.2.2) mp) H := hP
  refine lv_aload_n hx hb dX9_clear_15 rfl (lv_at hl 1 rfl) ?_
  obtain ⟨v1, hv1, h⟩ := dq h
  refine cVv (As := []) (rest := []) ⟨hx, hb, hml, hown, hts⟩ (c_X9_start (dT := dT) (mr := mr) (mg := (mg.1, mg.2.1, mg.2.2.1, (0 : Int32))) (mc := mc) (mn := mn) (mh := mh) (mf := ((0 : Int32), mf.2.1, mf.2.2.1, mf.2.2.2.1, mf.2.2.2.2.1, mf.2.2.2.2.2.1, mf.2.2.2.2.2.2.1, mf.2.2.2.2.2.2.2)) (mp := mp) hD hv1) (cwV 0 hts (good_V sub_z k_732 k_734 ks_19 k_9 k_735) rfl rfl rfl (by decide +kernel) (by decide)) (va_recv hK hP (ci := 8) (q0 := 0) rfl rfl) hK hP hS rfl hl.1 rfl (Nat.le_of_ble_eq_true rfl) dX9_clear_16 (by decide) (fun H locs hP hS => ?_)
  refine lv_iload_n hx hb dX9_clear_19 rfl (lv_at hl 0 rfl) ?_
  obtain rfl := Option.some.inj h
  exact rI hx hb hr hlk hK hP hS dX9_clear_20

set_option maxRecDepth 100000 in
set_option maxHeartbeats 4000000 in
theorem c_X9_part {l : Launch} {D : va_G} {dT : Nat → ClassId} {q : Nat → Nat} (hD : mD q) {mr : tMR} {mg : tMG} {mc : tMC} {mn : tMN} {mh : tMH} {mf : tMF} {mp : tMP} {a0 : Int32} {v : Int64} (h : f_X9_part a0 = some v) : MG l yX9_part cX9_part 4 (some .long) 0 [.int a0] D (tyL dT) (wM dT q mr mg mc mn mh mf mp) (QL D (tyL dT) (mA q) (wM dT q mr mg mc mn mh mf mp) v) (mA q) := by
  refine MG.mk (by decide +kernel) (Nat.le_of_ble_eq_true rfl) ?_
  intro p e s m below meth c hx hb hr hml hown hts hlk hK hP ls hl
  have hown : s.vm.findClass RX9 = some m.cls := hown
  have hS : va_S (mA q) s.heap s.heap [] := va_S.rf
  have hl : lv_has ls 4 [(0, .int a0)] := hl
  rw [f_X9_part] at h
  refine lv_lconst (v := 1) hx hb dX9_part_0 (by decide) ?_
  refine lv_lstore_n (lv' := [(1, .long (1 : Int64)), (0, .int a0)]) hx hb dX9_part_1 rfl hl (by decide) rfl (fun ls hl => ?_)
  refine lv_iload_n hx hb dX9_part_2 rfl (lv_at hl 1 rfl) ?_
  refine lv_istore_n (lv' := [(3, .int a0), (1, .long (1 : Int64)), (0, .int a0)]) hx hb dX9_part_3 rfl hl (by decide) rfl (fun ls hl => ?_)
  have hL4_2 : ∀ (n : Nat) (x1_4 : Int64) (x3_4 : Int32) (y : Int64 × Int32), f_X9_part_4 n a0 x1_4 x3_4 = some y → ∀ (ls : Array Slot) (H : Heap) (locs : List Loc), lv_has ls 4 [(0, .int a0), (1, .long x1_4), (3, .int x3_4)] → va_P D vwCl (wM dT q mr mg mc mn mh mf mp) H → va_S (mA q) s.heap H locs → ∀ Q : State → Prop, (∀ (ls : Array Slot) (H : Heap) (locs : List Loc), lv_has ls 4 [(0, .int a0), (1, .long y.1), (3, .int y.2)] → va_P D vwCl (wM dT q mr mg mc mn mh mf mp) H → va_S (mA q) s.heap H locs → W p l e (rmD 0) s m [.int a0].toArray below meth c H locs 0 0 Q (F0 m 21 ls [])) → W p l e (rmD 0) s m [.int a0].toArray below meth c H locs 0 0 Q (F0 m 4 ls []) := by
    intro n
    induction n with
    | zero => intro x1_4 x3_4 y h; exact absurd h (by simp [f_X9_part_4])
    | succ n ih =>
      intro x1_4 x3_4 y h ls H locs hl hP hS Q kk
      rw [f_X9_part_4] at h
      refine lv_iload_n hx hb dX9_part_4 rfl (lv_at hl 2 rfl) ?_
      refine lv_iconst (v := 3) hx hb dX9_part_5 (by decide) ?_
      refine lv_icmp_ge (tgt := 21) hx hb dX9_part_6 (by decide) (fun k1 => ?_) (fun k1 => ?_)
      · rw [if_pos k1] at h
        obtain rfl := Option.some.inj h
        exact kk _ _ _ (lv_sub hl [0, 1, 2] rfl) hP hS
      · rw [if_neg k1] at h
        refine lv_lload_n hx hb dX9_part_9 rfl (lv_at hl 1 rfl) ?_
        refine lv_ldc2 (v := 620) hx hb hown (hts _ (sub_z _ k_886)) dX9_part_10 ?_
        refine lv_lmul hx hb dX9_part_13 ?_
        refine lv_lstore_n (lv' := [(1, .long (x1_4 * (620 : Int64))), (0, .int a0), (3, .int x3_4)]) hx hb dX9_part_14 rfl hl (by decide) rfl (fun ls hl => ?_)
        refine lv_iinc (v := (x3_4 + (1 : Int32))) (lv' := [(3, .int (x3_4 + (1 : Int32))), (1, .long (x1_4 * (620 : Int64))), (0, .int a0)]) hx hb dX9_part_15 hl (k := 2) rfl rfl (by decide) rfl (fun ls hl => ?_)
        refine lv_goto (tgt := 4) hx hb dX9_part_18 (by decide) ?_
        exact ih _ _ _ h _ _ _ (lv_sub hl [2, 1, 0] rfl) hP hS _ kk
  obtain ⟨y3, hy3, h⟩ := dq h
  refine hL4_2 _ _ _ _ hy3 _ _ _ (lv_sub hl [2, 1, 0] rfl) hP hS _ (fun ls H locs hl hP hS => ?_)
  refine lv_lload_n hx hb dX9_part_21 rfl (lv_at hl 1 rfl) ?_
  obtain rfl := Option.some.inj h
  exact rL hx hb hr hlk hK hP hS dX9_part_22

set_option maxRecDepth 100000 in
set_option maxHeartbeats 4000000 in
theorem c_X9_partOf {l : Launch} {D : va_G} {dT : Nat → ClassId} {q : Nat → Nat} (hD : mD q) {mr : tMR} {mg : tMG} {mc : tMC} {mn : tMN} {mh : tMH} {mf : tMF} {mp : tMP} {a0 : Int64} {a2 : Int32} {v : Int32} (h : f_X9_partOf a0 a2 = some v) : MG l yX9_partOf cX9_partOf 3 (some .int) 1 [.long a0, .int a2] D (tyL dT) (wM dT q mr mg mc mn mh mf mp) (QI D (tyL dT) (mA q) (wM dT q mr mg mc mn mh mf mp) v) (mA q) := by
  refine MG.mk (by decide +kernel) (Nat.le_of_ble_eq_true rfl) ?_
  intro p e s m below meth c hx hb hr hml hown hts hlk hK hP ls hl
  have hown : s.vm.findClass RX9 = some m.cls := hown
  have hS : va_S (mA q) s.heap s.heap [] := va_S.rf
  have hl : lv_has ls 3 [(0, .long a0), (2, .int a2)] := hl
  rw [f_X9_partOf] at h
  refine lv_lload_n hx hb dX9_partOf_0 rfl (lv_at hl 0 rfl) ?_
  refine lv_iload_n hx hb dX9_partOf_1 rfl (lv_at hl 1 rfl) ?_
  obtain ⟨v1, hv1, h⟩ := dq h
  refine cSl (As := [.int a2]) (rest := [.long a0]) ⟨hx, hb, hml, hown, hts⟩ (c_X9_part (dT := dT) (mr := mr) (mg := mg) (mc := mc) (mn := mn) (mh := mh) (mf := mf) (mp := mp) hD hv1) (va_cwS 1 hts (good_S sub_z k_883 k_884 k_9 k_885) rfl rfl rfl (by decide +kernel) (by decide)) hK hP hS rfl hl.1 rfl (Nat.le_of_ble_eq_true rfl) dX9_partOf_2 (by decide) (fun H locs hP hS => ?_)
  obtain ⟨k2, h⟩ := dg h
  refine lv_ldiv hx hb dX9_partOf_5 (of_decide_eq_true k2) ?_
  refine lv_ldc2 (v := 620) hx hb hown (hts _ (sub_z _ k_886)) dX9_partOf_6 ?_
  refine lv_lrem hx hb dX9_partOf_9 (by decide) ?_
  refine lv_l2i (v := ((a0 / v1) - (a0 / v1) / (620 : Int64) * (620 : Int64)).toInt32) hx hb dX9_partOf_10 rfl ?_
  obtain rfl := Option.some.inj h
  exact rI hx hb hr hlk hK hP hS dX9_partOf_11

set_option maxRecDepth 100000 in
set_option maxHeartbeats 4000000 in
theorem c_X9_waits {l : Launch} {D : va_G} {dT : Nat → ClassId} {q : Nat → Nat} (hD : mD q) {mr : tMR} {mg : tMG} {mc : tMC} {mn : tMN} {mh : tMH} {mf : tMF} {mp : tMP} {a0 : Int64} {a2 : Int32} {v : Int32} (h : f_X9_waits a0 a2 = some v) : MG l yX9_waits cX9_waits 3 (some .int) 2 [.long a0, .int a2] D (tyL dT) (wM dT q mr mg mc mn mh mf mp) (QI D (tyL dT) (mA q) (wM dT q mr mg mc mn mh mf mp) v) (mA q) := by
  refine MG.mk (by decide +kernel) (Nat.le_of_ble_eq_true rfl) ?_
  intro p e s m below meth c hx hb hr hml hown hts hlk hK hP ls hl
  have hown : s.vm.findClass RX9 = some m.cls := hown
  have hS : va_S (mA q) s.heap s.heap [] := va_S.rf
  have hl : lv_has ls 3 [(0, .long a0), (2, .int a2)] := hl
  rw [f_X9_waits] at h
  refine lv_lload_n hx hb dX9_waits_0 rfl (lv_at hl 0 rfl) ?_
  refine lv_iload_n hx hb dX9_waits_1 rfl (lv_at hl 1 rfl) ?_
  obtain ⟨v1, hv1, h⟩ := dq h
  refine cSi (As := [.long a0, .int a2]) (rest := []) ⟨hx, hb, hml, hown, hts⟩ (c_X9_partOf (dT := dT) (mr := mr) (mg := mg) (mc := mc) (mn := mn) (mh := mh) (mf := mf) (mp := mp) hD hv1) (va_cwS 2 hts (good_S sub_z k_880 k_881 k_9 k_882) rfl rfl rfl (by decide +kernel) (by decide)) hK hP hS rfl hl.1 rfl (Nat.le_of_ble_eq_true rfl) dX9_waits_2 (by decide) (fun H locs hP hS => ?_)
  refine lv_bipush (v := 10) hx hb dX9_waits_5 (by decide) ?_
  refine lv_irem hx hb dX9_waits_7 (by decide) ?_
  obtain rfl := Option.some.inj h
  exact rI hx hb hr hlk hK hP hS dX9_waits_8

set_option maxRecDepth 100000 in
set_option maxHeartbeats 4000000 in
theorem c_X9_laid {l : Launch} {D : va_G} {dT : Nat → ClassId} {q : Nat → Nat} (hD : mD q) {mr : tMR} {mg : tMG} {mc : tMC} {mn : tMN} {mh : tMH} {mf : tMF} {mp : tMP} {a0 : Int64} {a2 : Int32} {v : Int32} (h : f_X9_laid a0 a2 = some v) : MG l yX9_laid cX9_laid 3 (some .int) 2 [.long a0, .int a2] D (tyL dT) (wM dT q mr mg mc mn mh mf mp) (QI D (tyL dT) (mA q) (wM dT q mr mg mc mn mh mf mp) v) (mA q) := by
  refine MG.mk (by decide +kernel) (Nat.le_of_ble_eq_true rfl) ?_
  intro p e s m below meth c hx hb hr hml hown hts hlk hK hP ls hl
  have hown : s.vm.findClass RX9 = some m.cls := hown
  have hS : va_S (mA q) s.heap s.heap [] := va_S.rf
  have hl : lv_has ls 3 [(0, .long a0), (2, .int a2)] := hl
  rw [f_X9_laid] at h
  refine lv_lload_n hx hb dX9_laid_0 rfl (lv_at hl 0 rfl) ?_
  refine lv_iload_n hx hb dX9_laid_1 rfl (lv_at hl 1 rfl) ?_
  obtain ⟨v1, hv1, h⟩ := dq h
  refine cSi (As := [.long a0, .int a2]) (rest := []) ⟨hx, hb, hml, hown, hts⟩ (c_X9_partOf (dT := dT) (mr := mr) (mg := mg) (mc := mc) (mn := mn) (mh := mh) (mf := mf) (mp := mp) hD hv1) (va_cwS 2 hts (good_S sub_z k_880 k_881 k_9 k_882) rfl rfl rfl (by decide +kernel) (by decide)) hK hP hS rfl hl.1 rfl (Nat.le_of_ble_eq_true rfl) dX9_laid_2 (by decide) (fun H locs hP hS => ?_)
  refine lv_bipush (v := 10) hx hb dX9_laid_5 (by decide) ?_
  refine lv_idiv hx hb dX9_laid_7 (by decide) ?_
  refine lv_iconst (v := 2) hx hb dX9_laid_8 (by decide) ?_
  refine lv_irem hx hb dX9_laid_9 (by decide) ?_
  obtain rfl := Option.some.inj h
  exact rI hx hb hr hlk hK hP hS dX9_laid_10

set_option maxRecDepth 100000 in
set_option maxHeartbeats 4000000 in
theorem c_X9_above {l : Launch} {D : va_G} {dT : Nat → ClassId} {q : Nat → Nat} (hD : mD q) {mr : tMR} {mg : tMG} {mc : tMC} {mn : tMN} {mh : tMH} {mf : tMF} {mp : tMP} {a0 : Int64} {a2 : Int32} {v : Int32} (h : f_X9_above a0 a2 = some v) : MG l yX9_above cX9_above 3 (some .int) 2 [.long a0, .int a2] D (tyL dT) (wM dT q mr mg mc mn mh mf mp) (QI D (tyL dT) (mA q) (wM dT q mr mg mc mn mh mf mp) v) (mA q) := by
  refine MG.mk (by decide +kernel) (Nat.le_of_ble_eq_true rfl) ?_
  intro p e s m below meth c hx hb hr hml hown hts hlk hK hP ls hl
  have hown : s.vm.findClass RX9 = some m.cls := hown
  have hS : va_S (mA q) s.heap s.heap [] := va_S.rf
  have hl : lv_has ls 3 [(0, .long a0), (2, .int a2)] := hl
  rw [f_X9_above] at h
  refine lv_lload_n hx hb dX9_above_0 rfl (lv_at hl 0 rfl) ?_
  refine lv_iload_n hx hb dX9_above_1 rfl (lv_at hl 1 rfl) ?_
  obtain ⟨v1, hv1, h⟩ := dq h
  refine cSi (As := [.long a0, .int a2]) (rest := []) ⟨hx, hb, hml, hown, hts⟩ (c_X9_partOf (dT := dT) (mr := mr) (mg := mg) (mc := mc) (mn := mn) (mh := mh) (mf := mf) (mp := mp) hD hv1) (va_cwS 2 hts (good_S sub_z k_880 k_881 k_9 k_882) rfl rfl rfl (by decide +kernel) (by decide)) hK hP hS rfl hl.1 rfl (Nat.le_of_ble_eq_true rfl) dX9_above_2 (by decide) (fun H locs hP hS => ?_)
  refine lv_bipush (v := 20) hx hb dX9_above_5 (by decide) ?_
  refine lv_idiv hx hb dX9_above_7 (by decide) ?_
  obtain rfl := Option.some.inj h
  exact rI hx hb hr hlk hK hP hS dX9_above_8

set_option maxRecDepth 100000 in
set_option maxHeartbeats 4000000 in
theorem c_X9_of {l : Launch} {D : va_G} {dT : Nat → ClassId} {q : Nat → Nat} (hD : mD q) {mr : tMR} {mg : tMG} {mc : tMC} {mn : tMN} {mh : tMH} {mf : tMF} {mp : tMP} {a1 : Int32} {a2 : Int32} {v : Int32} (h : f_X9_of mg mh a1 a2 = some v) : MG l yX9_of cX9_of 3 (some .int) 3 [.ref (q 0), .int a1, .int a2] D (tyL dT) (wM dT q mr mg mc mn mh mf mp) (QI D (tyL dT) (mA q) (wM dT q mr mg mc mn mh mf mp) v) (mA q) := by
  refine MG.mk (by decide +kernel) (Nat.le_of_ble_eq_true rfl) ?_
  intro p e s m below meth c hx hb hr hml hown hts hlk hK hP ls hl
  have hown : s.vm.findClass RX9 = some m.cls := hown
  have hS : va_S (mA q) s.heap s.heap [] := va_S.rf
  have hl : lv_has ls 3 [(0, .ref (q 0)), (1, .int a1), (2, .int a2)] := hl
  rw [f_X9_of] at h
  refine lv_aload_n hx hb dX9_of_0 rfl (lv_at hl 0 rfl) ?_
  refine lv_iload_n hx hb dX9_of_1 rfl (lv_at hl 1 rfl) ?_
  obtain ⟨v1, hv1, h⟩ := dq h
  refine cVi (As := [.int a1]) (rest := []) ⟨hx, hb, hml, hown, hts⟩ (c_X9_isGlass (dT := dT) (mr := mr) (mg := mg) (mc := mc) (mn := mn) (mh := mh) (mf := mf) (mp := mp) hD hv1) (cwV 1 hts (good_V sub_z k_861 k_863 ks_21 k_9 k_864) rfl rfl rfl (by decide +kernel) (by decide)) (va_recv hK hP (ci := 8) (q0 := 0) rfl rfl) hK hP hS rfl hl.1 rfl (Nat.le_of_ble_eq_true rfl) dX9_of_2 (by decide) (fun H locs hP hS => ?_)
  refine lv_if_ne (tgt := 10) hx hb dX9_of_5 (by decide) (fun k2 => ?_) (fun k2 => ?_)
  · rw [if_neg k2] at h
    refine lv_iload_n hx hb dX9_of_10 rfl (lv_at hl 2 rfl) ?_
    by_cases k3 : a2 = (0 : Int32)
    · rw [if_pos k3] at h
      refine lv_tableIn (tgt := 48) (off := 37) hx hb dX9_of_11 (by rw [k3]; decide) (by rw [k3]; decide) (by rw [k3]; rfl) (by decide) ?_
      refine lv_aload_n hx hb dX9_of_48 rfl (lv_at hl 0 rfl) ?_
      refine va_get (D := D) (ci := 8) (v := .ref (q 4)) (C := RX9) (T := TX9) (N := 31) hx hb hts (fun w h => sub_z _ (inX9 w h)) hown hK hP 0 rfl rfl 3 (by decide) (hts _ (sub_z _ k_739)) (fun _ h => h) rfl dX9_of_49 ?_
      refine lv_iload_n hx hb dX9_of_52 rfl (lv_at hl 1 rfl) ?_
      obtain ⟨k14, h⟩ := dg h
      refine va_iald (f := mg.1) hx hb hK hP 4 0 rfl rfl (inb_vp k14) dX9_of_53 ?_
      obtain rfl := Option.some.inj h
      exact rI hx hb hr hlk hK hP hS dX9_of_54
    · rw [if_neg k3] at h
      by_cases k4 : a2 = (1 : Int32)
      · rw [if_pos k4] at h
        refine lv_tableIn (tgt := 55) (off := 44) hx hb dX9_of_11 (by rw [k4]; decide) (by rw [k4]; decide) (by rw [k4]; rfl) (by decide) ?_
        refine lv_aload_n hx hb dX9_of_55 rfl (lv_at hl 0 rfl) ?_
        refine va_get (D := D) (ci := 8) (v := .ref (q 5)) (C := RX9) (T := TX9) (N := 31) hx hb hts (fun w h => sub_z _ (inX9 w h)) hown hK hP 0 rfl rfl 4 (by decide) (hts _ (sub_z _ k_740)) (fun _ h => h) rfl dX9_of_56 ?_
        refine lv_iload_n hx hb dX9_of_59 rfl (lv_at hl 1 rfl) ?_
        obtain ⟨k13, h⟩ := dg h
        refine va_iald (f := mg.2.1) hx hb hK hP 5 0 rfl rfl (inb_vp k13) dX9_of_60 ?_
        obtain rfl := Option.some.inj h
        exact rI hx hb hr hlk hK hP hS dX9_of_61
      · rw [if_neg k4] at h
        by_cases k5 : a2 = (2 : Int32)
        · rw [if_pos k5] at h
          refine lv_tableIn (tgt := 62) (off := 51) hx hb dX9_of_11 (by rw [k5]; decide) (by rw [k5]; decide) (by rw [k5]; rfl) (by decide) ?_
          refine lv_aload_n hx hb dX9_of_62 rfl (lv_at hl 0 rfl) ?_
          refine va_get (D := D) (ci := 8) (v := .ref (q 6)) (C := RX9) (T := TX9) (N := 31) hx hb hts (fun w h => sub_z _ (inX9 w h)) hown hK hP 0 rfl rfl 5 (by decide) (hts _ (sub_z _ k_741)) (fun _ h => h) rfl dX9_of_63 ?_
          refine lv_iload_n hx hb dX9_of_66 rfl (lv_at hl 1 rfl) ?_
          obtain ⟨k12, h⟩ := dg h
          refine va_iald (f := mg.2.2.1) hx hb hK hP 6 0 rfl rfl (inb_vp k12) dX9_of_67 ?_
          obtain rfl := Option.some.inj h
          exact rI hx hb hr hlk hK hP hS dX9_of_68
        · rw [if_neg k5] at h
          by_cases k6 : a2 = (3 : Int32)
          · rw [if_pos k6] at h
            refine lv_tableIn (tgt := 69) (off := 58) hx hb dX9_of_11 (by rw [k6]; decide) (by rw [k6]; decide) (by rw [k6]; rfl) (by decide) ?_
            refine lv_aload_n hx hb dX9_of_69 rfl (lv_at hl 0 rfl) ?_
            refine va_get (D := D) (ci := 8) (v := .long mh.1) (C := RX9) (T := TX9) (N := 31) hx hb hts (fun w h => sub_z _ (inX9 w h)) hown hK hP 0 rfl rfl 12 (by decide) (hts _ (sub_z _ k_748)) (fun _ h => h) rfl dX9_of_70 ?_
            refine lv_iload_n hx hb dX9_of_73 rfl (lv_at hl 1 rfl) ?_
            obtain ⟨v11, hv11, h⟩ := dq h
            refine cSi (As := [.long mh.1, .int a1]) (rest := []) ⟨hx, hb, hml, hown, hts⟩ (c_X9_above (dT := dT) (mr := mr) (mg := mg) (mc := mc) (mn := mn) (mh := mh) (mf := mf) (mp := mp) hD hv11) (va_cwS 2 hts (good_S sub_z k_877 k_878 k_9 k_879) rfl rfl rfl (by decide +kernel) (by decide)) hK hP hS rfl hl.1 rfl (Nat.le_of_ble_eq_true rfl) dX9_of_74 (by decide) (fun H locs hP hS => ?_)
            obtain rfl := Option.some.inj h
            exact rI hx hb hr hlk hK hP hS dX9_of_77
          · rw [if_neg k6] at h
            by_cases k7 : a2 = (4 : Int32)
            · rw [if_pos k7] at h
              refine lv_tableIn (tgt := 78) (off := 67) hx hb dX9_of_11 (by rw [k7]; decide) (by rw [k7]; decide) (by rw [k7]; rfl) (by decide) ?_
              refine lv_aload_n hx hb dX9_of_78 rfl (lv_at hl 0 rfl) ?_
              refine va_get (D := D) (ci := 8) (v := .long mh.1) (C := RX9) (T := TX9) (N := 31) hx hb hts (fun w h => sub_z _ (inX9 w h)) hown hK hP 0 rfl rfl 12 (by decide) (hts _ (sub_z _ k_748)) (fun _ h => h) rfl dX9_of_79 ?_
              refine lv_iload_n hx hb dX9_of_82 rfl (lv_at hl 1 rfl) ?_
              obtain ⟨v10, hv10, h⟩ := dq h
              refine cSi (As := [.long mh.1, .int a1]) (rest := []) ⟨hx, hb, hml, hown, hts⟩ (c_X9_laid (dT := dT) (mr := mr) (mg := mg) (mc := mc) (mn := mn) (mh := mh) (mf := mf) (mp := mp) hD hv10) (va_cwS 2 hts (good_S sub_z k_887 k_888 k_9 k_889) rfl rfl rfl (by decide +kernel) (by decide)) hK hP hS rfl hl.1 rfl (Nat.le_of_ble_eq_true rfl) dX9_of_83 (by decide) (fun H locs hP hS => ?_)
              obtain rfl := Option.some.inj h
              exact rI hx hb hr hlk hK hP hS dX9_of_86
            · rw [if_neg k7] at h
              by_cases k8 : a2 = (5 : Int32)
              · rw [if_pos k8] at h
                refine lv_tableIn (tgt := 87) (off := 76) hx hb dX9_of_11 (by rw [k8]; decide) (by rw [k8]; decide) (by rw [k8]; rfl) (by decide) ?_
                refine lv_aload_n hx hb dX9_of_87 rfl (lv_at hl 0 rfl) ?_
                refine va_get (D := D) (ci := 8) (v := .long mh.1) (C := RX9) (T := TX9) (N := 31) hx hb hts (fun w h => sub_z _ (inX9 w h)) hown hK hP 0 rfl rfl 12 (by decide) (hts _ (sub_z _ k_748)) (fun _ h => h) rfl dX9_of_88 ?_
                refine lv_iload_n hx hb dX9_of_91 rfl (lv_at hl 1 rfl) ?_
                obtain ⟨v9, hv9, h⟩ := dq h
                refine cSi (As := [.long mh.1, .int a1]) (rest := []) ⟨hx, hb, hml, hown, hts⟩ (c_X9_waits (dT := dT) (mr := mr) (mg := mg) (mc := mc) (mn := mn) (mh := mh) (mf := mf) (mp := mp) hD hv9) (va_cwS 2 hts (good_S sub_z k_890 k_891 k_9 k_892) rfl rfl rfl (by decide +kernel) (by decide)) hK hP hS rfl hl.1 rfl (Nat.le_of_ble_eq_true rfl) dX9_of_92 (by decide) (fun H locs hP hS => ?_)
                obtain rfl := Option.some.inj h
                exact rI hx hb hr hlk hK hP hS dX9_of_95
              · rw [if_neg k8] at h
                refine lv_tableOut (tgt := 96) hx hb dX9_of_11 (by have n0 := lv_neT (a := 0) k3 (by decide); have n1 := lv_neT (a := 1) k4 (by decide); have n2 := lv_neT (a := 2) k5 (by decide); have n3 := lv_neT (a := 3) k6 (by decide); have n4 := lv_neT (a := 4) k7 (by decide); have n5 := lv_neT (a := 5) k8 (by decide); omega) (by decide) ?_
                refine lv_iconst (v := -1) hx hb dX9_of_96 (by decide) ?_
                obtain rfl := Option.some.inj h
                exact rI hx hb hr hlk hK hP hS dX9_of_97
  · rw [if_pos k2] at h
    refine lv_iconst (v := -1) hx hb dX9_of_8 (by decide) ?_
    obtain rfl := Option.some.inj h
    exact rI hx hb hr hlk hK hP hS dX9_of_9

set_option maxRecDepth 100000 in
set_option maxHeartbeats 4000000 in
theorem c_X9_glasses {l : Launch} {D : va_G} {dT : Nat → ClassId} {q : Nat → Nat} (hD : mD q) {mr : tMR} {mg : tMG} {mc : tMC} {mn : tMN} {mh : tMH} {mf : tMF} {mp : tMP}  {v : Int32} (h : f_X9_glasses mg = some v) : MG l yX9_glasses cX9_glasses 1 (some .int) 0 [.ref (q 0)] D (tyL dT) (wM dT q mr mg mc mn mh mf mp) (QI D (tyL dT) (mA q) (wM dT q mr mg mc mn mh mf mp) v) (mA q) := by
  refine MG.mk (by decide +kernel) (Nat.le_of_ble_eq_true rfl) ?_
  intro p e s m below meth c hx hb hr hml hown hts hlk hK hP ls hl
  have hown : s.vm.findClass RX9 = some m.cls := hown
  have hS : va_S (mA q) s.heap s.heap [] := va_S.rf
  have hl : lv_has ls 1 [(0, .ref (q 0))] := hl
  rw [f_X9_glasses] at h
  refine lv_aload_n hx hb dX9_glasses_0 rfl (lv_at hl 0 rfl) ?_
  refine va_get (D := D) (ci := 8) (v := .int mg.2.2.2) (C := RX9) (T := TX9) (N := 31) hx hb hts (fun w h => sub_z _ (inX9 w h)) hown hK hP 0 rfl rfl 6 (by decide) (hts _ (sub_z _ k_742)) (fun _ h => h) rfl dX9_glasses_1 ?_
  obtain rfl := Option.some.inj h
  exact rI hx hb hr hlk hK hP hS dX9_glasses_4

set_option maxRecDepth 100000 in
set_option maxHeartbeats 4000000 in
theorem c_X9_open {l : Launch} {D : va_G} {dT : Nat → ClassId} {q : Nat → Nat} (hD : mD q) {mr : tMR} {mg : tMG} {mc : tMC} {mn : tMN} {mh : tMH} {mf : tMF} {mp : tMP} {a1 : Int64} {v : tMN} (h : f_X9_open mn a1 = some v) : MG l yX9_open cX9_open 4 none 3 [.ref (q 0), .long a1] D (tyL dT) (wM dT q mr mg mc mn mh mf mp) (QV D (tyL dT) (mA q) (wM dT q mr mg mc v mh mf mp)) (mA q) := by
  refine MG.mk (by decide +kernel) (Nat.le_of_ble_eq_true rfl) ?_
  intro p e s m below meth c hx hb hr hml hown hts hlk hK hP ls hl
  have hown : s.vm.findClass RX9 = some m.cls := hown
  have hS : va_S (mA q) s.heap s.heap [] := va_S.rf
  have hl : lv_has ls 4 [(0, .ref (q 0)), (1, .long a1)] := hl
  rw [f_X9_open] at h
  refine lv_iconst (v := 0) hx hb dX9_open_0 (by decide) ?_
  refine lv_istore_n (lv' := [(3, .int (0 : Int32)), (0, .ref (q 0)), (1, .long a1)]) hx hb dX9_open_1 rfl hl (by decide) rfl (fun ls hl => ?_)
  have hL2_8 : ∀ (n : Nat) (mn_2 : tMN) (x3_2 : Int32) (y : Int32 × tMN), f_X9_open_2 n mn_2 a1 x3_2 = some y → ∀ (ls : Array Slot) (H : Heap) (locs : List Loc), lv_has ls 4 [(0, .ref (q 0)), (1, .long a1), (3, .int x3_2)] → va_P D vwCl (wM dT q mr mg mc mn_2 mh mf mp) H → va_S (mA q) s.heap H locs → ∀ Q : State → Prop, (∀ (ls : Array Slot) (H : Heap) (locs : List Loc), lv_has ls 4 [(0, .ref (q 0)), (1, .long a1), (3, .int y.1)] → va_P D vwCl (wM dT q mr mg mc y.2 mh mf mp) H → va_S (mA q) s.heap H locs → W p l e (rmD 3) s m [.ref (q 0), .long a1].toArray below meth c H locs 0 0 Q (F0 m 46 ls [])) → W p l e (rmD 3) s m [.ref (q 0), .long a1].toArray below meth c H locs 0 0 Q (F0 m 2 ls []) := by
    intro n
    induction n with
    | zero => intro mn_2 x3_2 y h; exact absurd h (by simp [f_X9_open_2])
    | succ n ih =>
      intro mn_2 x3_2 y h ls H locs hl hP hS Q kk
      rw [f_X9_open_2] at h
      refine lv_iload_n hx hb dX9_open_2 rfl (lv_at hl 2 rfl) ?_
      refine lv_iconst (v := 4) hx hb dX9_open_3 (by decide) ?_
      refine lv_icmp_ge (tgt := 46) hx hb dX9_open_4 (by decide) (fun k1 => ?_) (fun k1 => ?_)
      · rw [if_pos k1] at h
        obtain rfl := Option.some.inj h
        exact kk _ _ _ (lv_sub hl [0, 1, 2] rfl) hP hS
      · rw [if_neg k1] at h
        refine lv_aload_n hx hb dX9_open_7 rfl (lv_at hl 0 rfl) ?_
        refine va_get (D := D) (ci := 8) (v := .ref (q 8)) (C := RX9) (T := TX9) (N := 31) hx hb hts (fun w h => sub_z _ (inX9 w h)) hown hK hP 0 rfl rfl 9 (by decide) (hts _ (sub_z _ k_745)) (fun _ h => h) rfl dX9_open_8 ?_
        refine lv_iload_n hx hb dX9_open_11 rfl (lv_at hl 2 rfl) ?_
        refine lv_lload_n hx hb dX9_open_12 rfl (lv_at hl 1 rfl) ?_
        refine lv_iload_n hx hb dX9_open_13 rfl (lv_at hl 2 rfl) ?_
        obtain ⟨v2, hv2, h⟩ := dq h
        refine cSi (As := [.long a1, .int x3_2]) (rest := [.int x3_2, .ref (q 8)]) ⟨hx, hb, hml, hown, hts⟩ (c_X9_above (dT := dT) (mr := mr) (mg := mg) (mc := mc) (mn := mn_2) (mh := mh) (mf := mf) (mp := mp) hD hv2) (va_cwS 2 hts (good_S sub_z k_877 k_878 k_9 k_879) rfl rfl rfl (by decide +kernel) (by decide)) hK hP hS rfl hl.1 rfl (Nat.le_of_ble_eq_true rfl) dX9_open_14 (by decide) (fun H locs hP hS => ?_)
        obtain ⟨k3, h⟩ := dg h
        refine va_iast (f := mn_2.1) hx hb hK hP (mD.w hD) hS 8 0 rfl rfl (inb_vp k3) dX9_open_17 (fun H locs hP _ hS => ?_)
        have hP : va_P D vwCl (wM dT q mr mg mc ((upd mn_2.1 x3_2.toNatClampNeg v2), mn_2.2.1, mn_2.2.2) mh mf mp) H := hP
        refine lv_aload_n hx hb dX9_open_18 rfl (lv_at hl 0 rfl) ?_
        refine va_get (D := D) (ci := 8) (v := .ref (q 9)) (C := RX9) (T := TX9) (N := 31) hx hb hts (fun w h => sub_z _ (inX9 w h)) hown hK hP 0 rfl rfl 10 (by decide) (hts _ (sub_z _ k_746)) (fun _ h => h) rfl dX9_open_19 ?_
        refine lv_iload_n hx hb dX9_open_22 rfl (lv_at hl 2 rfl) ?_
        refine lv_lload_n hx hb dX9_open_23 rfl (lv_at hl 1 rfl) ?_
        refine lv_iload_n hx hb dX9_open_24 rfl (lv_at hl 2 rfl) ?_
        obtain ⟨v4, hv4, h⟩ := dq h
        refine cSi (As := [.long a1, .int x3_2]) (rest := [.int x3_2, .ref (q 9)]) ⟨hx, hb, hml, hown, hts⟩ (c_X9_laid (dT := dT) (mr := mr) (mg := mg) (mc := mc) (mn := ((upd mn_2.1 x3_2.toNatClampNeg v2), mn_2.2.1, mn_2.2.2)) (mh := mh) (mf := mf) (mp := mp) hD hv4) (va_cwS 2 hts (good_S sub_z k_887 k_888 k_9 k_889) rfl rfl rfl (by decide +kernel) (by decide)) hK hP hS rfl hl.1 rfl (Nat.le_of_ble_eq_true rfl) dX9_open_25 (by decide) (fun H locs hP hS => ?_)
        obtain ⟨k5, h⟩ := dg h
        refine va_iast (f := mn_2.2.1) hx hb hK hP (mD.w hD) hS 9 0 rfl rfl (inb_vp k5) dX9_open_28 (fun H locs hP _ hS => ?_)
        have hP : va_P D vwCl (wM dT q mr mg mc ((upd mn_2.1 x3_2.toNatClampNeg v2), (upd mn_2.2.1 x3_2.toNatClampNeg v4), mn_2.2.2) mh mf mp) H := hP
        refine lv_aload_n hx hb dX9_open_29 rfl (lv_at hl 0 rfl) ?_
        refine va_get (D := D) (ci := 8) (v := .ref (q 10)) (C := RX9) (T := TX9) (N := 31) hx hb hts (fun w h => sub_z _ (inX9 w h)) hown hK hP 0 rfl rfl 11 (by decide) (hts _ (sub_z _ k_747)) (fun _ h => h) rfl dX9_open_30 ?_
        refine lv_iload_n hx hb dX9_open_33 rfl (lv_at hl 2 rfl) ?_
        refine lv_lload_n hx hb dX9_open_34 rfl (lv_at hl 1 rfl) ?_
        refine lv_iload_n hx hb dX9_open_35 rfl (lv_at hl 2 rfl) ?_
        obtain ⟨v6, hv6, h⟩ := dq h
        refine cSi (As := [.long a1, .int x3_2]) (rest := [.int x3_2, .ref (q 10)]) ⟨hx, hb, hml, hown, hts⟩ (c_X9_waits (dT := dT) (mr := mr) (mg := mg) (mc := mc) (mn := ((upd mn_2.1 x3_2.toNatClampNeg v2), (upd mn_2.2.1 x3_2.toNatClampNeg v4), mn_2.2.2)) (mh := mh) (mf := mf) (mp := mp) hD hv6) (va_cwS 2 hts (good_S sub_z k_890 k_891 k_9 k_892) rfl rfl rfl (by decide +kernel) (by decide)) hK hP hS rfl hl.1 rfl (Nat.le_of_ble_eq_true rfl) dX9_open_36 (by decide) (fun H locs hP hS => ?_)
        obtain ⟨k7, h⟩ := dg h
        refine va_iast (f := mn_2.2.2) hx hb hK hP (mD.w hD) hS 10 0 rfl rfl (inb_vp k7) dX9_open_39 (fun H locs hP _ hS => ?_)
        have hP : va_P D vwCl (wM dT q mr mg mc ((upd mn_2.1 x3_2.toNatClampNeg v2), (upd mn_2.2.1 x3_2.toNatClampNeg v4), (upd mn_2.2.2 x3_2.toNatClampNeg v6)) mh mf mp) H := hP
        refine lv_iinc (v := (x3_2 + (1 : Int32))) (lv' := [(3, .int (x3_2 + (1 : Int32))), (0, .ref (q 0)), (1, .long a1)]) hx hb dX9_open_40 hl (k := 2) rfl rfl (by decide) rfl (fun ls hl => ?_)
        refine lv_goto (tgt := 2) hx hb dX9_open_43 (by decide) ?_
        exact ih _ _ _ h _ _ _ (lv_sub hl [1, 2, 0] rfl) hP hS _ kk
  obtain ⟨y9, hy9, h⟩ := dq h
  refine hL2_8 _ _ _ _ hy9 _ _ _ (lv_sub hl [1, 2, 0] rfl) hP hS _ (fun ls H locs hl hP hS => ?_)
  obtain rfl := Option.some.inj h
  exact rV hx hb hr hlk hK hP hS dX9_open_46
