set_option maxRecDepth 100000 in
set_option maxHeartbeats 4000000 in
theorem c_X9_close {l : Launch} {D : va_G} {dT : Nat → ClassId} {q : Nat → Nat} (hD : mD q) {mr : tMR} {mg : tMG} {mc : tMC} {mn : tMN} {mh : tMH} {mf : tMF} {mp : tMP}  {v : Int64} (h : f_X9_close mn = some v) : MG l yX9_close cX9_close 4 (some .long) 0 [.ref (q 0)] D (tyL dT) (wM dT q mr mg mc mn mh mf mp) (QL D (tyL dT) (mA q) (wM dT q mr mg mc mn mh mf mp) v) (mA q) := by
  refine MG.mk (by decide +kernel) (Nat.le_of_ble_eq_true rfl) ?_
  intro p e s m below meth c hx hb hr hml hown hts hlk hK hP ls hl
  have hown : s.vm.findClass RX9 = some m.cls := hown
  have hS : va_S (mA q) s.heap s.heap [] := va_S.rf
  have hl : lv_has ls 4 [(0, .ref (q 0))] := hl
  rw [f_X9_close] at h
  refine lv_lconst (v := 0) hx hb dX9_close_0 (by decide) ?_
  refine lv_lstore_n (lv' := [(1, .long (0 : Int64)), (0, .ref (q 0))]) hx hb dX9_close_1 rfl hl (by decide) rfl (fun ls hl => ?_)
  refine lv_iconst (v := 0) hx hb dX9_close_2 (by decide) ?_
  refine lv_istore_n (lv' := [(3, .int (0 : Int32)), (1, .long (0 : Int64)), (0, .ref (q 0))]) hx hb dX9_close_3 rfl hl (by decide) rfl (fun ls hl => ?_)
  have hL4_5 : ∀ (n : Nat) (x1_4 : Int64) (x3_4 : Int32) (y : Int64 × Int32), f_X9_close_4 n mn x1_4 x3_4 = some y → ∀ (ls : Array Slot) (H : Heap) (locs : List Loc), lv_has ls 4 [(0, .ref (q 0)), (1, .long x1_4), (3, .int x3_4)] → va_P D vwCl (wM dT q mr mg mc mn mh mf mp) H → va_S (mA q) s.heap H locs → ∀ Q : State → Prop, (∀ (ls : Array Slot) (H : Heap) (locs : List Loc), lv_has ls 4 [(0, .ref (q 0)), (1, .long y.1), (3, .int y.2)] → va_P D vwCl (wM dT q mr mg mc mn mh mf mp) H → va_S (mA q) s.heap H locs → W p l e (rmD 0) s m [.ref (q 0)].toArray below meth c H locs 0 0 Q (F0 m 51 ls [])) → W p l e (rmD 0) s m [.ref (q 0)].toArray below meth c H locs 0 0 Q (F0 m 4 ls []) := by
    intro n
    induction n with
    | zero => intro x1_4 x3_4 y h; exact absurd h (by simp [f_X9_close_4])
    | succ n ih =>
      intro x1_4 x3_4 y h ls H locs hl hP hS Q kk
      rw [f_X9_close_4] at h
      refine lv_iload_n hx hb dX9_close_4 rfl (lv_at hl 2 rfl) ?_
      refine lv_iconst (v := 4) hx hb dX9_close_5 (by decide) ?_
      refine lv_icmp_ge (tgt := 51) hx hb dX9_close_6 (by decide) (fun k1 => ?_) (fun k1 => ?_)
      · rw [if_pos k1] at h
        obtain rfl := Option.some.inj h
        exact kk _ _ _ (lv_sub hl [0, 1, 2] rfl) hP hS
      · rw [if_neg k1] at h
        refine lv_lload_n hx hb dX9_close_9 rfl (lv_at hl 1 rfl) ?_
        refine lv_ldc2 (v := 620) hx hb hown (hts _ (sub_z _ k_886)) dX9_close_10 ?_
        refine lv_lmul hx hb dX9_close_13 ?_
        refine lv_bipush (v := 20) hx hb dX9_close_14 (by decide) ?_
        refine lv_aload_n hx hb dX9_close_16 rfl (lv_at hl 0 rfl) ?_
        refine va_get (D := D) (ci := 8) (v := .ref (q 8)) (C := RX9) (T := TX9) (N := 31) hx hb hts (fun w h => sub_z _ (inX9 w h)) hown hK hP 0 rfl rfl 9 (by decide) (hts _ (sub_z _ k_745)) (fun _ h => h) rfl dX9_close_17 ?_
        refine lv_iload_n hx hb dX9_close_20 rfl (lv_at hl 2 rfl) ?_
        obtain ⟨k2, h⟩ := dg h
        refine va_iald (f := mn.1) hx hb hK hP 8 0 rfl rfl (inb_vp k2) dX9_close_21 ?_
        refine lv_imul hx hb dX9_close_22 ?_
        refine lv_i2l (v := ((20 : Int32) * (mn.1 x3_4.toNatClampNeg)).toInt64) hx hb dX9_close_23 rfl ?_
        refine lv_ladd hx hb dX9_close_24 ?_
        refine lv_bipush (v := 10) hx hb dX9_close_25 (by decide) ?_
        refine lv_aload_n hx hb dX9_close_27 rfl (lv_at hl 0 rfl) ?_
        refine va_get (D := D) (ci := 8) (v := .ref (q 9)) (C := RX9) (T := TX9) (N := 31) hx hb hts (fun w h => sub_z _ (inX9 w h)) hown hK hP 0 rfl rfl 10 (by decide) (hts _ (sub_z _ k_746)) (fun _ h => h) rfl dX9_close_28 ?_
        refine lv_iload_n hx hb dX9_close_31 rfl (lv_at hl 2 rfl) ?_
        obtain ⟨k3, h⟩ := dg h
        refine va_iald (f := mn.2.1) hx hb hK hP 9 0 rfl rfl (inb_vp k3) dX9_close_32 ?_
        refine lv_imul hx hb dX9_close_33 ?_
        refine lv_i2l (v := ((10 : Int32) * (mn.2.1 x3_4.toNatClampNeg)).toInt64) hx hb dX9_close_34 rfl ?_
        refine lv_ladd hx hb dX9_close_35 ?_
        refine lv_aload_n hx hb dX9_close_36 rfl (lv_at hl 0 rfl) ?_
        refine va_get (D := D) (ci := 8) (v := .ref (q 10)) (C := RX9) (T := TX9) (N := 31) hx hb hts (fun w h => sub_z _ (inX9 w h)) hown hK hP 0 rfl rfl 11 (by decide) (hts _ (sub_z _ k_747)) (fun _ h => h) rfl dX9_close_37 ?_
        refine lv_iload_n hx hb dX9_close_40 rfl (lv_at hl 2 rfl) ?_
        obtain ⟨k4, h⟩ := dg h
        refine va_iald (f := mn.2.2) hx hb hK hP 10 0 rfl rfl (inb_vp k4) dX9_close_41 ?_
        refine lv_i2l (v := (mn.2.2 x3_4.toNatClampNeg).toInt64) hx hb dX9_close_42 rfl ?_
        refine lv_ladd hx hb dX9_close_43 ?_
        refine lv_lstore_n (lv' := [(1, .long ((((x1_4 * (620 : Int64)) + ((20 : Int32) * (mn.1 x3_4.toNatClampNeg)).toInt64) + ((10 : Int32) * (mn.2.1 x3_4.toNatClampNeg)).toInt64) + (mn.2.2 x3_4.toNatClampNeg).toInt64)), (0, .ref (q 0)), (3, .int x3_4)]) hx hb dX9_close_44 rfl hl (by decide) rfl (fun ls hl => ?_)
        refine lv_iinc (v := (x3_4 + (1 : Int32))) (lv' := [(3, .int (x3_4 + (1 : Int32))), (1, .long ((((x1_4 * (620 : Int64)) + ((20 : Int32) * (mn.1 x3_4.toNatClampNeg)).toInt64) + ((10 : Int32) * (mn.2.1 x3_4.toNatClampNeg)).toInt64) + (mn.2.2 x3_4.toNatClampNeg).toInt64)), (0, .ref (q 0))]) hx hb dX9_close_45 hl (k := 2) rfl rfl (by decide) rfl (fun ls hl => ?_)
        refine lv_goto (tgt := 4) hx hb dX9_close_48 (by decide) ?_
        exact ih _ _ _ h _ _ _ (lv_sub hl [2, 1, 0] rfl) hP hS _ kk
  obtain ⟨y6, hy6, h⟩ := dq h
  refine hL4_5 _ _ _ _ hy6 _ _ _ (lv_sub hl [2, 1, 0] rfl) hP hS _ (fun ls H locs hl hP hS => ?_)
  refine lv_lload_n hx hb dX9_close_51 rfl (lv_at hl 1 rfl) ?_
  obtain rfl := Option.some.inj h
  exact rL hx hb hr hlk hK hP hS dX9_close_52

set_option maxRecDepth 100000 in
set_option maxHeartbeats 4000000 in
theorem c_X9_falls {l : Launch} {D : va_G} {dT : Nat → ClassId} {q : Nat → Nat} (hD : mD q) {mr : tMR} {mg : tMG} {mc : tMC} {mn : tMN} {mh : tMH} {mf : tMF} {mp : tMP} {a1 : Int32} {v : Int32} (h : f_X9_falls mn a1 = some v) : MG l yX9_falls cX9_falls 2 (some .boolean) 0 [.ref (q 0), .int a1] D (tyL dT) (wM dT q mr mg mc mn mh mf mp) (QI D (tyL dT) (mA q) (wM dT q mr mg mc mn mh mf mp) v) (mA q) := by
  refine MG.mk (by decide +kernel) (Nat.le_of_ble_eq_true rfl) ?_
  intro p e s m below meth c hx hb hr hml hown hts hlk hK hP ls hl
  have hown : s.vm.findClass RX9 = some m.cls := hown
  have hS : va_S (mA q) s.heap s.heap [] := va_S.rf
  have hl : lv_has ls 2 [(0, .ref (q 0)), (1, .int a1)] := hl
  rw [f_X9_falls] at h
  refine lv_aload_n hx hb dX9_falls_0 rfl (lv_at hl 0 rfl) ?_
  refine va_get (D := D) (ci := 8) (v := .ref (q 9)) (C := RX9) (T := TX9) (N := 31) hx hb hts (fun w h => sub_z _ (inX9 w h)) hown hK hP 0 rfl rfl 10 (by decide) (hts _ (sub_z _ k_746)) (fun _ h => h) rfl dX9_falls_1 ?_
  refine lv_iload_n hx hb dX9_falls_4 rfl (lv_at hl 1 rfl) ?_
  obtain ⟨k1, h⟩ := dg h
  refine va_iald (f := mn.2.1) hx hb hK hP 9 0 rfl rfl (inb_vp k1) dX9_falls_5 ?_
  refine lv_if_ne (tgt := 31) hx hb dX9_falls_6 (by decide) (fun k2 => ?_) (fun k2 => ?_)
  · rw [if_neg k2] at h
    refine lv_iconst (v := 0) hx hb dX9_falls_31 (by decide) ?_
    obtain rfl := Option.some.inj h
    exact rZ (v := (0 : Int32)) hx hb hr hlk rfl hK hP hS dX9_falls_32
  · rw [if_pos k2] at h
    refine lv_aload_n hx hb dX9_falls_9 rfl (lv_at hl 0 rfl) ?_
    refine va_get (D := D) (ci := 8) (v := .ref (q 10)) (C := RX9) (T := TX9) (N := 31) hx hb hts (fun w h => sub_z _ (inX9 w h)) hown hK hP 0 rfl rfl 11 (by decide) (hts _ (sub_z _ k_747)) (fun _ h => h) rfl dX9_falls_10 ?_
    refine lv_iload_n hx hb dX9_falls_13 rfl (lv_at hl 1 rfl) ?_
    obtain ⟨k3, h⟩ := dg h
    refine va_iald (f := mn.2.2) hx hb hK hP 10 0 rfl rfl (inb_vp k3) dX9_falls_14 ?_
    refine lv_if_ne (tgt := 31) hx hb dX9_falls_15 (by decide) (fun k4 => ?_) (fun k4 => ?_)
    · rw [if_neg k4] at h
      refine lv_iconst (v := 0) hx hb dX9_falls_31 (by decide) ?_
      obtain rfl := Option.some.inj h
      exact rZ (v := (0 : Int32)) hx hb hr hlk rfl hK hP hS dX9_falls_32
    · rw [if_pos k4] at h
      refine lv_aload_n hx hb dX9_falls_18 rfl (lv_at hl 0 rfl) ?_
      refine va_get (D := D) (ci := 8) (v := .ref (q 8)) (C := RX9) (T := TX9) (N := 31) hx hb hts (fun w h => sub_z _ (inX9 w h)) hown hK hP 0 rfl rfl 9 (by decide) (hts _ (sub_z _ k_745)) (fun _ h => h) rfl dX9_falls_19 ?_
      refine lv_iload_n hx hb dX9_falls_22 rfl (lv_at hl 1 rfl) ?_
      obtain ⟨k5, h⟩ := dg h
      refine va_iald (f := mn.1) hx hb hK hP 8 0 rfl rfl (inb_vp k5) dX9_falls_23 ?_
      refine lv_if_le (tgt := 31) hx hb dX9_falls_24 (by decide) (fun k6 => ?_) (fun k6 => ?_)
      · rw [if_pos k6] at h
        refine lv_iconst (v := 0) hx hb dX9_falls_31 (by decide) ?_
        obtain rfl := Option.some.inj h
        exact rZ (v := (0 : Int32)) hx hb hr hlk rfl hK hP hS dX9_falls_32
      · rw [if_neg k6] at h
        refine lv_iconst (v := 1) hx hb dX9_falls_27 (by decide) ?_
        refine lv_goto (tgt := 32) hx hb dX9_falls_28 (by decide) ?_
        obtain rfl := Option.some.inj h
        exact rZ (v := (1 : Int32)) hx hb hr hlk rfl hK hP hS dX9_falls_32

set_option maxRecDepth 100000 in
set_option maxHeartbeats 4000000 in
theorem c_X9_digit {l : Launch} {D : va_G} {dT : Nat → ClassId} {q : Nat → Nat} (hD : mD q) {mr : tMR} {mg : tMG} {mc : tMC} {mn : tMN} {mh : tMH} {mf : tMF} {mp : tMP} {a0 : Int32} {a1 : Int32} {v : Int32} (h : f_X9_digit a0 a1 = some v) : MG l yX9_digit cX9_digit 2 (some .int) 0 [.int a0, .int a1] D (tyL dT) (wM dT q mr mg mc mn mh mf mp) (QI D (tyL dT) (mA q) (wM dT q mr mg mc mn mh mf mp) v) (mA q) := by
  refine MG.mk (by decide +kernel) (Nat.le_of_ble_eq_true rfl) ?_
  intro p e s m below meth c hx hb hr hml hown hts hlk hK hP ls hl
  have hown : s.vm.findClass RX9 = some m.cls := hown
  have hS : va_S (mA q) s.heap s.heap [] := va_S.rf
  have hl : lv_has ls 2 [(0, .int a0), (1, .int a1)] := hl
  rw [f_X9_digit] at h
  refine lv_iload_n hx hb dX9_digit_0 rfl (lv_at hl 0 rfl) ?_
  refine lv_iconst (v := 2) hx hb dX9_digit_1 (by decide) ?_
  refine lv_iload_n hx hb dX9_digit_2 rfl (lv_at hl 1 rfl) ?_
  refine lv_imul hx hb dX9_digit_3 ?_
  refine lv_ishr hx hb dX9_digit_4 ?_
  refine lv_iconst (v := 3) hx hb dX9_digit_5 (by decide) ?_
  refine lv_iand hx hb dX9_digit_6 ?_
  obtain rfl := Option.some.inj h
  exact rI hx hb hr hlk hK hP hS dX9_digit_7

set_option maxRecDepth 100000 in
set_option maxHeartbeats 4000000 in
theorem c_X9_isAllowedFor {l : Launch} {D : va_G} {dT : Nat → ClassId} {q : Nat → Nat} (hD : mD q) {mr : tMR} {mg : tMG} {mc : tMC} {mn : tMN} {mh : tMH} {mf : tMF} {mp : tMP} {a1 : Int32} {a2 : Int32} {v : Int32} (h : f_X9_isAllowedFor mg mn a1 a2 = some v) : MG l yX9_isAllowedFor cX9_isAllowedFor 5 (some .boolean) 1 [.ref (q 0), .int a1, .int a2] D (tyL dT) (wM dT q mr mg mc mn mh mf mp) (QI D (tyL dT) (mA q) (wM dT q mr mg mc mn mh mf mp) v) (mA q) := by
  refine MG.mk (by decide +kernel) (Nat.le_of_ble_eq_true rfl) ?_
  intro p e s m below meth c hx hb hr hml hown hts hlk hK hP ls hl
  have hown : s.vm.findClass RX9 = some m.cls := hown
  have hS : va_S (mA q) s.heap s.heap [] := va_S.rf
  have hl : lv_has ls 5 [(0, .ref (q 0)), (1, .int a1), (2, .int a2)] := hl
  rw [f_X9_isAllowedFor] at h
  refine lv_iload_n hx hb dX9_isAllowedFor_0 rfl (lv_at hl 1 rfl) ?_
  refine lv_iload_n hx hb dX9_isAllowedFor_1 rfl (lv_at hl 2 rfl) ?_
  obtain ⟨v1, hv1, h⟩ := dq h
  refine cSi (As := [.int a1, .int a2]) (rest := []) ⟨hx, hb, hml, hown, hts⟩ (c_X9_digit (dT := dT) (mr := mr) (mg := mg) (mc := mc) (mn := mn) (mh := mh) (mf := mf) (mp := mp) hD hv1) (va_cwS 2 hts (good_S sub_z k_913 k_914 k_9 k_915) rfl rfl rfl (by decide +kernel) (by decide)) hK hP hS rfl hl.1 rfl (Nat.le_of_ble_eq_true rfl) dX9_isAllowedFor_2 (by decide) (fun H locs hP hS => ?_)
  refine lv_istore_n (lv' := [(3, .int v1), (0, .ref (q 0)), (1, .int a1), (2, .int a2)]) hx hb dX9_isAllowedFor_5 rfl hl (by decide) rfl (fun ls hl => ?_)
  refine lv_iload_n hx hb dX9_isAllowedFor_6 rfl (lv_at hl 0 rfl) ?_
  refine lv_if_ne (tgt := 12) hx hb dX9_isAllowedFor_7 (by decide) (fun k2 => ?_) (fun k2 => ?_)
  · rw [if_neg k2] at h
    refine lv_iload_n hx hb dX9_isAllowedFor_12 rfl (lv_at hl 3 rfl) ?_
    refine lv_aload_n hx hb dX9_isAllowedFor_13 rfl (lv_at hl 1 rfl) ?_
    refine va_get (D := D) (ci := 8) (v := .int mg.2.2.2) (C := RX9) (T := TX9) (N := 31) hx hb hts (fun w h => sub_z _ (inX9 w h)) hown hK hP 0 rfl rfl 6 (by decide) (hts _ (sub_z _ k_742)) (fun _ h => h) rfl dX9_isAllowedFor_14 ?_
    refine lv_icmp_lt (tgt := 22) hx hb dX9_isAllowedFor_17 (by decide) (fun k3 => ?_) (fun k3 => ?_)
    · rw [if_pos k3] at h
      refine lv_iload_n hx hb dX9_isAllowedFor_22 rfl (lv_at hl 0 rfl) ?_
      refine lv_iconst (v := 1) hx hb dX9_isAllowedFor_23 (by decide) ?_
      refine lv_icmp_ne (tgt := 96) hx hb dX9_isAllowedFor_24 (by decide) (fun k4 => ?_) (fun k4 => ?_)
      · rw [if_neg k4] at h
        refine lv_iload_n hx hb dX9_isAllowedFor_96 rfl (lv_at hl 0 rfl) ?_
        refine lv_iconst (v := 2) hx hb dX9_isAllowedFor_97 (by decide) ?_
        refine lv_icmp_ne (tgt := 136) hx hb dX9_isAllowedFor_98 (by decide) (fun k5 => ?_) (fun k5 => ?_)
        · rw [if_neg k5] at h
          refine lv_aload_n hx hb dX9_isAllowedFor_136 rfl (lv_at hl 1 rfl) ?_
          refine va_get (D := D) (ci := 8) (v := .ref (q 9)) (C := RX9) (T := TX9) (N := 31) hx hb hts (fun w h => sub_z _ (inX9 w h)) hown hK hP 0 rfl rfl 10 (by decide) (hts _ (sub_z _ k_746)) (fun _ h => h) rfl dX9_isAllowedFor_137 ?_
          refine lv_iload_n hx hb dX9_isAllowedFor_140 rfl (lv_at hl 3 rfl) ?_
          obtain ⟨k6, h⟩ := dg h
          refine va_iald (f := mn.2.1) hx hb hK hP 9 0 rfl rfl (inb_vp k6) dX9_isAllowedFor_141 ?_
          refine lv_iconst (v := 1) hx hb dX9_isAllowedFor_142 (by decide) ?_
          refine lv_icmp_ne (tgt := 150) hx hb dX9_isAllowedFor_143 (by decide) (fun k7 => ?_) (fun k7 => ?_)
          · rw [if_neg k7] at h
            refine lv_iconst (v := 0) hx hb dX9_isAllowedFor_150 (by decide) ?_
            obtain rfl := Option.some.inj h
            exact rZ (v := (0 : Int32)) hx hb hr hlk rfl hK hP hS dX9_isAllowedFor_151
          · rw [if_pos k7] at h
            refine lv_iconst (v := 1) hx hb dX9_isAllowedFor_146 (by decide) ?_
            refine lv_goto (tgt := 151) hx hb dX9_isAllowedFor_147 (by decide) ?_
            obtain rfl := Option.some.inj h
            exact rZ (v := (1 : Int32)) hx hb hr hlk rfl hK hP hS dX9_isAllowedFor_151
        · rw [if_pos k5] at h
          refine lv_aload_n hx hb dX9_isAllowedFor_101 rfl (lv_at hl 1 rfl) ?_
          refine va_get (D := D) (ci := 8) (v := .ref (q 9)) (C := RX9) (T := TX9) (N := 31) hx hb hts (fun w h => sub_z _ (inX9 w h)) hown hK hP 0 rfl rfl 10 (by decide) (hts _ (sub_z _ k_746)) (fun _ h => h) rfl dX9_isAllowedFor_102 ?_
          refine lv_iload_n hx hb dX9_isAllowedFor_105 rfl (lv_at hl 3 rfl) ?_
          obtain ⟨k8, h⟩ := dg h
          refine va_iald (f := mn.2.1) hx hb hK hP 9 0 rfl rfl (inb_vp k8) dX9_isAllowedFor_106 ?_
          refine lv_if_ne (tgt := 134) hx hb dX9_isAllowedFor_107 (by decide) (fun k9 => ?_) (fun k9 => ?_)
          · rw [if_neg k9] at h
            refine lv_iconst (v := 0) hx hb dX9_isAllowedFor_134 (by decide) ?_
            obtain rfl := Option.some.inj h
            exact rZ (v := (0 : Int32)) hx hb hr hlk rfl hK hP hS dX9_isAllowedFor_135
          · rw [if_pos k9] at h
            refine lv_aload_n hx hb dX9_isAllowedFor_110 rfl (lv_at hl 1 rfl) ?_
            refine va_get (D := D) (ci := 8) (v := .ref (q 4)) (C := RX9) (T := TX9) (N := 31) hx hb hts (fun w h => sub_z _ (inX9 w h)) hown hK hP 0 rfl rfl 3 (by decide) (hts _ (sub_z _ k_739)) (fun _ h => h) rfl dX9_isAllowedFor_111 ?_
            refine lv_iload_n hx hb dX9_isAllowedFor_114 rfl (lv_at hl 3 rfl) ?_
            obtain ⟨k10, h⟩ := dg h
            refine va_iald (f := mg.1) hx hb hK hP 4 0 rfl rfl (inb_vp k10) dX9_isAllowedFor_115 ?_
            refine lv_iconst (v := 2) hx hb dX9_isAllowedFor_116 (by decide) ?_
            refine lv_icmp_eq (tgt := 130) hx hb dX9_isAllowedFor_117 (by decide) (fun k11 => ?_) (fun k11 => ?_)
            · rw [if_pos k11] at h
              refine lv_iconst (v := 1) hx hb dX9_isAllowedFor_130 (by decide) ?_
              refine lv_goto (tgt := 135) hx hb dX9_isAllowedFor_131 (by decide) ?_
              obtain rfl := Option.some.inj h
              exact rZ (v := (1 : Int32)) hx hb hr hlk rfl hK hP hS dX9_isAllowedFor_135
            · rw [if_neg k11] at h
              refine lv_aload_n hx hb dX9_isAllowedFor_120 rfl (lv_at hl 1 rfl) ?_
              refine va_get (D := D) (ci := 8) (v := .ref (q 4)) (C := RX9) (T := TX9) (N := 31) hx hb hts (fun w h => sub_z _ (inX9 w h)) hown hK hP 0 rfl rfl 3 (by decide) (hts _ (sub_z _ k_739)) (fun _ h => h) rfl dX9_isAllowedFor_121 ?_
              refine lv_iload_n hx hb dX9_isAllowedFor_124 rfl (lv_at hl 3 rfl) ?_
              obtain ⟨k12, h⟩ := dg h
              refine va_iald (f := mg.1) hx hb hK hP 4 0 rfl rfl (inb_vp k12) dX9_isAllowedFor_125 ?_
              refine lv_iconst (v := 4) hx hb dX9_isAllowedFor_126 (by decide) ?_
              refine lv_icmp_ne (tgt := 134) hx hb dX9_isAllowedFor_127 (by decide) (fun k13 => ?_) (fun k13 => ?_)
              · rw [if_neg k13] at h
                refine lv_iconst (v := 0) hx hb dX9_isAllowedFor_134 (by decide) ?_
                obtain rfl := Option.some.inj h
                exact rZ (v := (0 : Int32)) hx hb hr hlk rfl hK hP hS dX9_isAllowedFor_135
              · rw [if_pos k13] at h
                refine lv_iconst (v := 1) hx hb dX9_isAllowedFor_130 (by decide) ?_
                refine lv_goto (tgt := 135) hx hb dX9_isAllowedFor_131 (by decide) ?_
                obtain rfl := Option.some.inj h
                exact rZ (v := (1 : Int32)) hx hb hr hlk rfl hK hP hS dX9_isAllowedFor_135
      · rw [if_pos k4] at h
        refine lv_aload_n hx hb dX9_isAllowedFor_27 rfl (lv_at hl 1 rfl) ?_
        refine va_get (D := D) (ci := 8) (v := .ref (q 4)) (C := RX9) (T := TX9) (N := 31) hx hb hts (fun w h => sub_z _ (inX9 w h)) hown hK hP 0 rfl rfl 3 (by decide) (hts _ (sub_z _ k_739)) (fun _ h => h) rfl dX9_isAllowedFor_28 ?_
        refine lv_iload_n hx hb dX9_isAllowedFor_31 rfl (lv_at hl 3 rfl) ?_
        obtain ⟨k14, h⟩ := dg h
        refine va_iald (f := mg.1) hx hb hK hP 4 0 rfl rfl (inb_vp k14) dX9_isAllowedFor_32 ?_
        refine lv_iconst (v := 1) hx hb dX9_isAllowedFor_33 (by decide) ?_
        refine lv_icmp_ne (tgt := 51) hx hb dX9_isAllowedFor_34 (by decide) (fun k15 => ?_) (fun k15 => ?_)
        · rw [if_neg k15] at h
          refine lv_iconst (v := 1) hx hb dX9_isAllowedFor_51 (by decide) ?_
          refine lv_goto (tgt := 56) hx hb dX9_isAllowedFor_52 (by decide) ?_
          refine lv_istore (lv' := [(4, .int (1 : Int32)), (3, .int v1), (0, .ref (q 0)), (1, .int a1), (2, .int a2)]) hx hb dX9_isAllowedFor_56 hl (by decide) rfl (fun ls hl => ?_)
          refine lv_aload_n hx hb dX9_isAllowedFor_58 rfl (lv_at hl 2 rfl) ?_
          refine va_get (D := D) (ci := 8) (v := .ref (q 9)) (C := RX9) (T := TX9) (N := 31) hx hb hts (fun w h => sub_z _ (inX9 w h)) hown hK hP 0 rfl rfl 10 (by decide) (hts _ (sub_z _ k_746)) (fun _ h => h) rfl dX9_isAllowedFor_59 ?_
          refine lv_iload_n hx hb dX9_isAllowedFor_62 rfl (lv_at hl 4 rfl) ?_
          obtain ⟨k16, h⟩ := dg h
          refine va_iald (f := mn.2.1) hx hb hK hP 9 0 rfl rfl (inb_vp k16) dX9_isAllowedFor_63 ?_
          refine lv_if_ne (tgt := 94) hx hb dX9_isAllowedFor_64 (by decide) (fun k17 => ?_) (fun k17 => ?_)
          · rw [if_neg k17] at h
            refine lv_iconst (v := 0) hx hb dX9_isAllowedFor_94 (by decide) ?_
            obtain rfl := Option.some.inj h
            exact rZ (v := (0 : Int32)) hx hb hr hlk rfl hK hP hS dX9_isAllowedFor_95
          · rw [if_pos k17] at h
            refine lv_iload hx hb dX9_isAllowedFor_67 (lv_at hl 0 rfl) ?_
            refine lv_if_eq (tgt := 94) hx hb dX9_isAllowedFor_69 (by decide) (fun k18 => ?_) (fun k18 => ?_)
            · rw [if_pos k18] at h
              refine lv_iconst (v := 0) hx hb dX9_isAllowedFor_94 (by decide) ?_
              obtain rfl := Option.some.inj h
              exact rZ (v := (0 : Int32)) hx hb hr hlk rfl hK hP hS dX9_isAllowedFor_95
            · rw [if_neg k18] at h
              refine lv_aload_n hx hb dX9_isAllowedFor_72 rfl (lv_at hl 2 rfl) ?_
              refine va_get (D := D) (ci := 8) (v := .ref (q 4)) (C := RX9) (T := TX9) (N := 31) hx hb hts (fun w h => sub_z _ (inX9 w h)) hown hK hP 0 rfl rfl 3 (by decide) (hts _ (sub_z _ k_739)) (fun _ h => h) rfl dX9_isAllowedFor_73 ?_
              refine lv_iload_n hx hb dX9_isAllowedFor_76 rfl (lv_at hl 4 rfl) ?_
              obtain ⟨k19, h⟩ := dg h
              refine va_iald (f := mg.1) hx hb hK hP 4 0 rfl rfl (inb_vp k19) dX9_isAllowedFor_77 ?_
              refine lv_iconst (v := 3) hx hb dX9_isAllowedFor_78 (by decide) ?_
              refine lv_icmp_ne (tgt := 90) hx hb dX9_isAllowedFor_79 (by decide) (fun k20 => ?_) (fun k20 => ?_)
              · rw [if_neg k20] at h
                refine lv_iconst (v := 1) hx hb dX9_isAllowedFor_90 (by decide) ?_
                refine lv_goto (tgt := 95) hx hb dX9_isAllowedFor_91 (by decide) ?_
                obtain rfl := Option.some.inj h
                exact rZ (v := (1 : Int32)) hx hb hr hlk rfl hK hP hS dX9_isAllowedFor_95
              · rw [if_pos k20] at h
                refine lv_aload_n hx hb dX9_isAllowedFor_82 rfl (lv_at hl 2 rfl) ?_
                refine lv_iload_n hx hb dX9_isAllowedFor_83 rfl (lv_at hl 4 rfl) ?_
                obtain ⟨v21, hv21, h⟩ := dq h
                refine cVi (As := [.int a2]) (rest := []) ⟨hx, hb, hml, hown, hts⟩ (c_X9_falls (dT := dT) (mr := mr) (mg := mg) (mc := mc) (mn := mn) (mh := mh) (mf := mf) (mp := mp) hD hv21) (cwV 1 hts (good_V sub_z k_916 k_918 ks_25 k_9 k_919) rfl rfl rfl (by decide +kernel) (by decide)) (va_recv hK hP (ci := 8) (q0 := 0) rfl rfl) hK hP hS rfl hl.1 rfl (Nat.le_of_ble_eq_true rfl) dX9_isAllowedFor_84 (by decide) (fun H locs hP hS => ?_)
                refine lv_if_ne (tgt := 94) hx hb dX9_isAllowedFor_87 (by decide) (fun k22 => ?_) (fun k22 => ?_)
                · rw [if_neg k22] at h
                  refine lv_iconst (v := 0) hx hb dX9_isAllowedFor_94 (by decide) ?_
                  obtain rfl := Option.some.inj h
                  exact rZ (v := (0 : Int32)) hx hb hr hlk rfl hK hP hS dX9_isAllowedFor_95
                · rw [if_pos k22] at h
                  refine lv_iconst (v := 1) hx hb dX9_isAllowedFor_90 (by decide) ?_
                  refine lv_goto (tgt := 95) hx hb dX9_isAllowedFor_91 (by decide) ?_
                  obtain rfl := Option.some.inj h
                  exact rZ (v := (1 : Int32)) hx hb hr hlk rfl hK hP hS dX9_isAllowedFor_95
        · rw [if_pos k15] at h
          refine lv_iload_n hx hb dX9_isAllowedFor_37 rfl (lv_at hl 2 rfl) ?_
          refine lv_aload_n hx hb dX9_isAllowedFor_38 rfl (lv_at hl 1 rfl) ?_
          refine va_get (D := D) (ci := 8) (v := .ref (q 6)) (C := RX9) (T := TX9) (N := 31) hx hb hts (fun w h => sub_z _ (inX9 w h)) hown hK hP 0 rfl rfl 5 (by decide) (hts _ (sub_z _ k_741)) (fun _ h => h) rfl dX9_isAllowedFor_39 ?_
          refine lv_iload_n hx hb dX9_isAllowedFor_42 rfl (lv_at hl 3 rfl) ?_
          obtain ⟨k23, h⟩ := dg h
          refine va_iald (f := mg.2.2.1) hx hb hK hP 6 0 rfl rfl (inb_vp k23) dX9_isAllowedFor_43 ?_
          obtain ⟨v24, hv24, h⟩ := dq h
          refine cSi (As := [.int a1, .int (mg.2.2.1 a2.toNatClampNeg)]) (rest := []) ⟨hx, hb, hml, hown, hts⟩ (c_X9_digit (dT := dT) (mr := mr) (mg := mg) (mc := mc) (mn := mn) (mh := mh) (mf := mf) (mp := mp) hD hv24) (va_cwS 2 hts (good_S sub_z k_913 k_914 k_9 k_915) rfl rfl rfl (by decide +kernel) (by decide)) hK hP hS rfl hl.1 rfl (Nat.le_of_ble_eq_true rfl) dX9_isAllowedFor_44 (by decide) (fun H locs hP hS => ?_)
          refine lv_iconst (v := 1) hx hb dX9_isAllowedFor_47 (by decide) ?_
          refine lv_icmp_ne (tgt := 55) hx hb dX9_isAllowedFor_48 (by decide) (fun k25 => ?_) (fun k25 => ?_)
          · rw [if_neg k25] at h
            refine lv_iconst (v := 0) hx hb dX9_isAllowedFor_55 (by decide) ?_
            refine lv_istore (lv' := [(4, .int (0 : Int32)), (3, .int v1), (0, .ref (q 0)), (1, .int a1), (2, .int a2)]) hx hb dX9_isAllowedFor_56 hl (by decide) rfl (fun ls hl => ?_)
            refine lv_aload_n hx hb dX9_isAllowedFor_58 rfl (lv_at hl 2 rfl) ?_
            refine va_get (D := D) (ci := 8) (v := .ref (q 9)) (C := RX9) (T := TX9) (N := 31) hx hb hts (fun w h => sub_z _ (inX9 w h)) hown hK hP 0 rfl rfl 10 (by decide) (hts _ (sub_z _ k_746)) (fun _ h => h) rfl dX9_isAllowedFor_59 ?_
            refine lv_iload_n hx hb dX9_isAllowedFor_62 rfl (lv_at hl 4 rfl) ?_
            obtain ⟨k26, h⟩ := dg h
            refine va_iald (f := mn.2.1) hx hb hK hP 9 0 rfl rfl (inb_vp k26) dX9_isAllowedFor_63 ?_
            refine lv_if_ne (tgt := 94) hx hb dX9_isAllowedFor_64 (by decide) (fun k27 => ?_) (fun k27 => ?_)
            · rw [if_neg k27] at h
              refine lv_iconst (v := 0) hx hb dX9_isAllowedFor_94 (by decide) ?_
              obtain rfl := Option.some.inj h
              exact rZ (v := (0 : Int32)) hx hb hr hlk rfl hK hP hS dX9_isAllowedFor_95
            · rw [if_pos k27] at h
              refine lv_iload hx hb dX9_isAllowedFor_67 (lv_at hl 0 rfl) ?_
              refine lv_if_eq (tgt := 94) hx hb dX9_isAllowedFor_69 (by decide) (fun k28 => ?_) (fun k28 => ?_)
              · rw [if_pos k28] at h
                refine lv_iconst (v := 0) hx hb dX9_isAllowedFor_94 (by decide) ?_
                obtain rfl := Option.some.inj h
                exact rZ (v := (0 : Int32)) hx hb hr hlk rfl hK hP hS dX9_isAllowedFor_95
              · rw [if_neg k28] at h
                refine lv_aload_n hx hb dX9_isAllowedFor_72 rfl (lv_at hl 2 rfl) ?_
                refine va_get (D := D) (ci := 8) (v := .ref (q 4)) (C := RX9) (T := TX9) (N := 31) hx hb hts (fun w h => sub_z _ (inX9 w h)) hown hK hP 0 rfl rfl 3 (by decide) (hts _ (sub_z _ k_739)) (fun _ h => h) rfl dX9_isAllowedFor_73 ?_
                refine lv_iload_n hx hb dX9_isAllowedFor_76 rfl (lv_at hl 4 rfl) ?_
                obtain ⟨k29, h⟩ := dg h
                refine va_iald (f := mg.1) hx hb hK hP 4 0 rfl rfl (inb_vp k29) dX9_isAllowedFor_77 ?_
                refine lv_iconst (v := 3) hx hb dX9_isAllowedFor_78 (by decide) ?_
                refine lv_icmp_ne (tgt := 90) hx hb dX9_isAllowedFor_79 (by decide) (fun k30 => ?_) (fun k30 => ?_)
                · rw [if_neg k30] at h
                  refine lv_iconst (v := 1) hx hb dX9_isAllowedFor_90 (by decide) ?_
                  refine lv_goto (tgt := 95) hx hb dX9_isAllowedFor_91 (by decide) ?_
                  obtain rfl := Option.some.inj h
                  exact rZ (v := (1 : Int32)) hx hb hr hlk rfl hK hP hS dX9_isAllowedFor_95
                · rw [if_pos k30] at h
                  refine lv_aload_n hx hb dX9_isAllowedFor_82 rfl (lv_at hl 2 rfl) ?_
                  refine lv_iload_n hx hb dX9_isAllowedFor_83 rfl (lv_at hl 4 rfl) ?_
                  obtain ⟨v31, hv31, h⟩ := dq h
                  refine cVi (As := [.int a2]) (rest := []) ⟨hx, hb, hml, hown, hts⟩ (c_X9_falls (dT := dT) (mr := mr) (mg := mg) (mc := mc) (mn := mn) (mh := mh) (mf := mf) (mp := mp) hD hv31) (cwV 1 hts (good_V sub_z k_916 k_918 ks_25 k_9 k_919) rfl rfl rfl (by decide +kernel) (by decide)) (va_recv hK hP (ci := 8) (q0 := 0) rfl rfl) hK hP hS rfl hl.1 rfl (Nat.le_of_ble_eq_true rfl) dX9_isAllowedFor_84 (by decide) (fun H locs hP hS => ?_)
                  refine lv_if_ne (tgt := 94) hx hb dX9_isAllowedFor_87 (by decide) (fun k32 => ?_) (fun k32 => ?_)
                  · rw [if_neg k32] at h
                    refine lv_iconst (v := 0) hx hb dX9_isAllowedFor_94 (by decide) ?_
                    obtain rfl := Option.some.inj h
                    exact rZ (v := (0 : Int32)) hx hb hr hlk rfl hK hP hS dX9_isAllowedFor_95
                  · rw [if_pos k32] at h
                    refine lv_iconst (v := 1) hx hb dX9_isAllowedFor_90 (by decide) ?_
                    refine lv_goto (tgt := 95) hx hb dX9_isAllowedFor_91 (by decide) ?_
                    obtain rfl := Option.some.inj h
                    exact rZ (v := (1 : Int32)) hx hb hr hlk rfl hK hP hS dX9_isAllowedFor_95
          · rw [if_pos k25] at h
            refine lv_iconst (v := 1) hx hb dX9_isAllowedFor_51 (by decide) ?_
            refine lv_goto (tgt := 56) hx hb dX9_isAllowedFor_52 (by decide) ?_
            refine lv_istore (lv' := [(4, .int (1 : Int32)), (3, .int v1), (0, .ref (q 0)), (1, .int a1), (2, .int a2)]) hx hb dX9_isAllowedFor_56 hl (by decide) rfl (fun ls hl => ?_)
            refine lv_aload_n hx hb dX9_isAllowedFor_58 rfl (lv_at hl 2 rfl) ?_
            refine va_get (D := D) (ci := 8) (v := .ref (q 9)) (C := RX9) (T := TX9) (N := 31) hx hb hts (fun w h => sub_z _ (inX9 w h)) hown hK hP 0 rfl rfl 10 (by decide) (hts _ (sub_z _ k_746)) (fun _ h => h) rfl dX9_isAllowedFor_59 ?_
            refine lv_iload_n hx hb dX9_isAllowedFor_62 rfl (lv_at hl 4 rfl) ?_
            obtain ⟨k33, h⟩ := dg h
            refine va_iald (f := mn.2.1) hx hb hK hP 9 0 rfl rfl (inb_vp k33) dX9_isAllowedFor_63 ?_
            refine lv_if_ne (tgt := 94) hx hb dX9_isAllowedFor_64 (by decide) (fun k34 => ?_) (fun k34 => ?_)
            · rw [if_neg k34] at h
              refine lv_iconst (v := 0) hx hb dX9_isAllowedFor_94 (by decide) ?_
              obtain rfl := Option.some.inj h
              exact rZ (v := (0 : Int32)) hx hb hr hlk rfl hK hP hS dX9_isAllowedFor_95
            · rw [if_pos k34] at h
              refine lv_iload hx hb dX9_isAllowedFor_67 (lv_at hl 0 rfl) ?_
              refine lv_if_eq (tgt := 94) hx hb dX9_isAllowedFor_69 (by decide) (fun k35 => ?_) (fun k35 => ?_)
              · rw [if_pos k35] at h
                refine lv_iconst (v := 0) hx hb dX9_isAllowedFor_94 (by decide) ?_
                obtain rfl := Option.some.inj h
                exact rZ (v := (0 : Int32)) hx hb hr hlk rfl hK hP hS dX9_isAllowedFor_95
              · rw [if_neg k35] at h
                refine lv_aload_n hx hb dX9_isAllowedFor_72 rfl (lv_at hl 2 rfl) ?_
                refine va_get (D := D) (ci := 8) (v := .ref (q 4)) (C := RX9) (T := TX9) (N := 31) hx hb hts (fun w h => sub_z _ (inX9 w h)) hown hK hP 0 rfl rfl 3 (by decide) (hts _ (sub_z _ k_739)) (fun _ h => h) rfl dX9_isAllowedFor_73 ?_
                refine lv_iload_n hx hb dX9_isAllowedFor_76 rfl (lv_at hl 4 rfl) ?_
                obtain ⟨k36, h⟩ := dg h
                refine va_iald (f := mg.1) hx hb hK hP 4 0 rfl rfl (inb_vp k36) dX9_isAllowedFor_77 ?_
                refine lv_iconst (v := 3) hx hb dX9_isAllowedFor_78 (by decide) ?_
                refine lv_icmp_ne (tgt := 90) hx hb dX9_isAllowedFor_79 (by decide) (fun k37 => ?_) (fun k37 => ?_)
                · rw [if_neg k37] at h
                  refine lv_iconst (v := 1) hx hb dX9_isAllowedFor_90 (by decide) ?_
                  refine lv_goto (tgt := 95) hx hb dX9_isAllowedFor_91 (by decide) ?_
                  obtain rfl := Option.some.inj h
                  exact rZ (v := (1 : Int32)) hx hb hr hlk rfl hK hP hS dX9_isAllowedFor_95
                · rw [if_pos k37] at h
                  refine lv_aload_n hx hb dX9_isAllowedFor_82 rfl (lv_at hl 2 rfl) ?_
                  refine lv_iload_n hx hb dX9_isAllowedFor_83 rfl (lv_at hl 4 rfl) ?_
                  obtain ⟨v38, hv38, h⟩ := dq h
                  refine cVi (As := [.int a2]) (rest := []) ⟨hx, hb, hml, hown, hts⟩ (c_X9_falls (dT := dT) (mr := mr) (mg := mg) (mc := mc) (mn := mn) (mh := mh) (mf := mf) (mp := mp) hD hv38) (cwV 1 hts (good_V sub_z k_916 k_918 ks_25 k_9 k_919) rfl rfl rfl (by decide +kernel) (by decide)) (va_recv hK hP (ci := 8) (q0 := 0) rfl rfl) hK hP hS rfl hl.1 rfl (Nat.le_of_ble_eq_true rfl) dX9_isAllowedFor_84 (by decide) (fun H locs hP hS => ?_)
                  refine lv_if_ne (tgt := 94) hx hb dX9_isAllowedFor_87 (by decide) (fun k39 => ?_) (fun k39 => ?_)
                  · rw [if_neg k39] at h
                    refine lv_iconst (v := 0) hx hb dX9_isAllowedFor_94 (by decide) ?_
                    obtain rfl := Option.some.inj h
                    exact rZ (v := (0 : Int32)) hx hb hr hlk rfl hK hP hS dX9_isAllowedFor_95
                  · rw [if_pos k39] at h
                    refine lv_iconst (v := 1) hx hb dX9_isAllowedFor_90 (by decide) ?_
                    refine lv_goto (tgt := 95) hx hb dX9_isAllowedFor_91 (by decide) ?_
                    obtain rfl := Option.some.inj h
                    exact rZ (v := (1 : Int32)) hx hb hr hlk rfl hK hP hS dX9_isAllowedFor_95
    · rw [if_neg k3] at h
      refine lv_iconst (v := 0) hx hb dX9_isAllowedFor_20 (by decide) ?_
      obtain rfl := Option.some.inj h
      exact rZ (v := (0 : Int32)) hx hb hr hlk rfl hK hP hS dX9_isAllowedFor_21
  · rw [if_pos k2] at h
    refine lv_iconst (v := 1) hx hb dX9_isAllowedFor_10 (by decide) ?_
    obtain rfl := Option.some.inj h
    exact rZ (v := (1 : Int32)) hx hb hr hlk rfl hK hP hS dX9_isAllowedFor_11

set_option maxRecDepth 100000 in
set_option maxHeartbeats 4000000 in
theorem c_X9_isAllowed {l : Launch} {D : va_G} {dT : Nat → ClassId} {q : Nat → Nat} (hD : mD q) {mr : tMR} {mg : tMG} {mc : tMC} {mn : tMN} {mh : tMH} {mf : tMF} {mp : tMP} {a1 : Int32} {v : Int32} (h : f_X9_isAllowed mg mn a1 = some v) : MG l yX9_isAllowed cX9_isAllowed 4 (some .boolean) 2 [.ref (q 0), .int a1] D (tyL dT) (wM dT q mr mg mc mn mh mf mp) (QI D (tyL dT) (mA q) (wM dT q mr mg mc mn mh mf mp) v) (mA q) := by
  refine MG.mk (by decide +kernel) (Nat.le_of_ble_eq_true rfl) ?_
  intro p e s m below meth c hx hb hr hml hown hts hlk hK hP ls hl
  have hown : s.vm.findClass RX9 = some m.cls := hown
  have hS : va_S (mA q) s.heap s.heap [] := va_S.rf
  have hl : lv_has ls 4 [(0, .ref (q 0)), (1, .int a1)] := hl
  rw [f_X9_isAllowed] at h
  refine lv_iconst (v := 1) hx hb dX9_isAllowed_0 (by decide) ?_
  refine lv_istore_n (lv' := [(2, .int (1 : Int32)), (0, .ref (q 0)), (1, .int a1)]) hx hb dX9_isAllowed_1 rfl hl (by decide) rfl (fun ls hl => ?_)
  refine lv_iconst (v := 0) hx hb dX9_isAllowed_2 (by decide) ?_
  refine lv_istore_n (lv' := [(3, .int (0 : Int32)), (2, .int (1 : Int32)), (0, .ref (q 0)), (1, .int a1)]) hx hb dX9_isAllowed_3 rfl hl (by decide) rfl (fun ls hl => ?_)
  have hL4_5 : ∀ (n : Nat) (x2_4 : Int32) (x3_4 : Int32) (y : Int32 × Int32), f_X9_isAllowed_4 n mg mn a1 x2_4 x3_4 = some y → ∀ (ls : Array Slot) (H : Heap) (locs : List Loc), lv_has ls 4 [(0, .ref (q 0)), (1, .int a1), (2, .int x2_4), (3, .int x3_4)] → va_P D vwCl (wM dT q mr mg mc mn mh mf mp) H → va_S (mA q) s.heap H locs → ∀ Q : State → Prop, (∀ (ls : Array Slot) (H : Heap) (locs : List Loc), lv_has ls 4 [(0, .ref (q 0)), (1, .int a1), (2, .int y.1), (3, .int y.2)] → va_P D vwCl (wM dT q mr mg mc mn mh mf mp) H → va_S (mA q) s.heap H locs → W p l e (rmD 2) s m [.ref (q 0), .int a1].toArray below meth c H locs 0 0 Q (F0 m 34 ls [])) → W p l e (rmD 2) s m [.ref (q 0), .int a1].toArray below meth c H locs 0 0 Q (F0 m 4 ls []) := by
    intro n
    induction n with
    | zero => intro x2_4 x3_4 y h; exact absurd h (by simp [f_X9_isAllowed_4])
    | succ n ih =>
      intro x2_4 x3_4 y h ls H locs hl hP hS Q kk
      rw [f_X9_isAllowed_4] at h
      refine lv_iload_n hx hb dX9_isAllowed_4 rfl (lv_at hl 3 rfl) ?_
      refine lv_iconst (v := 4) hx hb dX9_isAllowed_5 (by decide) ?_
      refine lv_icmp_ge (tgt := 34) hx hb dX9_isAllowed_6 (by decide) (fun k1 => ?_) (fun k1 => ?_)
      · rw [if_pos k1] at h
        obtain rfl := Option.some.inj h
        exact kk _ _ _ (lv_sub hl [0, 1, 2, 3] rfl) hP hS
      · rw [if_neg k1] at h
        refine lv_iload_n hx hb dX9_isAllowed_9 rfl (lv_at hl 2 rfl) ?_
        refine lv_if_eq (tgt := 26) hx hb dX9_isAllowed_10 (by decide) (fun k2 => ?_) (fun k2 => ?_)
        · rw [if_pos k2] at h
          refine lv_iconst (v := 0) hx hb dX9_isAllowed_26 (by decide) ?_
          refine lv_istore_n (lv' := [(2, .int (0 : Int32)), (0, .ref (q 0)), (1, .int a1), (3, .int x3_4)]) hx hb dX9_isAllowed_27 rfl hl (by decide) rfl (fun ls hl => ?_)
          refine lv_iinc (v := (x3_4 + (1 : Int32))) (lv' := [(3, .int (x3_4 + (1 : Int32))), (2, .int (0 : Int32)), (0, .ref (q 0)), (1, .int a1)]) hx hb dX9_isAllowed_28 hl (k := 3) rfl rfl (by decide) rfl (fun ls hl => ?_)
          refine lv_goto (tgt := 4) hx hb dX9_isAllowed_31 (by decide) ?_
          exact ih _ _ _ h _ _ _ (lv_sub hl [2, 3, 1, 0] rfl) hP hS _ kk
        · rw [if_neg k2] at h
          refine lv_aload_n hx hb dX9_isAllowed_13 rfl (lv_at hl 0 rfl) ?_
          refine lv_iload_n hx hb dX9_isAllowed_14 rfl (lv_at hl 1 rfl) ?_
          refine lv_iload_n hx hb dX9_isAllowed_15 rfl (lv_at hl 3 rfl) ?_
          obtain ⟨v3, hv3, h⟩ := dq h
          refine cVi (As := [.int a1, .int x3_4]) (rest := []) ⟨hx, hb, hml, hown, hts⟩ (c_X9_isAllowedFor (dT := dT) (mr := mr) (mg := mg) (mc := mc) (mn := mn) (mh := mh) (mf := mf) (mp := mp) hD hv3) (cwV 2 hts (good_V sub_z k_909 k_911 ks_24 k_9 k_912) rfl rfl rfl (by decide +kernel) (by decide)) (va_recv hK hP (ci := 8) (q0 := 0) rfl rfl) hK hP hS rfl hl.1 rfl (Nat.le_of_ble_eq_true rfl) dX9_isAllowed_16 (by decide) (fun H locs hP hS => ?_)
          refine lv_if_eq (tgt := 26) hx hb dX9_isAllowed_19 (by decide) (fun k4 => ?_) (fun k4 => ?_)
          · rw [if_pos k4] at h
            refine lv_iconst (v := 0) hx hb dX9_isAllowed_26 (by decide) ?_
            refine lv_istore_n (lv' := [(2, .int (0 : Int32)), (0, .ref (q 0)), (1, .int a1), (3, .int x3_4)]) hx hb dX9_isAllowed_27 rfl hl (by decide) rfl (fun ls hl => ?_)
            refine lv_iinc (v := (x3_4 + (1 : Int32))) (lv' := [(3, .int (x3_4 + (1 : Int32))), (2, .int (0 : Int32)), (0, .ref (q 0)), (1, .int a1)]) hx hb dX9_isAllowed_28 hl (k := 3) rfl rfl (by decide) rfl (fun ls hl => ?_)
            refine lv_goto (tgt := 4) hx hb dX9_isAllowed_31 (by decide) ?_
            exact ih _ _ _ h _ _ _ (lv_sub hl [2, 3, 1, 0] rfl) hP hS _ kk
          · rw [if_neg k4] at h
            refine lv_iconst (v := 1) hx hb dX9_isAllowed_22 (by decide) ?_
            refine lv_goto (tgt := 27) hx hb dX9_isAllowed_23 (by decide) ?_
            refine lv_istore_n (lv' := [(2, .int (1 : Int32)), (0, .ref (q 0)), (1, .int a1), (3, .int x3_4)]) hx hb dX9_isAllowed_27 rfl hl (by decide) rfl (fun ls hl => ?_)
            refine lv_iinc (v := (x3_4 + (1 : Int32))) (lv' := [(3, .int (x3_4 + (1 : Int32))), (2, .int (1 : Int32)), (0, .ref (q 0)), (1, .int a1)]) hx hb dX9_isAllowed_28 hl (k := 3) rfl rfl (by decide) rfl (fun ls hl => ?_)
            refine lv_goto (tgt := 4) hx hb dX9_isAllowed_31 (by decide) ?_
            exact ih _ _ _ h _ _ _ (lv_sub hl [2, 3, 1, 0] rfl) hP hS _ kk
  obtain ⟨y6, hy6, h⟩ := dq h
  refine hL4_5 _ _ _ _ hy6 _ _ _ (lv_sub hl [2, 3, 1, 0] rfl) hP hS _ (fun ls H locs hl hP hS => ?_)
  refine lv_iload_n hx hb dX9_isAllowed_34 rfl (lv_at hl 2 rfl) ?_
  obtain ⟨k7, h⟩ := dg h
  obtain rfl := Option.some.inj h
  exact rZ hx hb hr hlk (isb_n k7) hK hP hS dX9_isAllowed_35

set_option maxRecDepth 100000 in
set_option maxHeartbeats 4000000 in
theorem c_X9_handle {l : Launch} {D : va_G} {dT : Nat → ClassId} {q : Nat → Nat} (hD : mD q) {mr : tMR} {mg : tMG} {mc : tMC} {mn : tMN} {mh : tMH} {mf : tMF} {mp : tMP} {a1 : Int32} {v : tMN} (h : f_X9_handle mg mn a1 = some v) : MG l yX9_handle cX9_handle 4 none 1 [.ref (q 0), .int a1] D (tyL dT) (wM dT q mr mg mc mn mh mf mp) (QV D (tyL dT) (mA q) (wM dT q mr mg mc v mh mf mp)) (mA q) := by
  refine MG.mk (by decide +kernel) (Nat.le_of_ble_eq_true rfl) ?_
  intro p e s m below meth c hx hb hr hml hown hts hlk hK hP ls hl
  have hown : s.vm.findClass RX9 = some m.cls := hown
  have hS : va_S (mA q) s.heap s.heap [] := va_S.rf
  have hl : lv_has ls 4 [(0, .ref (q 0)), (1, .int a1)] := hl
  rw [f_X9_handle] at h
  refine lv_iconst (v := 0) hx hb dX9_handle_0 (by decide) ?_
  refine lv_istore_n (lv' := [(2, .int (0 : Int32)), (0, .ref (q 0)), (1, .int a1)]) hx hb dX9_handle_1 rfl hl (by decide) rfl (fun ls hl => ?_)
  have hL2_16 : ∀ (n : Nat) (mn_2 : tMN) (x2_2 : Int32) (y : Int32 × tMN), f_X9_handle_2 n mg mn_2 a1 x2_2 = some y → ∀ (ls : Array Slot) (H : Heap) (locs : List Loc), lv_has ls 4 [(0, .ref (q 0)), (1, .int a1), (2, .int x2_2)] → va_P D vwCl (wM dT q mr mg mc mn_2 mh mf mp) H → va_S (mA q) s.heap H locs → ∀ Q : State → Prop, (∀ (ls : Array Slot) (H : Heap) (locs : List Loc), lv_has ls 4 [(0, .ref (q 0)), (1, .int a1), (2, .int y.1)] → va_P D vwCl (wM dT q mr mg mc y.2 mh mf mp) H → va_S (mA q) s.heap H locs → W p l e (rmD 1) s m [.ref (q 0), .int a1].toArray below meth c H locs 0 0 Q (F0 m 96 ls [])) → W p l e (rmD 1) s m [.ref (q 0), .int a1].toArray below meth c H locs 0 0 Q (F0 m 2 ls []) := by
    intro n
    induction n with
    | zero => intro mn_2 x2_2 y h; exact absurd h (by simp [f_X9_handle_2])
    | succ n ih =>
      intro mn_2 x2_2 y h ls H locs hl hP hS Q kk
      rw [f_X9_handle_2] at h
      refine lv_iload_n hx hb dX9_handle_2 rfl (lv_at hl 2 rfl) ?_
      refine lv_aload_n hx hb dX9_handle_3 rfl (lv_at hl 0 rfl) ?_
      refine va_get (D := D) (ci := 8) (v := .int mg.2.2.2) (C := RX9) (T := TX9) (N := 31) hx hb hts (fun w h => sub_z _ (inX9 w h)) hown hK hP 0 rfl rfl 6 (by decide) (hts _ (sub_z _ k_742)) (fun _ h => h) rfl dX9_handle_4 ?_
      refine lv_icmp_ge (tgt := 96) hx hb dX9_handle_7 (by decide) (fun k1 => ?_) (fun k1 => ?_)
      · rw [if_pos k1] at h
        obtain rfl := Option.some.inj h
        exact kk _ _ _ (lv_sub hl [0, 1, 2] rfl) hP hS
      · rw [if_neg k1] at h
        refine lv_iload_n hx hb dX9_handle_10 rfl (lv_at hl 1 rfl) ?_
        refine lv_iload_n hx hb dX9_handle_11 rfl (lv_at hl 2 rfl) ?_
        obtain ⟨v2, hv2, h⟩ := dq h
        refine cSi (As := [.int a1, .int x2_2]) (rest := []) ⟨hx, hb, hml, hown, hts⟩ (c_X9_digit (dT := dT) (mr := mr) (mg := mg) (mc := mc) (mn := mn_2) (mh := mh) (mf := mf) (mp := mp) hD hv2) (va_cwS 2 hts (good_S sub_z k_913 k_914 k_9 k_915) rfl rfl rfl (by decide +kernel) (by decide)) hK hP hS rfl hl.1 rfl (Nat.le_of_ble_eq_true rfl) dX9_handle_12 (by decide) (fun H locs hP hS => ?_)
        refine lv_istore_n (lv' := [(3, .int v2), (0, .ref (q 0)), (1, .int a1), (2, .int x2_2)]) hx hb dX9_handle_15 rfl hl (by decide) rfl (fun ls hl => ?_)
        refine lv_iload_n hx hb dX9_handle_16 rfl (lv_at hl 0 rfl) ?_
        refine lv_iconst (v := 1) hx hb dX9_handle_17 (by decide) ?_
        refine lv_icmp_ne (tgt := 69) hx hb dX9_handle_18 (by decide) (fun k3 => ?_) (fun k3 => ?_)
        · rw [if_neg k3] at h
          refine lv_iload_n hx hb dX9_handle_69 rfl (lv_at hl 0 rfl) ?_
          refine lv_iconst (v := 1) hx hb dX9_handle_70 (by decide) ?_
          refine lv_icmp_le (tgt := 90) hx hb dX9_handle_71 (by decide) (fun k4 => ?_) (fun k4 => ?_)
          · rw [if_pos k4] at h
            refine lv_iinc (v := (x2_2 + (1 : Int32))) (lv' := [(2, .int (x2_2 + (1 : Int32))), (3, .int v2), (0, .ref (q 0)), (1, .int a1)]) hx hb dX9_handle_90 hl (k := 3) rfl rfl (by decide) rfl (fun ls hl => ?_)
            refine lv_goto (tgt := 2) hx hb dX9_handle_93 (by decide) ?_
            exact ih _ _ _ h _ _ _ (lv_sub hl [2, 3, 0] rfl) hP hS _ kk
          · rw [if_neg k4] at h
            refine lv_aload_n hx hb dX9_handle_74 rfl (lv_at hl 1 rfl) ?_
            refine va_get (D := D) (ci := 8) (v := .ref (q 9)) (C := RX9) (T := TX9) (N := 31) hx hb hts (fun w h => sub_z _ (inX9 w h)) hown hK hP 0 rfl rfl 10 (by decide) (hts _ (sub_z _ k_746)) (fun _ h => h) rfl dX9_handle_75 ?_
            refine lv_iload_n hx hb dX9_handle_78 rfl (lv_at hl 3 rfl) ?_
            refine lv_iload_n hx hb dX9_handle_79 rfl (lv_at hl 0 rfl) ?_
            refine lv_iconst (v := 2) hx hb dX9_handle_80 (by decide) ?_
            refine lv_icmp_ne (tgt := 88) hx hb dX9_handle_81 (by decide) (fun k5 => ?_) (fun k5 => ?_)
            · rw [if_neg k5] at h
              refine lv_iconst (v := 0) hx hb dX9_handle_88 (by decide) ?_
              obtain ⟨k6, h⟩ := dg h
              refine va_iast (f := mn_2.2.1) hx hb hK hP (mD.w hD) hS 9 0 rfl rfl (inb_vp k6) dX9_handle_89 (fun H locs hP _ hS => ?_)
              have hP : va_P D vwCl (wM dT q mr mg mc (mn_2.1, (upd mn_2.2.1 x2_2.toNatClampNeg (0 : Int32)), mn_2.2.2) mh mf mp) H := hP
              refine lv_iinc (v := (x2_2 + (1 : Int32))) (lv' := [(2, .int (x2_2 + (1 : Int32))), (3, .int v2), (0, .ref (q 0)), (1, .int a1)]) hx hb dX9_handle_90 hl (k := 3) rfl rfl (by decide) rfl (fun ls hl => ?_)
              refine lv_goto (tgt := 2) hx hb dX9_handle_93 (by decide) ?_
              exact ih _ _ _ h _ _ _ (lv_sub hl [2, 3, 0] rfl) hP hS _ kk
            · rw [if_pos k5] at h
              refine lv_iconst (v := 1) hx hb dX9_handle_84 (by decide) ?_
              refine lv_goto (tgt := 89) hx hb dX9_handle_85 (by decide) ?_
              obtain ⟨k7, h⟩ := dg h
              refine va_iast (f := mn_2.2.1) hx hb hK hP (mD.w hD) hS 9 0 rfl rfl (inb_vp k7) dX9_handle_89 (fun H locs hP _ hS => ?_)
              have hP : va_P D vwCl (wM dT q mr mg mc (mn_2.1, (upd mn_2.2.1 x2_2.toNatClampNeg (1 : Int32)), mn_2.2.2) mh mf mp) H := hP
              refine lv_iinc (v := (x2_2 + (1 : Int32))) (lv' := [(2, .int (x2_2 + (1 : Int32))), (3, .int v2), (0, .ref (q 0)), (1, .int a1)]) hx hb dX9_handle_90 hl (k := 3) rfl rfl (by decide) rfl (fun ls hl => ?_)
              refine lv_goto (tgt := 2) hx hb dX9_handle_93 (by decide) ?_
              exact ih _ _ _ h _ _ _ (lv_sub hl [2, 3, 0] rfl) hP hS _ kk
        · rw [if_pos k3] at h
          refine lv_aload_n hx hb dX9_handle_21 rfl (lv_at hl 1 rfl) ?_
          refine va_get (D := D) (ci := 8) (v := .ref (q 8)) (C := RX9) (T := TX9) (N := 31) hx hb hts (fun w h => sub_z _ (inX9 w h)) hown hK hP 0 rfl rfl 9 (by decide) (hts _ (sub_z _ k_745)) (fun _ h => h) rfl dX9_handle_22 ?_
          refine lv_iload_n hx hb dX9_handle_25 rfl (lv_at hl 3 rfl) ?_
          refine lv_aload_n hx hb dX9_handle_26 rfl (lv_at hl 1 rfl) ?_
          refine va_get (D := D) (ci := 8) (v := .ref (q 5)) (C := RX9) (T := TX9) (N := 31) hx hb hts (fun w h => sub_z _ (inX9 w h)) hown hK hP 0 rfl rfl 4 (by decide) (hts _ (sub_z _ k_740)) (fun _ h => h) rfl dX9_handle_27 ?_
          refine lv_iload_n hx hb dX9_handle_30 rfl (lv_at hl 3 rfl) ?_
          obtain ⟨k8, h⟩ := dg h
          refine va_iald (f := mg.2.1) hx hb hK hP 5 0 rfl rfl (inb_vp k8) dX9_handle_31 ?_
          refine lv_aload_n hx hb dX9_handle_32 rfl (lv_at hl 1 rfl) ?_
          refine va_get (D := D) (ci := 8) (v := .ref (q 8)) (C := RX9) (T := TX9) (N := 31) hx hb hts (fun w h => sub_z _ (inX9 w h)) hown hK hP 0 rfl rfl 9 (by decide) (hts _ (sub_z _ k_745)) (fun _ h => h) rfl dX9_handle_33 ?_
          refine lv_iload_n hx hb dX9_handle_36 rfl (lv_at hl 3 rfl) ?_
          obtain ⟨k9, h⟩ := dg h
          refine va_iald (f := mn_2.1) hx hb hK hP 8 0 rfl rfl (inb_vp k9) dX9_handle_37 ?_
          refine lv_isub hx hb dX9_handle_38 ?_
          obtain ⟨k10, h⟩ := dg h
          refine va_iast (f := mn_2.1) hx hb hK hP (mD.w hD) hS 8 0 rfl rfl (inb_vp k10) dX9_handle_39 (fun H locs hP _ hS => ?_)
          have hP : va_P D vwCl (wM dT q mr mg mc ((upd mn_2.1 x2_2.toNatClampNeg ((mg.2.1 x2_2.toNatClampNeg) - (mn_2.1 x2_2.toNatClampNeg))), mn_2.2.1, mn_2.2.2) mh mf mp) H := hP
          refine lv_aload_n hx hb dX9_handle_40 rfl (lv_at hl 1 rfl) ?_
          refine va_get (D := D) (ci := 8) (v := .ref (q 10)) (C := RX9) (T := TX9) (N := 31) hx hb hts (fun w h => sub_z _ (inX9 w h)) hown hK hP 0 rfl rfl 11 (by decide) (hts _ (sub_z _ k_747)) (fun _ h => h) rfl dX9_handle_41 ?_
          refine lv_iload_n hx hb dX9_handle_44 rfl (lv_at hl 3 rfl) ?_
          refine lv_aload_n hx hb dX9_handle_45 rfl (lv_at hl 1 rfl) ?_
          refine va_get (D := D) (ci := 8) (v := .ref (q 4)) (C := RX9) (T := TX9) (N := 31) hx hb hts (fun w h => sub_z _ (inX9 w h)) hown hK hP 0 rfl rfl 3 (by decide) (hts _ (sub_z _ k_739)) (fun _ h => h) rfl dX9_handle_46 ?_
          refine lv_iload_n hx hb dX9_handle_49 rfl (lv_at hl 3 rfl) ?_
          obtain ⟨k11, h⟩ := dg h
          refine va_iald (f := mg.1) hx hb hK hP 4 0 rfl rfl (inb_vp k11) dX9_handle_50 ?_
          refine lv_iconst (v := 4) hx hb dX9_handle_51 (by decide) ?_
          refine lv_icmp_ne (tgt := 64) hx hb dX9_handle_52 (by decide) (fun k12 => ?_) (fun k12 => ?_)
          · rw [if_neg k12] at h
            refine lv_iconst (v := 0) hx hb dX9_handle_64 (by decide) ?_
            obtain ⟨k13, h⟩ := dg h
            refine va_iast (f := mn_2.2.2) hx hb hK hP (mD.w hD) hS 10 0 rfl rfl (inb_vp k13) dX9_handle_65 (fun H locs hP _ hS => ?_)
            have hP : va_P D vwCl (wM dT q mr mg mc ((upd mn_2.1 x2_2.toNatClampNeg ((mg.2.1 x2_2.toNatClampNeg) - (mn_2.1 x2_2.toNatClampNeg))), mn_2.2.1, (upd mn_2.2.2 x2_2.toNatClampNeg (0 : Int32))) mh mf mp) H := hP
            refine lv_goto (tgt := 90) hx hb dX9_handle_66 (by decide) ?_
            refine lv_iinc (v := (x2_2 + (1 : Int32))) (lv' := [(2, .int (x2_2 + (1 : Int32))), (3, .int v2), (0, .ref (q 0)), (1, .int a1)]) hx hb dX9_handle_90 hl (k := 3) rfl rfl (by decide) rfl (fun ls hl => ?_)
            refine lv_goto (tgt := 2) hx hb dX9_handle_93 (by decide) ?_
            exact ih _ _ _ h _ _ _ (lv_sub hl [2, 3, 0] rfl) hP hS _ kk
          · rw [if_pos k12] at h
            refine lv_aload_n hx hb dX9_handle_55 rfl (lv_at hl 1 rfl) ?_
            refine va_get (D := D) (ci := 8) (v := .ref (q 6)) (C := RX9) (T := TX9) (N := 31) hx hb hts (fun w h => sub_z _ (inX9 w h)) hown hK hP 0 rfl rfl 5 (by decide) (hts _ (sub_z _ k_741)) (fun _ h => h) rfl dX9_handle_56 ?_
            refine lv_iload_n hx hb dX9_handle_59 rfl (lv_at hl 3 rfl) ?_
            obtain ⟨k14, h⟩ := dg h
            refine va_iald (f := mg.2.2.1) hx hb hK hP 6 0 rfl rfl (inb_vp k14) dX9_handle_60 ?_
            refine lv_goto (tgt := 65) hx hb dX9_handle_61 (by decide) ?_
            obtain ⟨k15, h⟩ := dg h
            refine va_iast (f := mn_2.2.2) hx hb hK hP (mD.w hD) hS 10 0 rfl rfl (inb_vp k15) dX9_handle_65 (fun H locs hP _ hS => ?_)
            have hP : va_P D vwCl (wM dT q mr mg mc ((upd mn_2.1 x2_2.toNatClampNeg ((mg.2.1 x2_2.toNatClampNeg) - (mn_2.1 x2_2.toNatClampNeg))), mn_2.2.1, (upd mn_2.2.2 x2_2.toNatClampNeg (mg.2.2.1 x2_2.toNatClampNeg))) mh mf mp) H := hP
            refine lv_goto (tgt := 90) hx hb dX9_handle_66 (by decide) ?_
            refine lv_iinc (v := (x2_2 + (1 : Int32))) (lv' := [(2, .int (x2_2 + (1 : Int32))), (3, .int v2), (0, .ref (q 0)), (1, .int a1)]) hx hb dX9_handle_90 hl (k := 3) rfl rfl (by decide) rfl (fun ls hl => ?_)
            refine lv_goto (tgt := 2) hx hb dX9_handle_93 (by decide) ?_
            exact ih _ _ _ h _ _ _ (lv_sub hl [2, 3, 0] rfl) hP hS _ kk
  obtain ⟨y17, hy17, h⟩ := dq h
  refine hL2_16 _ _ _ _ hy17 _ _ _ (lv_sub hl [1, 2, 0] rfl) hP hS _ (fun ls H locs hl hP hS => ?_)
  obtain rfl := Option.some.inj h
  exact rV hx hb hr hlk hK hP hS dX9_handle_96

set_option maxRecDepth 100000 in
set_option maxHeartbeats 4000000 in
theorem c_X9_passes {l : Launch} {D : va_G} {dT : Nat → ClassId} {q : Nat → Nat} (hD : mD q) {mr : tMR} {mg : tMG} {mc : tMC} {mn : tMN} {mh : tMH} {mf : tMF} {mp : tMP}  {v : Int32 × tMN} (h : f_X9_passes mg mn = some v) : MG l yX9_passes cX9_passes 3 (some .boolean) 1 [.ref (q 0)] D (tyL dT) (wM dT q mr mg mc mn mh mf mp) (QI D (tyL dT) (mA q) (wM dT q mr mg mc v.2 mh mf mp) v.1) (mA q) := by
  refine MG.mk (by decide +kernel) (Nat.le_of_ble_eq_true rfl) ?_
  intro p e s m below meth c hx hb hr hml hown hts hlk hK hP ls hl
  have hown : s.vm.findClass RX9 = some m.cls := hown
  have hS : va_S (mA q) s.heap s.heap [] := va_S.rf
  have hl : lv_has ls 3 [(0, .ref (q 0))] := hl
  rw [f_X9_passes] at h
  refine lv_iconst (v := 0) hx hb dX9_passes_0 (by decide) ?_
  refine lv_istore_n (lv' := [(1, .int (0 : Int32)), (0, .ref (q 0))]) hx hb dX9_passes_1 rfl hl (by decide) rfl (fun ls hl => ?_)
  refine lv_iconst (v := 0) hx hb dX9_passes_2 (by decide) ?_
  refine lv_istore_n (lv' := [(2, .int (0 : Int32)), (1, .int (0 : Int32)), (0, .ref (q 0))]) hx hb dX9_passes_3 rfl hl (by decide) rfl (fun ls hl => ?_)
  have hL4_15 : ∀ (n : Nat) (mn_4 : tMN) (x1_4 : Int32) (x2_4 : Int32) (y : Int32 × Int32 × tMN), f_X9_passes_4 n mg mn_4 x1_4 x2_4 = some y → ∀ (ls : Array Slot) (H : Heap) (locs : List Loc), lv_has ls 3 [(0, .ref (q 0)), (1, .int x1_4), (2, .int x2_4)] → va_P D vwCl (wM dT q mr mg mc mn_4 mh mf mp) H → va_S (mA q) s.heap H locs → ∀ Q : State → Prop, (∀ (ls : Array Slot) (H : Heap) (locs : List Loc), lv_has ls 3 [(0, .ref (q 0)), (1, .int y.1), (2, .int y.2.1)] → va_P D vwCl (wM dT q mr mg mc y.2.2 mh mf mp) H → va_S (mA q) s.heap H locs → W p l e (rmD 1) s m [.ref (q 0)].toArray below meth c H locs 0 0 Q (F0 m 86 ls [])) → W p l e (rmD 1) s m [.ref (q 0)].toArray below meth c H locs 0 0 Q (F0 m 4 ls []) := by
    intro n
    induction n with
    | zero => intro mn_4 x1_4 x2_4 y h; exact absurd h (by simp [f_X9_passes_4])
    | succ n ih =>
      intro mn_4 x1_4 x2_4 y h ls H locs hl hP hS Q kk
      rw [f_X9_passes_4] at h
      refine lv_iload_n hx hb dX9_passes_4 rfl (lv_at hl 2 rfl) ?_
      refine lv_aload_n hx hb dX9_passes_5 rfl (lv_at hl 0 rfl) ?_
      refine va_get (D := D) (ci := 8) (v := .int mg.2.2.2) (C := RX9) (T := TX9) (N := 31) hx hb hts (fun w h => sub_z _ (inX9 w h)) hown hK hP 0 rfl rfl 6 (by decide) (hts _ (sub_z _ k_742)) (fun _ h => h) rfl dX9_passes_6 ?_
      refine lv_icmp_ge (tgt := 86) hx hb dX9_passes_9 (by decide) (fun k1 => ?_) (fun k1 => ?_)
      · rw [if_pos k1] at h
        obtain rfl := Option.some.inj h
        exact kk _ _ _ (lv_sub hl [0, 1, 2] rfl) hP hS
      · rw [if_neg k1] at h
        refine lv_aload_n hx hb dX9_passes_12 rfl (lv_at hl 0 rfl) ?_
        refine lv_iload_n hx hb dX9_passes_13 rfl (lv_at hl 2 rfl) ?_
        obtain ⟨v2, hv2, h⟩ := dq h
        refine cVi (As := [.int x2_4]) (rest := []) ⟨hx, hb, hml, hown, hts⟩ (c_X9_falls (dT := dT) (mr := mr) (mg := mg) (mc := mc) (mn := mn_4) (mh := mh) (mf := mf) (mp := mp) hD hv2) (cwV 1 hts (good_V sub_z k_916 k_918 ks_25 k_9 k_919) rfl rfl rfl (by decide +kernel) (by decide)) (va_recv hK hP (ci := 8) (q0 := 0) rfl rfl) hK hP hS rfl hl.1 rfl (Nat.le_of_ble_eq_true rfl) dX9_passes_14 (by decide) (fun H locs hP hS => ?_)
        refine lv_if_eq (tgt := 52) hx hb dX9_passes_17 (by decide) (fun k3 => ?_) (fun k3 => ?_)
        · rw [if_pos k3] at h
          refine lv_aload_n hx hb dX9_passes_52 rfl (lv_at hl 0 rfl) ?_
          refine va_get (D := D) (ci := 8) (v := .ref (q 9)) (C := RX9) (T := TX9) (N := 31) hx hb hts (fun w h => sub_z _ (inX9 w h)) hown hK hP 0 rfl rfl 10 (by decide) (hts _ (sub_z _ k_746)) (fun _ h => h) rfl dX9_passes_53 ?_
          refine lv_iload_n hx hb dX9_passes_56 rfl (lv_at hl 2 rfl) ?_
          obtain ⟨k4, h⟩ := dg h
          refine va_iald (f := mn_4.2.1) hx hb hK hP 9 0 rfl rfl (inb_vp k4) dX9_passes_57 ?_
          refine lv_if_ne (tgt := 80) hx hb dX9_passes_58 (by decide) (fun k5 => ?_) (fun k5 => ?_)
          · rw [if_neg k5] at h
            refine lv_iinc (v := (x2_4 + (1 : Int32))) (lv' := [(2, .int (x2_4 + (1 : Int32))), (0, .ref (q 0)), (1, .int x1_4)]) hx hb dX9_passes_80 hl (k := 2) rfl rfl (by decide) rfl (fun ls hl => ?_)
            refine lv_goto (tgt := 4) hx hb dX9_passes_83 (by decide) ?_
            exact ih _ _ _ _ h _ _ _ (lv_sub hl [1, 2, 0] rfl) hP hS _ kk
          · rw [if_pos k5] at h
            refine lv_aload_n hx hb dX9_passes_61 rfl (lv_at hl 0 rfl) ?_
            refine va_get (D := D) (ci := 8) (v := .ref (q 10)) (C := RX9) (T := TX9) (N := 31) hx hb hts (fun w h => sub_z _ (inX9 w h)) hown hK hP 0 rfl rfl 11 (by decide) (hts _ (sub_z _ k_747)) (fun _ h => h) rfl dX9_passes_62 ?_
            refine lv_iload_n hx hb dX9_passes_65 rfl (lv_at hl 2 rfl) ?_
            obtain ⟨k6, h⟩ := dg h
            refine va_iald (f := mn_4.2.2) hx hb hK hP 10 0 rfl rfl (inb_vp k6) dX9_passes_66 ?_
            refine lv_if_le (tgt := 80) hx hb dX9_passes_67 (by decide) (fun k7 => ?_) (fun k7 => ?_)
            · rw [if_pos k7] at h
              refine lv_iinc (v := (x2_4 + (1 : Int32))) (lv' := [(2, .int (x2_4 + (1 : Int32))), (0, .ref (q 0)), (1, .int x1_4)]) hx hb dX9_passes_80 hl (k := 2) rfl rfl (by decide) rfl (fun ls hl => ?_)
              refine lv_goto (tgt := 4) hx hb dX9_passes_83 (by decide) ?_
              exact ih _ _ _ _ h _ _ _ (lv_sub hl [1, 2, 0] rfl) hP hS _ kk
            · rw [if_neg k7] at h
              refine lv_aload_n hx hb dX9_passes_70 rfl (lv_at hl 0 rfl) ?_
              refine va_get (D := D) (ci := 8) (v := .ref (q 10)) (C := RX9) (T := TX9) (N := 31) hx hb hts (fun w h => sub_z _ (inX9 w h)) hown hK hP 0 rfl rfl 11 (by decide) (hts _ (sub_z _ k_747)) (fun _ h => h) rfl dX9_passes_71 ?_
              refine lv_iload_n hx hb dX9_passes_74 rfl (lv_at hl 2 rfl) ?_
              refine lv_dup2_11 hx hb dX9_passes_75 rfl rfl ?_
              obtain ⟨k8, h⟩ := dg h
              refine va_iald (f := mn_4.2.2) hx hb hK hP 10 0 rfl rfl (inb_vp k8) dX9_passes_76 ?_
              refine lv_iconst (v := 1) hx hb dX9_passes_77 (by decide) ?_
              refine lv_isub hx hb dX9_passes_78 ?_
              obtain ⟨k9, h⟩ := dg h
              refine va_iast (f := mn_4.2.2) hx hb hK hP (mD.w hD) hS 10 0 rfl rfl (inb_vp k9) dX9_passes_79 (fun H locs hP _ hS => ?_)
              have hP : va_P D vwCl (wM dT q mr mg mc (mn_4.1, mn_4.2.1, (upd mn_4.2.2 x2_4.toNatClampNeg ((mn_4.2.2 x2_4.toNatClampNeg) - (1 : Int32)))) mh mf mp) H := hP
              refine lv_iinc (v := (x2_4 + (1 : Int32))) (lv' := [(2, .int (x2_4 + (1 : Int32))), (0, .ref (q 0)), (1, .int x1_4)]) hx hb dX9_passes_80 hl (k := 2) rfl rfl (by decide) rfl (fun ls hl => ?_)
              refine lv_goto (tgt := 4) hx hb dX9_passes_83 (by decide) ?_
              exact ih _ _ _ _ h _ _ _ (lv_sub hl [1, 2, 0] rfl) hP hS _ kk
        · rw [if_neg k3] at h
          refine lv_aload_n hx hb dX9_passes_20 rfl (lv_at hl 0 rfl) ?_
          refine va_get (D := D) (ci := 8) (v := .ref (q 8)) (C := RX9) (T := TX9) (N := 31) hx hb hts (fun w h => sub_z _ (inX9 w h)) hown hK hP 0 rfl rfl 9 (by decide) (hts _ (sub_z _ k_745)) (fun _ h => h) rfl dX9_passes_21 ?_
          refine lv_iload_n hx hb dX9_passes_24 rfl (lv_at hl 2 rfl) ?_
          refine lv_dup2_11 hx hb dX9_passes_25 rfl rfl ?_
          obtain ⟨k10, h⟩ := dg h
          refine va_iald (f := mn_4.1) hx hb hK hP 8 0 rfl rfl (inb_vp k10) dX9_passes_26 ?_
          refine lv_iconst (v := 1) hx hb dX9_passes_27 (by decide) ?_
          refine lv_isub hx hb dX9_passes_28 ?_
          obtain ⟨k11, h⟩ := dg h
          refine va_iast (f := mn_4.1) hx hb hK hP (mD.w hD) hS 8 0 rfl rfl (inb_vp k11) dX9_passes_29 (fun H locs hP _ hS => ?_)
          have hP : va_P D vwCl (wM dT q mr mg mc ((upd mn_4.1 x2_4.toNatClampNeg ((mn_4.1 x2_4.toNatClampNeg) - (1 : Int32))), mn_4.2.1, mn_4.2.2) mh mf mp) H := hP
          refine lv_iload_n hx hb dX9_passes_30 rfl (lv_at hl 1 rfl) ?_
          refine lv_if_ne (tgt := 43) hx hb dX9_passes_31 (by decide) (fun k12 => ?_) (fun k12 => ?_)
          · rw [if_neg k12] at h
            refine lv_iconst (v := 1) hx hb dX9_passes_43 (by decide) ?_
            refine lv_goto (tgt := 48) hx hb dX9_passes_44 (by decide) ?_
            refine lv_istore_n (lv' := [(1, .int (1 : Int32)), (0, .ref (q 0)), (2, .int x2_4)]) hx hb dX9_passes_48 rfl hl (by decide) rfl (fun ls hl => ?_)
            refine lv_goto (tgt := 80) hx hb dX9_passes_49 (by decide) ?_
            refine lv_iinc (v := (x2_4 + (1 : Int32))) (lv' := [(2, .int (x2_4 + (1 : Int32))), (1, .int (1 : Int32)), (0, .ref (q 0))]) hx hb dX9_passes_80 hl (k := 2) rfl rfl (by decide) rfl (fun ls hl => ?_)
            refine lv_goto (tgt := 4) hx hb dX9_passes_83 (by decide) ?_
            exact ih _ _ _ _ h _ _ _ (lv_sub hl [2, 1, 0] rfl) hP hS _ kk
          · rw [if_pos k12] at h
            refine lv_aload_n hx hb dX9_passes_34 rfl (lv_at hl 0 rfl) ?_
            refine va_get (D := D) (ci := 8) (v := .ref (q 8)) (C := RX9) (T := TX9) (N := 31) hx hb hts (fun w h => sub_z _ (inX9 w h)) hown hK hP 0 rfl rfl 9 (by decide) (hts _ (sub_z _ k_745)) (fun _ h => h) rfl dX9_passes_35 ?_
            refine lv_iload_n hx hb dX9_passes_38 rfl (lv_at hl 2 rfl) ?_
            obtain ⟨k13, h⟩ := dg h
            refine va_iald (f := (upd mn_4.1 x2_4.toNatClampNeg ((mn_4.1 x2_4.toNatClampNeg) - (1 : Int32)))) hx hb hK hP 8 0 rfl rfl (inb_vp k13) dX9_passes_39 ?_
            refine lv_if_ne (tgt := 47) hx hb dX9_passes_40 (by decide) (fun k14 => ?_) (fun k14 => ?_)
            · rw [if_neg k14] at h
              refine lv_iconst (v := 0) hx hb dX9_passes_47 (by decide) ?_
              refine lv_istore_n (lv' := [(1, .int (0 : Int32)), (0, .ref (q 0)), (2, .int x2_4)]) hx hb dX9_passes_48 rfl hl (by decide) rfl (fun ls hl => ?_)
              refine lv_goto (tgt := 80) hx hb dX9_passes_49 (by decide) ?_
              refine lv_iinc (v := (x2_4 + (1 : Int32))) (lv' := [(2, .int (x2_4 + (1 : Int32))), (1, .int (0 : Int32)), (0, .ref (q 0))]) hx hb dX9_passes_80 hl (k := 2) rfl rfl (by decide) rfl (fun ls hl => ?_)
              refine lv_goto (tgt := 4) hx hb dX9_passes_83 (by decide) ?_
              exact ih _ _ _ _ h _ _ _ (lv_sub hl [2, 1, 0] rfl) hP hS _ kk
            · rw [if_pos k14] at h
              refine lv_iconst (v := 1) hx hb dX9_passes_43 (by decide) ?_
              refine lv_goto (tgt := 48) hx hb dX9_passes_44 (by decide) ?_
              refine lv_istore_n (lv' := [(1, .int (1 : Int32)), (0, .ref (q 0)), (2, .int x2_4)]) hx hb dX9_passes_48 rfl hl (by decide) rfl (fun ls hl => ?_)
              refine lv_goto (tgt := 80) hx hb dX9_passes_49 (by decide) ?_
              refine lv_iinc (v := (x2_4 + (1 : Int32))) (lv' := [(2, .int (x2_4 + (1 : Int32))), (1, .int (1 : Int32)), (0, .ref (q 0))]) hx hb dX9_passes_80 hl (k := 2) rfl rfl (by decide) rfl (fun ls hl => ?_)
              refine lv_goto (tgt := 4) hx hb dX9_passes_83 (by decide) ?_
              exact ih _ _ _ _ h _ _ _ (lv_sub hl [2, 1, 0] rfl) hP hS _ kk
  obtain ⟨y16, hy16, h⟩ := dq h
  refine hL4_15 _ _ _ _ _ hy16 _ _ _ (lv_sub hl [2, 1, 0] rfl) hP hS _ (fun ls H locs hl hP hS => ?_)
  refine lv_iload_n hx hb dX9_passes_86 rfl (lv_at hl 1 rfl) ?_
  obtain ⟨k17, h⟩ := dg h
  obtain rfl := Option.some.inj h
  exact rZ hx hb hr hlk (isb_n k17) hK hP hS dX9_passes_87

set_option maxRecDepth 100000 in
set_option maxHeartbeats 4000000 in
theorem c_X9_goOn {l : Launch} {D : va_G} {dT : Nat → ClassId} {q : Nat → Nat} (hD : mD q) {mr : tMR} {mg : tMG} {mc : tMC} {mn : tMN} {mh : tMH} {mf : tMF} {mp : tMP}  {v : Int32 × tMN} (h : f_X9_goOn mg mn = some v) : MG l yX9_goOn cX9_goOn 3 (some .int) 2 [.ref (q 0)] D (tyL dT) (wM dT q mr mg mc mn mh mf mp) (QI D (tyL dT) (mA q) (wM dT q mr mg mc v.2 mh mf mp) v.1) (mA q) := by
  refine MG.mk (by decide +kernel) (Nat.le_of_ble_eq_true rfl) ?_
  intro p e s m below meth c hx hb hr hml hown hts hlk hK hP ls hl
  have hown : s.vm.findClass RX9 = some m.cls := hown
  have hS : va_S (mA q) s.heap s.heap [] := va_S.rf
  have hl : lv_has ls 3 [(0, .ref (q 0))] := hl
  rw [f_X9_goOn] at h
  refine lv_iconst (v := 0) hx hb dX9_goOn_0 (by decide) ?_
  refine lv_istore_n (lv' := [(1, .int (0 : Int32)), (0, .ref (q 0))]) hx hb dX9_goOn_1 rfl hl (by decide) rfl (fun ls hl => ?_)
  refine lv_iconst (v := 0) hx hb dX9_goOn_2 (by decide) ?_
  refine lv_istore_n (lv' := [(2, .int (0 : Int32)), (1, .int (0 : Int32)), (0, .ref (q 0))]) hx hb dX9_goOn_3 rfl hl (by decide) rfl (fun ls hl => ?_)
  have hL4_7 : ∀ (n : Nat) (x1_4 : Int32) (x2_4 : Int32) (y : Int32 × Int32), f_X9_goOn_4 n mg mn x1_4 x2_4 = some y → ∀ (ls : Array Slot) (H : Heap) (locs : List Loc), lv_has ls 3 [(0, .ref (q 0)), (1, .int x1_4), (2, .int x2_4)] → va_P D vwCl (wM dT q mr mg mc mn mh mf mp) H → va_S (mA q) s.heap H locs → ∀ Q : State → Prop, (∀ (ls : Array Slot) (H : Heap) (locs : List Loc), lv_has ls 3 [(0, .ref (q 0)), (1, .int y.1), (2, .int y.2)] → va_P D vwCl (wM dT q mr mg mc mn mh mf mp) H → va_S (mA q) s.heap H locs → W p l e (rmD 2) s m [.ref (q 0)].toArray below meth c H locs 0 0 Q (F0 m 46 ls [])) → W p l e (rmD 2) s m [.ref (q 0)].toArray below meth c H locs 0 0 Q (F0 m 4 ls []) := by
    intro n
    induction n with
    | zero => intro x1_4 x2_4 y h; exact absurd h (by simp [f_X9_goOn_4])
    | succ n ih =>
      intro x1_4 x2_4 y h ls H locs hl hP hS Q kk
      rw [f_X9_goOn_4] at h
      refine lv_iload_n hx hb dX9_goOn_4 rfl (lv_at hl 2 rfl) ?_
      refine lv_aload_n hx hb dX9_goOn_5 rfl (lv_at hl 0 rfl) ?_
      refine va_get (D := D) (ci := 8) (v := .int mg.2.2.2) (C := RX9) (T := TX9) (N := 31) hx hb hts (fun w h => sub_z _ (inX9 w h)) hown hK hP 0 rfl rfl 6 (by decide) (hts _ (sub_z _ k_742)) (fun _ h => h) rfl dX9_goOn_6 ?_
      refine lv_icmp_ge (tgt := 46) hx hb dX9_goOn_9 (by decide) (fun k1 => ?_) (fun k1 => ?_)
      · rw [if_pos k1] at h
        obtain rfl := Option.some.inj h
        exact kk _ _ _ (lv_sub hl [0, 1, 2] rfl) hP hS
      · rw [if_neg k1] at h
        refine lv_iload_n hx hb dX9_goOn_12 rfl (lv_at hl 1 rfl) ?_
        refine lv_if_ne (tgt := 34) hx hb dX9_goOn_13 (by decide) (fun k2 => ?_) (fun k2 => ?_)
        · rw [if_neg k2] at h
          refine lv_iconst (v := 1) hx hb dX9_goOn_34 (by decide) ?_
          refine lv_goto (tgt := 39) hx hb dX9_goOn_35 (by decide) ?_
          refine lv_istore_n (lv' := [(1, .int (1 : Int32)), (0, .ref (q 0)), (2, .int x2_4)]) hx hb dX9_goOn_39 rfl hl (by decide) rfl (fun ls hl => ?_)
          refine lv_iinc (v := (x2_4 + (1 : Int32))) (lv' := [(2, .int (x2_4 + (1 : Int32))), (1, .int (1 : Int32)), (0, .ref (q 0))]) hx hb dX9_goOn_40 hl (k := 2) rfl rfl (by decide) rfl (fun ls hl => ?_)
          refine lv_goto (tgt := 4) hx hb dX9_goOn_43 (by decide) ?_
          exact ih _ _ _ h _ _ _ (lv_sub hl [2, 1, 0] rfl) hP hS _ kk
        · rw [if_pos k2] at h
          refine lv_aload_n hx hb dX9_goOn_16 rfl (lv_at hl 0 rfl) ?_
          refine va_get (D := D) (ci := 8) (v := .ref (q 9)) (C := RX9) (T := TX9) (N := 31) hx hb hts (fun w h => sub_z _ (inX9 w h)) hown hK hP 0 rfl rfl 10 (by decide) (hts _ (sub_z _ k_746)) (fun _ h => h) rfl dX9_goOn_17 ?_
          refine lv_iload_n hx hb dX9_goOn_20 rfl (lv_at hl 2 rfl) ?_
          obtain ⟨k3, h⟩ := dg h
          refine va_iald (f := mn.2.1) hx hb hK hP 9 0 rfl rfl (inb_vp k3) dX9_goOn_21 ?_
          refine lv_if_ne (tgt := 38) hx hb dX9_goOn_22 (by decide) (fun k4 => ?_) (fun k4 => ?_)
          · rw [if_neg k4] at h
            refine lv_iconst (v := 0) hx hb dX9_goOn_38 (by decide) ?_
            refine lv_istore_n (lv' := [(1, .int (0 : Int32)), (0, .ref (q 0)), (2, .int x2_4)]) hx hb dX9_goOn_39 rfl hl (by decide) rfl (fun ls hl => ?_)
            refine lv_iinc (v := (x2_4 + (1 : Int32))) (lv' := [(2, .int (x2_4 + (1 : Int32))), (1, .int (0 : Int32)), (0, .ref (q 0))]) hx hb dX9_goOn_40 hl (k := 2) rfl rfl (by decide) rfl (fun ls hl => ?_)
            refine lv_goto (tgt := 4) hx hb dX9_goOn_43 (by decide) ?_
            exact ih _ _ _ h _ _ _ (lv_sub hl [2, 1, 0] rfl) hP hS _ kk
          · rw [if_pos k4] at h
            refine lv_aload_n hx hb dX9_goOn_25 rfl (lv_at hl 0 rfl) ?_
            refine va_get (D := D) (ci := 8) (v := .ref (q 8)) (C := RX9) (T := TX9) (N := 31) hx hb hts (fun w h => sub_z _ (inX9 w h)) hown hK hP 0 rfl rfl 9 (by decide) (hts _ (sub_z _ k_745)) (fun _ h => h) rfl dX9_goOn_26 ?_
            refine lv_iload_n hx hb dX9_goOn_29 rfl (lv_at hl 2 rfl) ?_
            obtain ⟨k5, h⟩ := dg h
            refine va_iald (f := mn.1) hx hb hK hP 8 0 rfl rfl (inb_vp k5) dX9_goOn_30 ?_
            refine lv_if_le (tgt := 38) hx hb dX9_goOn_31 (by decide) (fun k6 => ?_) (fun k6 => ?_)
            · rw [if_pos k6] at h
              refine lv_iconst (v := 0) hx hb dX9_goOn_38 (by decide) ?_
              refine lv_istore_n (lv' := [(1, .int (0 : Int32)), (0, .ref (q 0)), (2, .int x2_4)]) hx hb dX9_goOn_39 rfl hl (by decide) rfl (fun ls hl => ?_)
              refine lv_iinc (v := (x2_4 + (1 : Int32))) (lv' := [(2, .int (x2_4 + (1 : Int32))), (1, .int (0 : Int32)), (0, .ref (q 0))]) hx hb dX9_goOn_40 hl (k := 2) rfl rfl (by decide) rfl (fun ls hl => ?_)
              refine lv_goto (tgt := 4) hx hb dX9_goOn_43 (by decide) ?_
              exact ih _ _ _ h _ _ _ (lv_sub hl [2, 1, 0] rfl) hP hS _ kk
            · rw [if_neg k6] at h
              refine lv_iconst (v := 1) hx hb dX9_goOn_34 (by decide) ?_
              refine lv_goto (tgt := 39) hx hb dX9_goOn_35 (by decide) ?_
              refine lv_istore_n (lv' := [(1, .int (1 : Int32)), (0, .ref (q 0)), (2, .int x2_4)]) hx hb dX9_goOn_39 rfl hl (by decide) rfl (fun ls hl => ?_)
              refine lv_iinc (v := (x2_4 + (1 : Int32))) (lv' := [(2, .int (x2_4 + (1 : Int32))), (1, .int (1 : Int32)), (0, .ref (q 0))]) hx hb dX9_goOn_40 hl (k := 2) rfl rfl (by decide) rfl (fun ls hl => ?_)
              refine lv_goto (tgt := 4) hx hb dX9_goOn_43 (by decide) ?_
              exact ih _ _ _ h _ _ _ (lv_sub hl [2, 1, 0] rfl) hP hS _ kk
  obtain ⟨y8, hy8, h⟩ := dq h
  refine hL4_7 _ _ _ _ hy8 _ _ _ (lv_sub hl [2, 1, 0] rfl) hP hS _ (fun ls H locs hl hP hS => ?_)
  refine lv_iload_n hx hb dX9_goOn_46 rfl (lv_at hl 1 rfl) ?_
  refine lv_if_ne (tgt := 52) hx hb dX9_goOn_47 (by decide) (fun k9 => ?_) (fun k9 => ?_)
  · rw [if_neg k9] at h
    refine lv_iconst (v := 1) hx hb dX9_goOn_52 (by decide) ?_
    refine lv_istore_n (lv' := [(2, .int (1 : Int32)), (0, .ref (q 0)), (1, .int y8.1)]) hx hb dX9_goOn_53 rfl hl (by decide) rfl (fun ls hl => ?_)
    have hL54_12 : ∀ (n : Nat) (mn_54 : tMN) (x2_54 : Int32) (y : Int32 × tMN), f_X9_goOn_54 n mg mn_54 y8.1 x2_54 = some y → ∀ (ls : Array Slot) (H : Heap) (locs : List Loc), lv_has ls 3 [(0, .ref (q 0)), (1, .int y8.1), (2, .int x2_54)] → va_P D vwCl (wM dT q mr mg mc mn_54 mh mf mp) H → va_S (mA q) s.heap H locs → ∀ Q : State → Prop, (∀ (ls : Array Slot) (H : Heap) (locs : List Loc), lv_has ls 3 [(0, .ref (q 0)), (1, .int y8.1), (2, .int y.1)] → va_P D vwCl (wM dT q mr mg mc y.2 mh mf mp) H → va_S (mA q) s.heap H locs → W p l e (rmD 2) s m [.ref (q 0)].toArray below meth c H locs 0 0 Q (F0 m 67 ls [])) → W p l e (rmD 2) s m [.ref (q 0)].toArray below meth c H locs 0 0 Q (F0 m 54 ls []) := by
      intro n
      induction n with
      | zero => intro mn_54 x2_54 y h; exact absurd h (by simp [f_X9_goOn_54])
      | succ n ih =>
        intro mn_54 x2_54 y h ls H locs hl hP hS Q kk
        rw [f_X9_goOn_54] at h
        refine lv_aload_n hx hb dX9_goOn_54 rfl (lv_at hl 0 rfl) ?_
        obtain ⟨v10, hv10, h⟩ := dq h
        refine cVi (As := []) (rest := []) ⟨hx, hb, hml, hown, hts⟩ (c_X9_passes (dT := dT) (mr := mr) (mg := mg) (mc := mc) (mn := mn_54) (mh := mh) (mf := mf) (mp := mp) hD hv10) (cwV 0 hts (good_V sub_z k_947 k_949 ks_30 k_9 k_950) rfl rfl rfl (by decide +kernel) (by decide)) (va_recv hK hP (ci := 8) (q0 := 0) rfl rfl) hK hP hS rfl hl.1 rfl (Nat.le_of_ble_eq_true rfl) dX9_goOn_55 (by decide) (fun H locs hP hS => ?_)
        refine lv_if_ne (tgt := 67) hx hb dX9_goOn_58 (by decide) (fun k11 => ?_) (fun k11 => ?_)
        · rw [if_neg k11] at h
          obtain rfl := Option.some.inj h
          exact kk _ _ _ (lv_sub hl [0, 1, 2] rfl) hP hS
        · rw [if_pos k11] at h
          refine lv_iinc (v := (x2_54 + (1 : Int32))) (lv' := [(2, .int (x2_54 + (1 : Int32))), (0, .ref (q 0)), (1, .int y8.1)]) hx hb dX9_goOn_61 hl (k := 2) rfl rfl (by decide) rfl (fun ls hl => ?_)
          refine lv_goto (tgt := 54) hx hb dX9_goOn_64 (by decide) ?_
          exact ih _ _ _ h _ _ _ (lv_sub hl [1, 2, 0] rfl) hP hS _ kk
    obtain ⟨y13, hy13, h⟩ := dq h
    refine hL54_12 _ _ _ _ hy13 _ _ _ (lv_sub hl [1, 2, 0] rfl) hP hS _ (fun ls H locs hl hP hS => ?_)
    refine lv_iload_n hx hb dX9_goOn_67 rfl (lv_at hl 2 rfl) ?_
    obtain rfl := Option.some.inj h
    exact rI hx hb hr hlk hK hP hS dX9_goOn_68
  · rw [if_pos k9] at h
    refine lv_iconst (v := 0) hx hb dX9_goOn_50 (by decide) ?_
    obtain rfl := Option.some.inj h
    exact rI hx hb hr hlk hK hP hS dX9_goOn_51

set_option maxRecDepth 100000 in
set_option maxHeartbeats 4000000 in
theorem c_X9_countOf {l : Launch} {D : va_G} {dT : Nat → ClassId} {q : Nat → Nat} (hD : mD q) {mr : tMR} {mg : tMG} {mc : tMC} {mn : tMN} {mh : tMH} {mf : tMF} {mp : tMP} {a0 : Int32} {v : Int32} (h : f_X9_countOf a0 = some v) : MG l yX9_countOf cX9_countOf 3 (some .int) 1 [.int a0] D (tyL dT) (wM dT q mr mg mc mn mh mf mp) (QI D (tyL dT) (mA q) (wM dT q mr mg mc mn mh mf mp) v) (mA q) := by
  refine MG.mk (by decide +kernel) (Nat.le_of_ble_eq_true rfl) ?_
  intro p e s m below meth c hx hb hr hml hown hts hlk hK hP ls hl
  have hown : s.vm.findClass RX9 = some m.cls := hown
  have hS : va_S (mA q) s.heap s.heap [] := va_S.rf
  have hl : lv_has ls 3 [(0, .int a0)] := hl
  rw [f_X9_countOf] at h
  refine lv_iconst (v := 0) hx hb dX9_countOf_0 (by decide) ?_
  refine lv_istore_n (lv' := [(1, .int (0 : Int32)), (0, .int a0)]) hx hb dX9_countOf_1 rfl hl (by decide) rfl (fun ls hl => ?_)
  refine lv_iconst (v := 0) hx hb dX9_countOf_2 (by decide) ?_
  refine lv_istore_n (lv' := [(2, .int (0 : Int32)), (1, .int (0 : Int32)), (0, .int a0)]) hx hb dX9_countOf_3 rfl hl (by decide) rfl (fun ls hl => ?_)
  have hL4_4 : ∀ (n : Nat) (x1_4 : Int32) (x2_4 : Int32) (y : Int32 × Int32), f_X9_countOf_4 n a0 x1_4 x2_4 = some y → ∀ (ls : Array Slot) (H : Heap) (locs : List Loc), lv_has ls 3 [(0, .int a0), (1, .int x1_4), (2, .int x2_4)] → va_P D vwCl (wM dT q mr mg mc mn mh mf mp) H → va_S (mA q) s.heap H locs → ∀ Q : State → Prop, (∀ (ls : Array Slot) (H : Heap) (locs : List Loc), lv_has ls 3 [(0, .int a0), (1, .int y.1), (2, .int y.2)] → va_P D vwCl (wM dT q mr mg mc mn mh mf mp) H → va_S (mA q) s.heap H locs → W p l e (rmD 1) s m [.int a0].toArray below meth c H locs 0 0 Q (F0 m 31 ls [])) → W p l e (rmD 1) s m [.int a0].toArray below meth c H locs 0 0 Q (F0 m 4 ls []) := by
    intro n
    induction n with
    | zero => intro x1_4 x2_4 y h; exact absurd h (by simp [f_X9_countOf_4])
    | succ n ih =>
      intro x1_4 x2_4 y h ls H locs hl hP hS Q kk
      rw [f_X9_countOf_4] at h
      refine lv_iload_n hx hb dX9_countOf_4 rfl (lv_at hl 2 rfl) ?_
      refine lv_iconst (v := 4) hx hb dX9_countOf_5 (by decide) ?_
      refine lv_icmp_ge (tgt := 31) hx hb dX9_countOf_6 (by decide) (fun k1 => ?_) (fun k1 => ?_)
      · rw [if_pos k1] at h
        obtain rfl := Option.some.inj h
        exact kk _ _ _ (lv_sub hl [0, 1, 2] rfl) hP hS
      · rw [if_neg k1] at h
        refine lv_iload_n hx hb dX9_countOf_9 rfl (lv_at hl 1 rfl) ?_
        refine lv_iload_n hx hb dX9_countOf_10 rfl (lv_at hl 0 rfl) ?_
        refine lv_iload_n hx hb dX9_countOf_11 rfl (lv_at hl 2 rfl) ?_
        obtain ⟨v2, hv2, h⟩ := dq h
        refine cSi (As := [.int a0, .int x2_4]) (rest := [.int x1_4]) ⟨hx, hb, hml, hown, hts⟩ (c_X9_digit (dT := dT) (mr := mr) (mg := mg) (mc := mc) (mn := mn) (mh := mh) (mf := mf) (mp := mp) hD hv2) (va_cwS 2 hts (good_S sub_z k_913 k_914 k_9 k_915) rfl rfl rfl (by decide +kernel) (by decide)) hK hP hS rfl hl.1 rfl (Nat.le_of_ble_eq_true rfl) dX9_countOf_12 (by decide) (fun H locs hP hS => ?_)
        refine lv_if_eq (tgt := 22) hx hb dX9_countOf_15 (by decide) (fun k3 => ?_) (fun k3 => ?_)
        · rw [if_pos k3] at h
          refine lv_iconst (v := 0) hx hb dX9_countOf_22 (by decide) ?_
          refine lv_iadd hx hb dX9_countOf_23 ?_
          refine lv_istore_n (lv' := [(1, .int (x1_4 + (0 : Int32))), (0, .int a0), (2, .int x2_4)]) hx hb dX9_countOf_24 rfl hl (by decide) rfl (fun ls hl => ?_)
          refine lv_iinc (v := (x2_4 + (1 : Int32))) (lv' := [(2, .int (x2_4 + (1 : Int32))), (1, .int (x1_4 + (0 : Int32))), (0, .int a0)]) hx hb dX9_countOf_25 hl (k := 2) rfl rfl (by decide) rfl (fun ls hl => ?_)
          refine lv_goto (tgt := 4) hx hb dX9_countOf_28 (by decide) ?_
          exact ih _ _ _ h _ _ _ (lv_sub hl [2, 1, 0] rfl) hP hS _ kk
        · rw [if_neg k3] at h
          refine lv_iconst (v := 1) hx hb dX9_countOf_18 (by decide) ?_
          refine lv_goto (tgt := 23) hx hb dX9_countOf_19 (by decide) ?_
          refine lv_iadd hx hb dX9_countOf_23 ?_
          refine lv_istore_n (lv' := [(1, .int (x1_4 + (1 : Int32))), (0, .int a0), (2, .int x2_4)]) hx hb dX9_countOf_24 rfl hl (by decide) rfl (fun ls hl => ?_)
          refine lv_iinc (v := (x2_4 + (1 : Int32))) (lv' := [(2, .int (x2_4 + (1 : Int32))), (1, .int (x1_4 + (1 : Int32))), (0, .int a0)]) hx hb dX9_countOf_25 hl (k := 2) rfl rfl (by decide) rfl (fun ls hl => ?_)
          refine lv_goto (tgt := 4) hx hb dX9_countOf_28 (by decide) ?_
          exact ih _ _ _ h _ _ _ (lv_sub hl [2, 1, 0] rfl) hP hS _ kk
  obtain ⟨y5, hy5, h⟩ := dq h
  refine hL4_4 _ _ _ _ hy5 _ _ _ (lv_sub hl [2, 1, 0] rfl) hP hS _ (fun ls H locs hl hP hS => ?_)
  refine lv_iload_n hx hb dX9_countOf_31 rfl (lv_at hl 1 rfl) ?_
  obtain rfl := Option.some.inj h
  exact rI hx hb hr hlk hK hP hS dX9_countOf_32

set_option maxRecDepth 100000 in
set_option maxHeartbeats 4000000 in
theorem c_X9_keep {l : Launch} {D : va_G} {dT : Nat → ClassId} {q : Nat → Nat} (hD : mD q) {mr : tMR} {mg : tMG} {mc : tMC} {mn : tMN} {mh : tMH} {mf : tMF} {mp : tMP}  {v : tMH} (h : f_X9_keep mh = some v) : MG l yX9_keep cX9_keep 2 none 0 [.ref (q 0)] D (tyL dT) (wM dT q mr mg mc mn mh mf mp) (QV D (tyL dT) (mA q) (wM dT q mr mg mc mn v mf mp)) (mA q) := by
  refine MG.mk (by decide +kernel) (Nat.le_of_ble_eq_true rfl) ?_
  intro p e s m below meth c hx hb hr hml hown hts hlk hK hP ls hl
  have hown : s.vm.findClass RX9 = some m.cls := hown
  have hS : va_S (mA q) s.heap s.heap [] := va_S.rf
  have hl : lv_has ls 2 [(0, .ref (q 0))] := hl
  rw [f_X9_keep] at h
  refine lv_aload_n hx hb dX9_keep_0 rfl (lv_at hl 0 rfl) ?_
  refine va_get (D := D) (ci := 8) (v := .int mh.2.2.2.2.2.2.2.2.2) (C := RX9) (T := TX9) (N := 31) hx hb hts (fun w h => sub_z _ (inX9 w h)) hown hK hP 0 rfl rfl 21 (by decide) (hts _ (sub_z _ k_757)) (fun _ h => h) rfl dX9_keep_1 ?_
  refine lv_bipush (v := 100) hx hb dX9_keep_4 (by decide) ?_
  refine lv_icmp_ne (tgt := 89) hx hb dX9_keep_6 (by decide) (fun k1 => ?_) (fun k1 => ?_)
  · rw [if_neg k1] at h
    refine lv_aload_n hx hb dX9_keep_89 rfl (lv_at hl 0 rfl) ?_
    refine va_get (D := D) (ci := 8) (v := .ref (q 12)) (C := RX9) (T := TX9) (N := 31) hx hb hts (fun w h => sub_z _ (inX9 w h)) hown hK hP 0 rfl rfl 17 (by decide) (hts _ (sub_z _ k_753)) (fun _ h => h) rfl dX9_keep_90 ?_
    refine lv_aload_n hx hb dX9_keep_93 rfl (lv_at hl 0 rfl) ?_
    refine va_get (D := D) (ci := 8) (v := .int mh.2.2.2.2.2.2.2.2.2) (C := RX9) (T := TX9) (N := 31) hx hb hts (fun w h => sub_z _ (inX9 w h)) hown hK hP 0 rfl rfl 21 (by decide) (hts _ (sub_z _ k_757)) (fun _ h => h) rfl dX9_keep_94 ?_
    refine lv_aload_n hx hb dX9_keep_97 rfl (lv_at hl 0 rfl) ?_
    refine va_get (D := D) (ci := 8) (v := .long mh.1) (C := RX9) (T := TX9) (N := 31) hx hb hts (fun w h => sub_z _ (inX9 w h)) hown hK hP 0 rfl rfl 12 (by decide) (hts _ (sub_z _ k_748)) (fun _ h => h) rfl dX9_keep_98 ?_
    obtain ⟨k2, h⟩ := dg h
    refine va_last (f := mh.2.2.2.2.2.1) hx hb hK hP (mD.w hD) hS 12 1 rfl rfl (inb_vp k2) dX9_keep_101 (fun H locs hP _ hS => ?_)
    have hP : va_P D vwCl (wM dT q mr mg mc mn (mh.1, mh.2.1, mh.2.2.1, mh.2.2.2.1, mh.2.2.2.2.1, (vp_updL mh.2.2.2.2.2.1 mh.2.2.2.2.2.2.2.2.2.toNatClampNeg mh.1), mh.2.2.2.2.2.2.1, mh.2.2.2.2.2.2.2.1, mh.2.2.2.2.2.2.2.2.1, mh.2.2.2.2.2.2.2.2.2) mf mp) H := hP
    refine lv_aload_n hx hb dX9_keep_102 rfl (lv_at hl 0 rfl) ?_
    refine va_get (D := D) (ci := 8) (v := .ref (q 13)) (C := RX9) (T := TX9) (N := 31) hx hb hts (fun w h => sub_z _ (inX9 w h)) hown hK hP 0 rfl rfl 18 (by decide) (hts _ (sub_z _ k_754)) (fun _ h => h) rfl dX9_keep_103 ?_
    refine lv_aload_n hx hb dX9_keep_106 rfl (lv_at hl 0 rfl) ?_
    refine va_get (D := D) (ci := 8) (v := .int mh.2.2.2.2.2.2.2.2.2) (C := RX9) (T := TX9) (N := 31) hx hb hts (fun w h => sub_z _ (inX9 w h)) hown hK hP 0 rfl rfl 21 (by decide) (hts _ (sub_z _ k_757)) (fun _ h => h) rfl dX9_keep_107 ?_
    refine lv_aload_n hx hb dX9_keep_110 rfl (lv_at hl 0 rfl) ?_
    refine va_get (D := D) (ci := 8) (v := .int mh.2.1) (C := RX9) (T := TX9) (N := 31) hx hb hts (fun w h => sub_z _ (inX9 w h)) hown hK hP 0 rfl rfl 13 (by decide) (hts _ (sub_z _ k_749)) (fun _ h => h) rfl dX9_keep_111 ?_
    obtain ⟨k3, h⟩ := dg h
    refine va_iast (f := mh.2.2.2.2.2.2.1) hx hb hK hP (mD.w hD) hS 13 0 rfl rfl (inb_vp k3) dX9_keep_114 (fun H locs hP _ hS => ?_)
    have hP : va_P D vwCl (wM dT q mr mg mc mn (mh.1, mh.2.1, mh.2.2.1, mh.2.2.2.1, mh.2.2.2.2.1, (vp_updL mh.2.2.2.2.2.1 mh.2.2.2.2.2.2.2.2.2.toNatClampNeg mh.1), (upd mh.2.2.2.2.2.2.1 mh.2.2.2.2.2.2.2.2.2.toNatClampNeg mh.2.1), mh.2.2.2.2.2.2.2.1, mh.2.2.2.2.2.2.2.2.1, mh.2.2.2.2.2.2.2.2.2) mf mp) H := hP
    refine lv_aload_n hx hb dX9_keep_115 rfl (lv_at hl 0 rfl) ?_
    refine va_get (D := D) (ci := 8) (v := .ref (q 14)) (C := RX9) (T := TX9) (N := 31) hx hb hts (fun w h => sub_z _ (inX9 w h)) hown hK hP 0 rfl rfl 19 (by decide) (hts _ (sub_z _ k_755)) (fun _ h => h) rfl dX9_keep_116 ?_
    refine lv_aload_n hx hb dX9_keep_119 rfl (lv_at hl 0 rfl) ?_
    refine va_get (D := D) (ci := 8) (v := .int mh.2.2.2.2.2.2.2.2.2) (C := RX9) (T := TX9) (N := 31) hx hb hts (fun w h => sub_z _ (inX9 w h)) hown hK hP 0 rfl rfl 21 (by decide) (hts _ (sub_z _ k_757)) (fun _ h => h) rfl dX9_keep_120 ?_
    refine lv_aload_n hx hb dX9_keep_123 rfl (lv_at hl 0 rfl) ?_
    refine va_get (D := D) (ci := 8) (v := .int mh.2.2.2.2.1) (C := RX9) (T := TX9) (N := 31) hx hb hts (fun w h => sub_z _ (inX9 w h)) hown hK hP 0 rfl rfl 16 (by decide) (hts _ (sub_z _ k_752)) (fun _ h => h) rfl dX9_keep_124 ?_
    obtain ⟨k4, h⟩ := dg h
    refine va_iast (f := mh.2.2.2.2.2.2.2.1) hx hb hK hP (mD.w hD) hS 14 0 rfl rfl (inb_vp k4) dX9_keep_127 (fun H locs hP _ hS => ?_)
    have hP : va_P D vwCl (wM dT q mr mg mc mn (mh.1, mh.2.1, mh.2.2.1, mh.2.2.2.1, mh.2.2.2.2.1, (vp_updL mh.2.2.2.2.2.1 mh.2.2.2.2.2.2.2.2.2.toNatClampNeg mh.1), (upd mh.2.2.2.2.2.2.1 mh.2.2.2.2.2.2.2.2.2.toNatClampNeg mh.2.1), (upd mh.2.2.2.2.2.2.2.1 mh.2.2.2.2.2.2.2.2.2.toNatClampNeg mh.2.2.2.2.1), mh.2.2.2.2.2.2.2.2.1, mh.2.2.2.2.2.2.2.2.2) mf mp) H := hP
    refine lv_aload_n hx hb dX9_keep_128 rfl (lv_at hl 0 rfl) ?_
    refine va_get (D := D) (ci := 8) (v := .ref (q 15)) (C := RX9) (T := TX9) (N := 31) hx hb hts (fun w h => sub_z _ (inX9 w h)) hown hK hP 0 rfl rfl 20 (by decide) (hts _ (sub_z _ k_756)) (fun _ h => h) rfl dX9_keep_129 ?_
    refine lv_aload_n hx hb dX9_keep_132 rfl (lv_at hl 0 rfl) ?_
    refine va_get (D := D) (ci := 8) (v := .int mh.2.2.2.2.2.2.2.2.2) (C := RX9) (T := TX9) (N := 31) hx hb hts (fun w h => sub_z _ (inX9 w h)) hown hK hP 0 rfl rfl 21 (by decide) (hts _ (sub_z _ k_757)) (fun _ h => h) rfl dX9_keep_133 ?_
    refine lv_aload_n hx hb dX9_keep_136 rfl (lv_at hl 0 rfl) ?_
    refine va_get (D := D) (ci := 8) (v := .int mh.2.2.1) (C := RX9) (T := TX9) (N := 31) hx hb hts (fun w h => sub_z _ (inX9 w h)) hown hK hP 0 rfl rfl 14 (by decide) (hts _ (sub_z _ k_750)) (fun _ h => h) rfl dX9_keep_137 ?_
    obtain ⟨k5, h⟩ := dg h
    refine va_zast (f := mh.2.2.2.2.2.2.2.2.1) hx hb hK hP (mD.w hD) hS 15 3 rfl rfl (inb_vp k5) dX9_keep_140 (fun H locs hP _ hS => ?_)
    have hP : va_P D vwCl (wM dT q mr mg mc mn (mh.1, mh.2.1, mh.2.2.1, mh.2.2.2.1, mh.2.2.2.2.1, (vp_updL mh.2.2.2.2.2.1 mh.2.2.2.2.2.2.2.2.2.toNatClampNeg mh.1), (upd mh.2.2.2.2.2.2.1 mh.2.2.2.2.2.2.2.2.2.toNatClampNeg mh.2.1), (upd mh.2.2.2.2.2.2.2.1 mh.2.2.2.2.2.2.2.2.2.toNatClampNeg mh.2.2.2.2.1), (upd mh.2.2.2.2.2.2.2.2.1 mh.2.2.2.2.2.2.2.2.2.toNatClampNeg (vp_nar .boolean mh.2.2.1)), mh.2.2.2.2.2.2.2.2.2) mf mp) H := hP
    refine lv_aload_n hx hb dX9_keep_141 rfl (lv_at hl 0 rfl) ?_
    refine lv_dup hx hb dX9_keep_142 rfl ?_
    refine va_get (D := D) (ci := 8) (v := .int mh.2.2.2.2.2.2.2.2.2) (C := RX9) (T := TX9) (N := 31) hx hb hts (fun w h => sub_z _ (inX9 w h)) hown hK hP 0 rfl rfl 21 (by decide) (hts _ (sub_z _ k_757)) (fun _ h => h) rfl dX9_keep_143 ?_
    refine lv_iconst (v := 1) hx hb dX9_keep_146 (by decide) ?_
    refine lv_iadd hx hb dX9_keep_147 ?_
    refine va_put (D := D) (ci := 8) (v := .int (mh.2.2.2.2.2.2.2.2.2 + (1 : Int32))) (ty := .int) (C := RX9) (T := TX9) (N := 31) hx hb hts (fun w h => sub_z _ (inX9 w h)) tyX9 tyX9_ok nmX9 hown hK hP (mD.w hD) hS 0 rfl rfl 21 (by decide) (hts _ (sub_z _ k_757)) (fun _ h => h) rfl (by decide +kernel) rfl rfl (Nat.le_of_ble_eq_true rfl) dX9_keep_148 (fun H locs hP _ hS => ?_)
    have hP : va_P D vwCl (wM dT q mr mg mc mn (mh.1, mh.2.1, mh.2.2.1, mh.2.2.2.1, mh.2.2.2.2.1, (vp_updL mh.2.2.2.2.2.1 mh.2.2.2.2.2.2.2.2.2.toNatClampNeg mh.1), (upd mh.2.2.2.2.2.2.1 mh.2.2.2.2.2.2.2.2.2.toNatClampNeg mh.2.1), (upd mh.2.2.2.2.2.2.2.1 mh.2.2.2.2.2.2.2.2.2.toNatClampNeg mh.2.2.2.2.1), (upd mh.2.2.2.2.2.2.2.2.1 mh.2.2.2.2.2.2.2.2.2.toNatClampNeg (vp_nar .boolean mh.2.2.1)), (mh.2.2.2.2.2.2.2.2.2 + (1 : Int32))) mf mp) H := hP
    obtain rfl := Option.some.inj h
    exact rV hx hb hr hlk hK hP hS dX9_keep_151
  · rw [if_pos k1] at h
    refine lv_iconst (v := 1) hx hb dX9_keep_9 (by decide) ?_
    refine lv_istore_n (lv' := [(1, .int (1 : Int32)), (0, .ref (q 0))]) hx hb dX9_keep_10 rfl hl (by decide) rfl (fun ls hl => ?_)
    have hL11_15 : ∀ (n : Nat) (mh_11 : tMH) (x1_11 : Int32) (y : Int32 × tMH), f_X9_keep_11 n mh_11 x1_11 = some y → ∀ (ls : Array Slot) (H : Heap) (locs : List Loc), lv_has ls 2 [(0, .ref (q 0)), (1, .int x1_11)] → va_P D vwCl (wM dT q mr mg mc mn mh_11 mf mp) H → va_S (mA q) s.heap H locs → ∀ Q : State → Prop, (∀ (ls : Array Slot) (H : Heap) (locs : List Loc), lv_has ls 2 [(0, .ref (q 0)), (1, .int y.1)] → va_P D vwCl (wM dT q mr mg mc mn y.2 mf mp) H → va_S (mA q) s.heap H locs → W p l e (rmD 0) s m [.ref (q 0)].toArray below meth c H locs 0 0 Q (F0 m 79 ls [])) → W p l e (rmD 0) s m [.ref (q 0)].toArray below meth c H locs 0 0 Q (F0 m 11 ls []) := by
      intro n
      induction n with
      | zero => intro mh_11 x1_11 y h; exact absurd h (by simp [f_X9_keep_11])
      | succ n ih =>
        intro mh_11 x1_11 y h ls H locs hl hP hS Q kk
        rw [f_X9_keep_11] at h
        refine lv_iload_n hx hb dX9_keep_11 rfl (lv_at hl 1 rfl) ?_
        refine lv_bipush (v := 100) hx hb dX9_keep_12 (by decide) ?_
        refine lv_icmp_ge (tgt := 79) hx hb dX9_keep_14 (by decide) (fun k6 => ?_) (fun k6 => ?_)
        · rw [if_pos k6] at h
          obtain rfl := Option.some.inj h
          exact kk _ _ _ (lv_sub hl [0, 1] rfl) hP hS
        · rw [if_neg k6] at h
          refine lv_aload_n hx hb dX9_keep_17 rfl (lv_at hl 0 rfl) ?_
          refine va_get (D := D) (ci := 8) (v := .ref (q 12)) (C := RX9) (T := TX9) (N := 31) hx hb hts (fun w h => sub_z _ (inX9 w h)) hown hK hP 0 rfl rfl 17 (by decide) (hts _ (sub_z _ k_753)) (fun _ h => h) rfl dX9_keep_18 ?_
          refine lv_iload_n hx hb dX9_keep_21 rfl (lv_at hl 1 rfl) ?_
          refine lv_iconst (v := 1) hx hb dX9_keep_22 (by decide) ?_
          refine lv_isub hx hb dX9_keep_23 ?_
          refine lv_aload_n hx hb dX9_keep_24 rfl (lv_at hl 0 rfl) ?_
          refine va_get (D := D) (ci := 8) (v := .ref (q 12)) (C := RX9) (T := TX9) (N := 31) hx hb hts (fun w h => sub_z _ (inX9 w h)) hown hK hP 0 rfl rfl 17 (by decide) (hts _ (sub_z _ k_753)) (fun _ h => h) rfl dX9_keep_25 ?_
          refine lv_iload_n hx hb dX9_keep_28 rfl (lv_at hl 1 rfl) ?_
          obtain ⟨k7, h⟩ := dg h
          refine va_lald (f := mh_11.2.2.2.2.2.1) hx hb hK hP 12 1 rfl rfl (inb_vp k7) dX9_keep_29 ?_
          obtain ⟨k8, h⟩ := dg h
          refine va_last (f := mh_11.2.2.2.2.2.1) hx hb hK hP (mD.w hD) hS 12 1 rfl rfl (inb_vp k8) dX9_keep_30 (fun H locs hP _ hS => ?_)
          have hP : va_P D vwCl (wM dT q mr mg mc mn (mh_11.1, mh_11.2.1, mh_11.2.2.1, mh_11.2.2.2.1, mh_11.2.2.2.2.1, (vp_updL mh_11.2.2.2.2.2.1 (x1_11 - (1 : Int32)).toNatClampNeg (mh_11.2.2.2.2.2.1 x1_11.toNatClampNeg)), mh_11.2.2.2.2.2.2.1, mh_11.2.2.2.2.2.2.2.1, mh_11.2.2.2.2.2.2.2.2.1, mh_11.2.2.2.2.2.2.2.2.2) mf mp) H := hP
          refine lv_aload_n hx hb dX9_keep_31 rfl (lv_at hl 0 rfl) ?_
          refine va_get (D := D) (ci := 8) (v := .ref (q 13)) (C := RX9) (T := TX9) (N := 31) hx hb hts (fun w h => sub_z _ (inX9 w h)) hown hK hP 0 rfl rfl 18 (by decide) (hts _ (sub_z _ k_754)) (fun _ h => h) rfl dX9_keep_32 ?_
          refine lv_iload_n hx hb dX9_keep_35 rfl (lv_at hl 1 rfl) ?_
          refine lv_iconst (v := 1) hx hb dX9_keep_36 (by decide) ?_
          refine lv_isub hx hb dX9_keep_37 ?_
          refine lv_aload_n hx hb dX9_keep_38 rfl (lv_at hl 0 rfl) ?_
          refine va_get (D := D) (ci := 8) (v := .ref (q 13)) (C := RX9) (T := TX9) (N := 31) hx hb hts (fun w h => sub_z _ (inX9 w h)) hown hK hP 0 rfl rfl 18 (by decide) (hts _ (sub_z _ k_754)) (fun _ h => h) rfl dX9_keep_39 ?_
          refine lv_iload_n hx hb dX9_keep_42 rfl (lv_at hl 1 rfl) ?_
          obtain ⟨k9, h⟩ := dg h
          refine va_iald (f := mh_11.2.2.2.2.2.2.1) hx hb hK hP 13 0 rfl rfl (inb_vp k9) dX9_keep_43 ?_
          obtain ⟨k10, h⟩ := dg h
          refine va_iast (f := mh_11.2.2.2.2.2.2.1) hx hb hK hP (mD.w hD) hS 13 0 rfl rfl (inb_vp k10) dX9_keep_44 (fun H locs hP _ hS => ?_)
          have hP : va_P D vwCl (wM dT q mr mg mc mn (mh_11.1, mh_11.2.1, mh_11.2.2.1, mh_11.2.2.2.1, mh_11.2.2.2.2.1, (vp_updL mh_11.2.2.2.2.2.1 (x1_11 - (1 : Int32)).toNatClampNeg (mh_11.2.2.2.2.2.1 x1_11.toNatClampNeg)), (upd mh_11.2.2.2.2.2.2.1 (x1_11 - (1 : Int32)).toNatClampNeg (mh_11.2.2.2.2.2.2.1 x1_11.toNatClampNeg)), mh_11.2.2.2.2.2.2.2.1, mh_11.2.2.2.2.2.2.2.2.1, mh_11.2.2.2.2.2.2.2.2.2) mf mp) H := hP
          refine lv_aload_n hx hb dX9_keep_45 rfl (lv_at hl 0 rfl) ?_
          refine va_get (D := D) (ci := 8) (v := .ref (q 14)) (C := RX9) (T := TX9) (N := 31) hx hb hts (fun w h => sub_z _ (inX9 w h)) hown hK hP 0 rfl rfl 19 (by decide) (hts _ (sub_z _ k_755)) (fun _ h => h) rfl dX9_keep_46 ?_
          refine lv_iload_n hx hb dX9_keep_49 rfl (lv_at hl 1 rfl) ?_
          refine lv_iconst (v := 1) hx hb dX9_keep_50 (by decide) ?_
          refine lv_isub hx hb dX9_keep_51 ?_
          refine lv_aload_n hx hb dX9_keep_52 rfl (lv_at hl 0 rfl) ?_
          refine va_get (D := D) (ci := 8) (v := .ref (q 14)) (C := RX9) (T := TX9) (N := 31) hx hb hts (fun w h => sub_z _ (inX9 w h)) hown hK hP 0 rfl rfl 19 (by decide) (hts _ (sub_z _ k_755)) (fun _ h => h) rfl dX9_keep_53 ?_
          refine lv_iload_n hx hb dX9_keep_56 rfl (lv_at hl 1 rfl) ?_
          obtain ⟨k11, h⟩ := dg h
          refine va_iald (f := mh_11.2.2.2.2.2.2.2.1) hx hb hK hP 14 0 rfl rfl (inb_vp k11) dX9_keep_57 ?_
          obtain ⟨k12, h⟩ := dg h
          refine va_iast (f := mh_11.2.2.2.2.2.2.2.1) hx hb hK hP (mD.w hD) hS 14 0 rfl rfl (inb_vp k12) dX9_keep_58 (fun H locs hP _ hS => ?_)
          have hP : va_P D vwCl (wM dT q mr mg mc mn (mh_11.1, mh_11.2.1, mh_11.2.2.1, mh_11.2.2.2.1, mh_11.2.2.2.2.1, (vp_updL mh_11.2.2.2.2.2.1 (x1_11 - (1 : Int32)).toNatClampNeg (mh_11.2.2.2.2.2.1 x1_11.toNatClampNeg)), (upd mh_11.2.2.2.2.2.2.1 (x1_11 - (1 : Int32)).toNatClampNeg (mh_11.2.2.2.2.2.2.1 x1_11.toNatClampNeg)), (upd mh_11.2.2.2.2.2.2.2.1 (x1_11 - (1 : Int32)).toNatClampNeg (mh_11.2.2.2.2.2.2.2.1 x1_11.toNatClampNeg)), mh_11.2.2.2.2.2.2.2.2.1, mh_11.2.2.2.2.2.2.2.2.2) mf mp) H := hP
          refine lv_aload_n hx hb dX9_keep_59 rfl (lv_at hl 0 rfl) ?_
          refine va_get (D := D) (ci := 8) (v := .ref (q 15)) (C := RX9) (T := TX9) (N := 31) hx hb hts (fun w h => sub_z _ (inX9 w h)) hown hK hP 0 rfl rfl 20 (by decide) (hts _ (sub_z _ k_756)) (fun _ h => h) rfl dX9_keep_60 ?_
          refine lv_iload_n hx hb dX9_keep_63 rfl (lv_at hl 1 rfl) ?_
          refine lv_iconst (v := 1) hx hb dX9_keep_64 (by decide) ?_
          refine lv_isub hx hb dX9_keep_65 ?_
          refine lv_aload_n hx hb dX9_keep_66 rfl (lv_at hl 0 rfl) ?_
          refine va_get (D := D) (ci := 8) (v := .ref (q 15)) (C := RX9) (T := TX9) (N := 31) hx hb hts (fun w h => sub_z _ (inX9 w h)) hown hK hP 0 rfl rfl 20 (by decide) (hts _ (sub_z _ k_756)) (fun _ h => h) rfl dX9_keep_67 ?_
          refine lv_iload_n hx hb dX9_keep_70 rfl (lv_at hl 1 rfl) ?_
          obtain ⟨k13, h⟩ := dg h
          refine va_zald (f := mh_11.2.2.2.2.2.2.2.2.1) hx hb hK hP 15 3 rfl rfl (inb_vp k13) dX9_keep_71 ?_
          obtain ⟨k14, h⟩ := dg h
          refine va_zast (f := mh_11.2.2.2.2.2.2.2.2.1) hx hb hK hP (mD.w hD) hS 15 3 rfl rfl (inb_vp k14) dX9_keep_72 (fun H locs hP _ hS => ?_)
          have hP : va_P D vwCl (wM dT q mr mg mc mn (mh_11.1, mh_11.2.1, mh_11.2.2.1, mh_11.2.2.2.1, mh_11.2.2.2.2.1, (vp_updL mh_11.2.2.2.2.2.1 (x1_11 - (1 : Int32)).toNatClampNeg (mh_11.2.2.2.2.2.1 x1_11.toNatClampNeg)), (upd mh_11.2.2.2.2.2.2.1 (x1_11 - (1 : Int32)).toNatClampNeg (mh_11.2.2.2.2.2.2.1 x1_11.toNatClampNeg)), (upd mh_11.2.2.2.2.2.2.2.1 (x1_11 - (1 : Int32)).toNatClampNeg (mh_11.2.2.2.2.2.2.2.1 x1_11.toNatClampNeg)), (upd mh_11.2.2.2.2.2.2.2.2.1 (x1_11 - (1 : Int32)).toNatClampNeg (vp_nar .boolean (mh_11.2.2.2.2.2.2.2.2.1 x1_11.toNatClampNeg))), mh_11.2.2.2.2.2.2.2.2.2) mf mp) H := hP
          refine lv_iinc (v := (x1_11 + (1 : Int32))) (lv' := [(1, .int (x1_11 + (1 : Int32))), (0, .ref (q 0))]) hx hb dX9_keep_73 hl (k := 1) rfl rfl (by decide) rfl (fun ls hl => ?_)
          refine lv_goto (tgt := 11) hx hb dX9_keep_76 (by decide) ?_
          exact ih _ _ _ h _ _ _ (lv_sub hl [1, 0] rfl) hP hS _ kk
    obtain ⟨y16, hy16, h⟩ := dq h
    refine hL11_15 _ _ _ _ hy16 _ _ _ (lv_sub hl [1, 0] rfl) hP hS _ (fun ls H locs hl hP hS => ?_)
    refine lv_aload_n hx hb dX9_keep_79 rfl (lv_at hl 0 rfl) ?_
    refine lv_dup hx hb dX9_keep_80 rfl ?_
    refine va_get (D := D) (ci := 8) (v := .int y16.2.2.2.2.2.2.2.2.2.2) (C := RX9) (T := TX9) (N := 31) hx hb hts (fun w h => sub_z _ (inX9 w h)) hown hK hP 0 rfl rfl 21 (by decide) (hts _ (sub_z _ k_757)) (fun _ h => h) rfl dX9_keep_81 ?_
    refine lv_iconst (v := 1) hx hb dX9_keep_84 (by decide) ?_
    refine lv_isub hx hb dX9_keep_85 ?_
    refine va_put (D := D) (ci := 8) (v := .int (y16.2.2.2.2.2.2.2.2.2.2 - (1 : Int32))) (ty := .int) (C := RX9) (T := TX9) (N := 31) hx hb hts (fun w h => sub_z _ (inX9 w h)) tyX9 tyX9_ok nmX9 hown hK hP (mD.w hD) hS 0 rfl rfl 21 (by decide) (hts _ (sub_z _ k_757)) (fun _ h => h) rfl (by decide +kernel) rfl rfl (Nat.le_of_ble_eq_true rfl) dX9_keep_86 (fun H locs hP _ hS => ?_)
    have hP : va_P D vwCl (wM dT q mr mg mc mn (y16.2.1, y16.2.2.1, y16.2.2.2.1, y16.2.2.2.2.1, y16.2.2.2.2.2.1, y16.2.2.2.2.2.2.1, y16.2.2.2.2.2.2.2.1, y16.2.2.2.2.2.2.2.2.1, y16.2.2.2.2.2.2.2.2.2.1, (y16.2.2.2.2.2.2.2.2.2.2 - (1 : Int32))) mf mp) H := hP
    refine lv_aload_n hx hb dX9_keep_89 rfl (lv_at hl 0 rfl) ?_
    refine va_get (D := D) (ci := 8) (v := .ref (q 12)) (C := RX9) (T := TX9) (N := 31) hx hb hts (fun w h => sub_z _ (inX9 w h)) hown hK hP 0 rfl rfl 17 (by decide) (hts _ (sub_z _ k_753)) (fun _ h => h) rfl dX9_keep_90 ?_
    refine lv_aload_n hx hb dX9_keep_93 rfl (lv_at hl 0 rfl) ?_
    refine va_get (D := D) (ci := 8) (v := .int (y16.2.2.2.2.2.2.2.2.2.2 - (1 : Int32))) (C := RX9) (T := TX9) (N := 31) hx hb hts (fun w h => sub_z _ (inX9 w h)) hown hK hP 0 rfl rfl 21 (by decide) (hts _ (sub_z _ k_757)) (fun _ h => h) rfl dX9_keep_94 ?_
    refine lv_aload_n hx hb dX9_keep_97 rfl (lv_at hl 0 rfl) ?_
    refine va_get (D := D) (ci := 8) (v := .long y16.2.1) (C := RX9) (T := TX9) (N := 31) hx hb hts (fun w h => sub_z _ (inX9 w h)) hown hK hP 0 rfl rfl 12 (by decide) (hts _ (sub_z _ k_748)) (fun _ h => h) rfl dX9_keep_98 ?_
    obtain ⟨k17, h⟩ := dg h
    refine va_last (f := y16.2.2.2.2.2.2.1) hx hb hK hP (mD.w hD) hS 12 1 rfl rfl (inb_vp k17) dX9_keep_101 (fun H locs hP _ hS => ?_)
    have hP : va_P D vwCl (wM dT q mr mg mc mn (y16.2.1, y16.2.2.1, y16.2.2.2.1, y16.2.2.2.2.1, y16.2.2.2.2.2.1, (vp_updL y16.2.2.2.2.2.2.1 (y16.2.2.2.2.2.2.2.2.2.2 - (1 : Int32)).toNatClampNeg y16.2.1), y16.2.2.2.2.2.2.2.1, y16.2.2.2.2.2.2.2.2.1, y16.2.2.2.2.2.2.2.2.2.1, (y16.2.2.2.2.2.2.2.2.2.2 - (1 : Int32))) mf mp) H := hP
    refine lv_aload_n hx hb dX9_keep_102 rfl (lv_at hl 0 rfl) ?_
    refine va_get (D := D) (ci := 8) (v := .ref (q 13)) (C := RX9) (T := TX9) (N := 31) hx hb hts (fun w h => sub_z _ (inX9 w h)) hown hK hP 0 rfl rfl 18 (by decide) (hts _ (sub_z _ k_754)) (fun _ h => h) rfl dX9_keep_103 ?_
    refine lv_aload_n hx hb dX9_keep_106 rfl (lv_at hl 0 rfl) ?_
    refine va_get (D := D) (ci := 8) (v := .int (y16.2.2.2.2.2.2.2.2.2.2 - (1 : Int32))) (C := RX9) (T := TX9) (N := 31) hx hb hts (fun w h => sub_z _ (inX9 w h)) hown hK hP 0 rfl rfl 21 (by decide) (hts _ (sub_z _ k_757)) (fun _ h => h) rfl dX9_keep_107 ?_
    refine lv_aload_n hx hb dX9_keep_110 rfl (lv_at hl 0 rfl) ?_
    refine va_get (D := D) (ci := 8) (v := .int y16.2.2.1) (C := RX9) (T := TX9) (N := 31) hx hb hts (fun w h => sub_z _ (inX9 w h)) hown hK hP 0 rfl rfl 13 (by decide) (hts _ (sub_z _ k_749)) (fun _ h => h) rfl dX9_keep_111 ?_
    obtain ⟨k18, h⟩ := dg h
    refine va_iast (f := y16.2.2.2.2.2.2.2.1) hx hb hK hP (mD.w hD) hS 13 0 rfl rfl (inb_vp k18) dX9_keep_114 (fun H locs hP _ hS => ?_)
    have hP : va_P D vwCl (wM dT q mr mg mc mn (y16.2.1, y16.2.2.1, y16.2.2.2.1, y16.2.2.2.2.1, y16.2.2.2.2.2.1, (vp_updL y16.2.2.2.2.2.2.1 (y16.2.2.2.2.2.2.2.2.2.2 - (1 : Int32)).toNatClampNeg y16.2.1), (upd y16.2.2.2.2.2.2.2.1 (y16.2.2.2.2.2.2.2.2.2.2 - (1 : Int32)).toNatClampNeg y16.2.2.1), y16.2.2.2.2.2.2.2.2.1, y16.2.2.2.2.2.2.2.2.2.1, (y16.2.2.2.2.2.2.2.2.2.2 - (1 : Int32))) mf mp) H := hP
    refine lv_aload_n hx hb dX9_keep_115 rfl (lv_at hl 0 rfl) ?_
    refine va_get (D := D) (ci := 8) (v := .ref (q 14)) (C := RX9) (T := TX9) (N := 31) hx hb hts (fun w h => sub_z _ (inX9 w h)) hown hK hP 0 rfl rfl 19 (by decide) (hts _ (sub_z _ k_755)) (fun _ h => h) rfl dX9_keep_116 ?_
    refine lv_aload_n hx hb dX9_keep_119 rfl (lv_at hl 0 rfl) ?_
    refine va_get (D := D) (ci := 8) (v := .int (y16.2.2.2.2.2.2.2.2.2.2 - (1 : Int32))) (C := RX9) (T := TX9) (N := 31) hx hb hts (fun w h => sub_z _ (inX9 w h)) hown hK hP 0 rfl rfl 21 (by decide) (hts _ (sub_z _ k_757)) (fun _ h => h) rfl dX9_keep_120 ?_
    refine lv_aload_n hx hb dX9_keep_123 rfl (lv_at hl 0 rfl) ?_
    refine va_get (D := D) (ci := 8) (v := .int y16.2.2.2.2.2.1) (C := RX9) (T := TX9) (N := 31) hx hb hts (fun w h => sub_z _ (inX9 w h)) hown hK hP 0 rfl rfl 16 (by decide) (hts _ (sub_z _ k_752)) (fun _ h => h) rfl dX9_keep_124 ?_
    obtain ⟨k19, h⟩ := dg h
    refine va_iast (f := y16.2.2.2.2.2.2.2.2.1) hx hb hK hP (mD.w hD) hS 14 0 rfl rfl (inb_vp k19) dX9_keep_127 (fun H locs hP _ hS => ?_)
    have hP : va_P D vwCl (wM dT q mr mg mc mn (y16.2.1, y16.2.2.1, y16.2.2.2.1, y16.2.2.2.2.1, y16.2.2.2.2.2.1, (vp_updL y16.2.2.2.2.2.2.1 (y16.2.2.2.2.2.2.2.2.2.2 - (1 : Int32)).toNatClampNeg y16.2.1), (upd y16.2.2.2.2.2.2.2.1 (y16.2.2.2.2.2.2.2.2.2.2 - (1 : Int32)).toNatClampNeg y16.2.2.1), (upd y16.2.2.2.2.2.2.2.2.1 (y16.2.2.2.2.2.2.2.2.2.2 - (1 : Int32)).toNatClampNeg y16.2.2.2.2.2.1), y16.2.2.2.2.2.2.2.2.2.1, (y16.2.2.2.2.2.2.2.2.2.2 - (1 : Int32))) mf mp) H := hP
    refine lv_aload_n hx hb dX9_keep_128 rfl (lv_at hl 0 rfl) ?_
    refine va_get (D := D) (ci := 8) (v := .ref (q 15)) (C := RX9) (T := TX9) (N := 31) hx hb hts (fun w h => sub_z _ (inX9 w h)) hown hK hP 0 rfl rfl 20 (by decide) (hts _ (sub_z _ k_756)) (fun _ h => h) rfl dX9_keep_129 ?_
    refine lv_aload_n hx hb dX9_keep_132 rfl (lv_at hl 0 rfl) ?_
    refine va_get (D := D) (ci := 8) (v := .int (y16.2.2.2.2.2.2.2.2.2.2 - (1 : Int32))) (C := RX9) (T := TX9) (N := 31) hx hb hts (fun w h => sub_z _ (inX9 w h)) hown hK hP 0 rfl rfl 21 (by decide) (hts _ (sub_z _ k_757)) (fun _ h => h) rfl dX9_keep_133 ?_
    refine lv_aload_n hx hb dX9_keep_136 rfl (lv_at hl 0 rfl) ?_
    refine va_get (D := D) (ci := 8) (v := .int y16.2.2.2.1) (C := RX9) (T := TX9) (N := 31) hx hb hts (fun w h => sub_z _ (inX9 w h)) hown hK hP 0 rfl rfl 14 (by decide) (hts _ (sub_z _ k_750)) (fun _ h => h) rfl dX9_keep_137 ?_
    obtain ⟨k20, h⟩ := dg h
    refine va_zast (f := y16.2.2.2.2.2.2.2.2.2.1) hx hb hK hP (mD.w hD) hS 15 3 rfl rfl (inb_vp k20) dX9_keep_140 (fun H locs hP _ hS => ?_)
    have hP : va_P D vwCl (wM dT q mr mg mc mn (y16.2.1, y16.2.2.1, y16.2.2.2.1, y16.2.2.2.2.1, y16.2.2.2.2.2.1, (vp_updL y16.2.2.2.2.2.2.1 (y16.2.2.2.2.2.2.2.2.2.2 - (1 : Int32)).toNatClampNeg y16.2.1), (upd y16.2.2.2.2.2.2.2.1 (y16.2.2.2.2.2.2.2.2.2.2 - (1 : Int32)).toNatClampNeg y16.2.2.1), (upd y16.2.2.2.2.2.2.2.2.1 (y16.2.2.2.2.2.2.2.2.2.2 - (1 : Int32)).toNatClampNeg y16.2.2.2.2.2.1), (upd y16.2.2.2.2.2.2.2.2.2.1 (y16.2.2.2.2.2.2.2.2.2.2 - (1 : Int32)).toNatClampNeg (vp_nar .boolean y16.2.2.2.1)), (y16.2.2.2.2.2.2.2.2.2.2 - (1 : Int32))) mf mp) H := hP
    refine lv_aload_n hx hb dX9_keep_141 rfl (lv_at hl 0 rfl) ?_
    refine lv_dup hx hb dX9_keep_142 rfl ?_
    refine va_get (D := D) (ci := 8) (v := .int (y16.2.2.2.2.2.2.2.2.2.2 - (1 : Int32))) (C := RX9) (T := TX9) (N := 31) hx hb hts (fun w h => sub_z _ (inX9 w h)) hown hK hP 0 rfl rfl 21 (by decide) (hts _ (sub_z _ k_757)) (fun _ h => h) rfl dX9_keep_143 ?_
    refine lv_iconst (v := 1) hx hb dX9_keep_146 (by decide) ?_
    refine lv_iadd hx hb dX9_keep_147 ?_
    refine va_put (D := D) (ci := 8) (v := .int ((y16.2.2.2.2.2.2.2.2.2.2 - (1 : Int32)) + (1 : Int32))) (ty := .int) (C := RX9) (T := TX9) (N := 31) hx hb hts (fun w h => sub_z _ (inX9 w h)) tyX9 tyX9_ok nmX9 hown hK hP (mD.w hD) hS 0 rfl rfl 21 (by decide) (hts _ (sub_z _ k_757)) (fun _ h => h) rfl (by decide +kernel) rfl rfl (Nat.le_of_ble_eq_true rfl) dX9_keep_148 (fun H locs hP _ hS => ?_)
    have hP : va_P D vwCl (wM dT q mr mg mc mn (y16.2.1, y16.2.2.1, y16.2.2.2.1, y16.2.2.2.2.1, y16.2.2.2.2.2.1, (vp_updL y16.2.2.2.2.2.2.1 (y16.2.2.2.2.2.2.2.2.2.2 - (1 : Int32)).toNatClampNeg y16.2.1), (upd y16.2.2.2.2.2.2.2.1 (y16.2.2.2.2.2.2.2.2.2.2 - (1 : Int32)).toNatClampNeg y16.2.2.1), (upd y16.2.2.2.2.2.2.2.2.1 (y16.2.2.2.2.2.2.2.2.2.2 - (1 : Int32)).toNatClampNeg y16.2.2.2.2.2.1), (upd y16.2.2.2.2.2.2.2.2.2.1 (y16.2.2.2.2.2.2.2.2.2.2 - (1 : Int32)).toNatClampNeg (vp_nar .boolean y16.2.2.2.1)), ((y16.2.2.2.2.2.2.2.2.2.2 - (1 : Int32)) + (1 : Int32))) mf mp) H := hP
    obtain rfl := Option.some.inj h
    exact rV hx hb hr hlk hK hP hS dX9_keep_151

set_option maxRecDepth 100000 in
set_option maxHeartbeats 4000000 in
theorem c_X9_can {l : Launch} {D : va_G} {dT : Nat → ClassId} {q : Nat → Nat} (hD : mD q) {mr : tMR} {mg : tMG} {mc : tMC} {mn : tMN} {mh : tMH} {mf : tMF} {mp : tMP} {a1 : Int32} {v : Int32 × tMN} (h : f_X9_can mg mn mh a1 = some v) : MG l yX9_can cX9_can 2 (some .int) 4 [.ref (q 0), .int a1] D (tyL dT) (wM dT q mr mg mc mn mh mf mp) (QI D (tyL dT) (mA q) (wM dT q mr mg mc v.2 mh mf mp) v.1) (mA q) := by
  refine MG.mk (by decide +kernel) (Nat.le_of_ble_eq_true rfl) ?_
  intro p e s m below meth c hx hb hr hml hown hts hlk hK hP ls hl
  have hown : s.vm.findClass RX9 = some m.cls := hown
  have hS : va_S (mA q) s.heap s.heap [] := va_S.rf
  have hl : lv_has ls 2 [(0, .ref (q 0)), (1, .int a1)] := hl
  rw [f_X9_can] at h
  refine lv_iload_n hx hb dX9_can_0 rfl (lv_at hl 1 rfl) ?_
  refine lv_iconst (v := 0) hx hb dX9_can_1 (by decide) ?_
  refine lv_sipush (v := 255) hx hb dX9_can_2 (by decide) ?_
  obtain ⟨v1, hv1, h⟩ := dq h
  refine cSi (As := [.int a1, .int (0 : Int32), .int (255 : Int32)]) (rest := []) ⟨hx, hb, hml, hown, hts⟩ (c_X9_in (dT := dT) (mr := mr) (mg := mg) (mc := mc) (mn := mn) (mh := mh) (mf := mf) (mp := mp) hD hv1) (va_cwS 3 hts (good_S sub_z k_837 k_838 k_9 k_839) rfl rfl rfl (by decide +kernel) (by decide)) hK hP hS rfl hl.1 rfl (Nat.le_of_ble_eq_true rfl) dX9_can_5 (by decide) (fun H locs hP hS => ?_)
  refine lv_if_ne (tgt := 13) hx hb dX9_can_8 (by decide) (fun k2 => ?_) (fun k2 => ?_)
  · rw [if_neg k2] at h
    refine lv_aload_n hx hb dX9_can_13 rfl (lv_at hl 0 rfl) ?_
    refine lv_aload_n hx hb dX9_can_14 rfl (lv_at hl 0 rfl) ?_
    refine va_get (D := D) (ci := 8) (v := .long mh.1) (C := RX9) (T := TX9) (N := 31) hx hb hts (fun w h => sub_z _ (inX9 w h)) hown hK hP 0 rfl rfl 12 (by decide) (hts _ (sub_z _ k_748)) (fun _ h => h) rfl dX9_can_15 ?_
    obtain ⟨v3, hv3, h⟩ := dq h
    refine cVv (As := [.long mh.1]) (rest := []) ⟨hx, hb, hml, hown, hts⟩ (c_X9_open (dT := dT) (mr := mr) (mg := mg) (mc := mc) (mn := mn) (mh := mh) (mf := mf) (mp := mp) hD hv3) (cwV 1 hts (good_V sub_z k_901 k_903 ks_22 k_9 k_904) rfl rfl rfl (by decide +kernel) (by decide)) (va_recv hK hP (ci := 8) (q0 := 0) rfl rfl) hK hP hS rfl hl.1 rfl (Nat.le_of_ble_eq_true rfl) dX9_can_18 (by decide) (fun H locs hP hS => ?_)
    refine lv_aload_n hx hb dX9_can_21 rfl (lv_at hl 0 rfl) ?_
    refine lv_iload_n hx hb dX9_can_22 rfl (lv_at hl 1 rfl) ?_
    obtain ⟨v4, hv4, h⟩ := dq h
    refine cVi (As := [.int a1]) (rest := []) ⟨hx, hb, hml, hown, hts⟩ (c_X9_isAllowed (dT := dT) (mr := mr) (mg := mg) (mc := mc) (mn := v3) (mh := mh) (mf := mf) (mp := mp) hD hv4) (cwV 1 hts (good_V sub_z k_905 k_907 ks_23 k_9 k_908) rfl rfl rfl (by decide +kernel) (by decide)) (va_recv hK hP (ci := 8) (q0 := 0) rfl rfl) hK hP hS rfl hl.1 rfl (Nat.le_of_ble_eq_true rfl) dX9_can_23 (by decide) (fun H locs hP hS => ?_)
    refine lv_if_eq (tgt := 33) hx hb dX9_can_26 (by decide) (fun k5 => ?_) (fun k5 => ?_)
    · rw [if_pos k5] at h
      refine lv_iconst (v := 0) hx hb dX9_can_33 (by decide) ?_
      obtain rfl := Option.some.inj h
      exact rI hx hb hr hlk hK hP hS dX9_can_34
    · rw [if_neg k5] at h
      refine lv_iconst (v := 1) hx hb dX9_can_29 (by decide) ?_
      refine lv_goto (tgt := 34) hx hb dX9_can_30 (by decide) ?_
      obtain rfl := Option.some.inj h
      exact rI hx hb hr hlk hK hP hS dX9_can_34
  · rw [if_pos k2] at h
    refine lv_iconst (v := -1) hx hb dX9_can_11 (by decide) ?_
    obtain rfl := Option.some.inj h
    exact rI hx hb hr hlk hK hP hS dX9_can_12

set_option maxRecDepth 100000 in
set_option maxHeartbeats 4000000 in
theorem c_X9_hand {l : Launch} {D : va_G} {dT : Nat → ClassId} {q : Nat → Nat} (hD : mD q) {mr : tMR} {mg : tMG} {mc : tMC} {mn : tMN} {mh : tMH} {mf : tMF} {mp : tMP} {a1 : Int32} {v : Int32 × tMN × tMH} (h : f_X9_hand mg mn mh a1 = some v) : MG l yX9_hand cX9_hand 2 (some .int) 4 [.ref (q 0), .int a1] D (tyL dT) (wM dT q mr mg mc mn mh mf mp) (QI D (tyL dT) (mA q) (wM dT q mr mg mc v.2.1 v.2.2 mf mp) v.1) (mA q) := by
  refine MG.mk (by decide +kernel) (Nat.le_of_ble_eq_true rfl) ?_
  intro p e s m below meth c hx hb hr hml hown hts hlk hK hP ls hl
  have hown : s.vm.findClass RX9 = some m.cls := hown
  have hS : va_S (mA q) s.heap s.heap [] := va_S.rf
  have hl : lv_has ls 2 [(0, .ref (q 0)), (1, .int a1)] := hl
  rw [f_X9_hand] at h
  refine lv_iload_n hx hb dX9_hand_0 rfl (lv_at hl 1 rfl) ?_
  refine lv_iconst (v := 0) hx hb dX9_hand_1 (by decide) ?_
  refine lv_sipush (v := 255) hx hb dX9_hand_2 (by decide) ?_
  obtain ⟨v1, hv1, h⟩ := dq h
  refine cSi (As := [.int a1, .int (0 : Int32), .int (255 : Int32)]) (rest := []) ⟨hx, hb, hml, hown, hts⟩ (c_X9_in (dT := dT) (mr := mr) (mg := mg) (mc := mc) (mn := mn) (mh := mh) (mf := mf) (mp := mp) hD hv1) (va_cwS 3 hts (good_S sub_z k_837 k_838 k_9 k_839) rfl rfl rfl (by decide +kernel) (by decide)) hK hP hS rfl hl.1 rfl (Nat.le_of_ble_eq_true rfl) dX9_hand_5 (by decide) (fun H locs hP hS => ?_)
  refine lv_if_ne (tgt := 13) hx hb dX9_hand_8 (by decide) (fun k2 => ?_) (fun k2 => ?_)
  · rw [if_neg k2] at h
    refine lv_aload_n hx hb dX9_hand_13 rfl (lv_at hl 0 rfl) ?_
    refine va_get (D := D) (ci := 8) (v := .int mh.2.2.1) (C := RX9) (T := TX9) (N := 31) hx hb hts (fun w h => sub_z _ (inX9 w h)) hown hK hP 0 rfl rfl 14 (by decide) (hts _ (sub_z _ k_750)) (fun _ h => h) rfl dX9_hand_14 ?_
    refine lv_if_eq (tgt := 23) hx hb dX9_hand_17 (by decide) (fun k3 => ?_) (fun k3 => ?_)
    · rw [if_pos k3] at h
      refine lv_aload_n hx hb dX9_hand_23 rfl (lv_at hl 0 rfl) ?_
      refine lv_aload_n hx hb dX9_hand_24 rfl (lv_at hl 0 rfl) ?_
      refine va_get (D := D) (ci := 8) (v := .long mh.1) (C := RX9) (T := TX9) (N := 31) hx hb hts (fun w h => sub_z _ (inX9 w h)) hown hK hP 0 rfl rfl 12 (by decide) (hts _ (sub_z _ k_748)) (fun _ h => h) rfl dX9_hand_25 ?_
      obtain ⟨v4, hv4, h⟩ := dq h
      refine cVv (As := [.long mh.1]) (rest := []) ⟨hx, hb, hml, hown, hts⟩ (c_X9_open (dT := dT) (mr := mr) (mg := mg) (mc := mc) (mn := mn) (mh := mh) (mf := mf) (mp := mp) hD hv4) (cwV 1 hts (good_V sub_z k_901 k_903 ks_22 k_9 k_904) rfl rfl rfl (by decide +kernel) (by decide)) (va_recv hK hP (ci := 8) (q0 := 0) rfl rfl) hK hP hS rfl hl.1 rfl (Nat.le_of_ble_eq_true rfl) dX9_hand_28 (by decide) (fun H locs hP hS => ?_)
      refine lv_aload_n hx hb dX9_hand_31 rfl (lv_at hl 0 rfl) ?_
      refine lv_iload_n hx hb dX9_hand_32 rfl (lv_at hl 1 rfl) ?_
      obtain ⟨v5, hv5, h⟩ := dq h
      refine cVi (As := [.int a1]) (rest := []) ⟨hx, hb, hml, hown, hts⟩ (c_X9_isAllowed (dT := dT) (mr := mr) (mg := mg) (mc := mc) (mn := v4) (mh := mh) (mf := mf) (mp := mp) hD hv5) (cwV 1 hts (good_V sub_z k_905 k_907 ks_23 k_9 k_908) rfl rfl rfl (by decide +kernel) (by decide)) (va_recv hK hP (ci := 8) (q0 := 0) rfl rfl) hK hP hS rfl hl.1 rfl (Nat.le_of_ble_eq_true rfl) dX9_hand_33 (by decide) (fun H locs hP hS => ?_)
      refine lv_if_ne (tgt := 42) hx hb dX9_hand_36 (by decide) (fun k6 => ?_) (fun k6 => ?_)
      · rw [if_neg k6] at h
        refine lv_aload_n hx hb dX9_hand_42 rfl (lv_at hl 0 rfl) ?_
        obtain ⟨v7, hv7, h⟩ := dq h
        refine cVv (As := []) (rest := []) ⟨hx, hb, hml, hown, hts⟩ (c_X9_keep (dT := dT) (mr := mr) (mg := mg) (mc := mc) (mn := v4) (mh := mh) (mf := mf) (mp := mp) hD hv7) (cwV 0 hts (good_V sub_z k_924 k_926 ks_26 k_9 k_927) rfl rfl rfl (by decide +kernel) (by decide)) (va_recv hK hP (ci := 8) (q0 := 0) rfl rfl) hK hP hS rfl hl.1 rfl (Nat.le_of_ble_eq_true rfl) dX9_hand_43 (by decide) (fun H locs hP hS => ?_)
        refine lv_aload_n hx hb dX9_hand_46 rfl (lv_at hl 0 rfl) ?_
        refine lv_iload_n hx hb dX9_hand_47 rfl (lv_at hl 1 rfl) ?_
        obtain ⟨v8, hv8, h⟩ := dq h
        refine cVv (As := [.int a1]) (rest := []) ⟨hx, hb, hml, hown, hts⟩ (c_X9_handle (dT := dT) (mr := mr) (mg := mg) (mc := mc) (mn := v4) (mh := v7) (mf := mf) (mp := mp) hD hv8) (cwV 1 hts (good_V sub_z k_928 k_930 ks_27 k_9 k_931) rfl rfl rfl (by decide +kernel) (by decide)) (va_recv hK hP (ci := 8) (q0 := 0) rfl rfl) hK hP hS rfl hl.1 rfl (Nat.le_of_ble_eq_true rfl) dX9_hand_48 (by decide) (fun H locs hP hS => ?_)
        refine lv_aload_n hx hb dX9_hand_51 rfl (lv_at hl 0 rfl) ?_
        refine lv_aload_n hx hb dX9_hand_52 rfl (lv_at hl 0 rfl) ?_
        obtain ⟨v9, hv9, h⟩ := dq h
        refine cVl (As := []) (rest := [.ref (q 0)]) ⟨hx, hb, hml, hown, hts⟩ (c_X9_close (dT := dT) (mr := mr) (mg := mg) (mc := mc) (mn := v8) (mh := v7) (mf := mf) (mp := mp) hD hv9) (cwV 0 hts (good_V sub_z k_932 k_934 ks_28 k_9 k_935) rfl rfl rfl (by decide +kernel) (by decide)) (va_recv hK hP (ci := 8) (q0 := 0) rfl rfl) hK hP hS rfl hl.1 rfl (Nat.le_of_ble_eq_true rfl) dX9_hand_53 (by decide) (fun H locs hP hS => ?_)
        refine va_put (D := D) (ci := 8) (v := .long v9) (ty := .long) (C := RX9) (T := TX9) (N := 31) hx hb hts (fun w h => sub_z _ (inX9 w h)) tyX9 tyX9_ok nmX9 hown hK hP (mD.w hD) hS 0 rfl rfl 12 (by decide) (hts _ (sub_z _ k_748)) (fun _ h => h) rfl (by decide +kernel) rfl rfl (Nat.le_of_ble_eq_true rfl) dX9_hand_56 (fun H locs hP _ hS => ?_)
        have hP : va_P D vwCl (wM dT q mr mg mc v8 (v9, v7.2.1, v7.2.2.1, v7.2.2.2.1, v7.2.2.2.2.1, v7.2.2.2.2.2.1, v7.2.2.2.2.2.2.1, v7.2.2.2.2.2.2.2.1, v7.2.2.2.2.2.2.2.2.1, v7.2.2.2.2.2.2.2.2.2) mf mp) H := hP
        refine lv_aload_n hx hb dX9_hand_59 rfl (lv_at hl 0 rfl) ?_
        refine lv_iconst (v := 1) hx hb dX9_hand_60 (by decide) ?_
        refine va_put (D := D) (ci := 8) (v := .int (1 : Int32)) (ty := .boolean) (C := RX9) (T := TX9) (N := 31) hx hb hts (fun w h => sub_z _ (inX9 w h)) tyX9 tyX9_ok nmX9 hown hK hP (mD.w hD) hS 0 rfl rfl 14 (by decide) (hts _ (sub_z _ k_750)) (fun _ h => h) rfl (by decide +kernel) rfl rfl (Nat.le_of_ble_eq_true rfl) dX9_hand_61 (fun H locs hP _ hS => ?_)
        have hP : va_P D vwCl (wM dT q mr mg mc v8 (v9, v7.2.1, (1 : Int32), v7.2.2.2.1, v7.2.2.2.2.1, v7.2.2.2.2.2.1, v7.2.2.2.2.2.2.1, v7.2.2.2.2.2.2.2.1, v7.2.2.2.2.2.2.2.2.1, v7.2.2.2.2.2.2.2.2.2) mf mp) H := hP
        refine lv_iload_n hx hb dX9_hand_64 rfl (lv_at hl 1 rfl) ?_
        obtain ⟨v10, hv10, h⟩ := dq h
        refine cSi (As := [.int a1]) (rest := []) ⟨hx, hb, hml, hown, hts⟩ (c_X9_countOf (dT := dT) (mr := mr) (mg := mg) (mc := mc) (mn := v8) (mh := (v9, v7.2.1, (1 : Int32), v7.2.2.2.1, v7.2.2.2.2.1, v7.2.2.2.2.2.1, v7.2.2.2.2.2.2.1, v7.2.2.2.2.2.2.2.1, v7.2.2.2.2.2.2.2.2.1, v7.2.2.2.2.2.2.2.2.2)) (mf := mf) (mp := mp) hD hv10) (va_cwS 1 hts (good_S sub_z k_936 k_937 k_9 k_938) rfl rfl rfl (by decide +kernel) (by decide)) hK hP hS rfl hl.1 rfl (Nat.le_of_ble_eq_true rfl) dX9_hand_65 (by decide) (fun H locs hP hS => ?_)
        obtain rfl := Option.some.inj h
        exact rI hx hb hr hlk hK hP hS dX9_hand_68
      · rw [if_pos k6] at h
        refine lv_bipush (v := -6) hx hb dX9_hand_39 (by decide) ?_
        obtain rfl := Option.some.inj h
        exact rI hx hb hr hlk hK hP hS dX9_hand_41
    · rw [if_neg k3] at h
      refine lv_bipush (v := -5) hx hb dX9_hand_20 (by decide) ?_
      obtain rfl := Option.some.inj h
      exact rI hx hb hr hlk hK hP hS dX9_hand_22
  · rw [if_pos k2] at h
    refine lv_iconst (v := -1) hx hb dX9_hand_11 (by decide) ?_
    obtain rfl := Option.some.inj h
    exact rI hx hb hr hlk hK hP hS dX9_hand_12

set_option maxRecDepth 100000 in
set_option maxHeartbeats 4000000 in
theorem c_X9_next {l : Launch} {D : va_G} {dT : Nat → ClassId} {q : Nat → Nat} (hD : mD q) {mr : tMR} {mg : tMG} {mc : tMC} {mn : tMN} {mh : tMH} {mf : tMF} {mp : tMP}  {v : Int32 × tMN × tMH} (h : f_X9_next mg mn mh = some v) : MG l yX9_next cX9_next 2 (some .int) 4 [.ref (q 0)] D (tyL dT) (wM dT q mr mg mc mn mh mf mp) (QI D (tyL dT) (mA q) (wM dT q mr mg mc v.2.1 v.2.2 mf mp) v.1) (mA q) := by
  refine MG.mk (by decide +kernel) (Nat.le_of_ble_eq_true rfl) ?_
  intro p e s m below meth c hx hb hr hml hown hts hlk hK hP ls hl
  have hown : s.vm.findClass RX9 = some m.cls := hown
  have hS : va_S (mA q) s.heap s.heap [] := va_S.rf
  have hl : lv_has ls 2 [(0, .ref (q 0))] := hl
  rw [f_X9_next] at h
  refine lv_aload_n hx hb dX9_next_0 rfl (lv_at hl 0 rfl) ?_
  refine va_get (D := D) (ci := 8) (v := .int mh.2.2.2.2.1) (C := RX9) (T := TX9) (N := 31) hx hb hts (fun w h => sub_z _ (inX9 w h)) hown hK hP 0 rfl rfl 16 (by decide) (hts _ (sub_z _ k_752)) (fun _ h => h) rfl dX9_next_1 ?_
  refine lv_sipush (v := 200) hx hb dX9_next_4 (by decide) ?_
  refine lv_icmp_ne (tgt := 13) hx hb dX9_next_7 (by decide) (fun k1 => ?_) (fun k1 => ?_)
  · rw [if_neg k1] at h
    refine lv_aload_n hx hb dX9_next_13 rfl (lv_at hl 0 rfl) ?_
    refine lv_aload_n hx hb dX9_next_14 rfl (lv_at hl 0 rfl) ?_
    refine va_get (D := D) (ci := 8) (v := .long mh.1) (C := RX9) (T := TX9) (N := 31) hx hb hts (fun w h => sub_z _ (inX9 w h)) hown hK hP 0 rfl rfl 12 (by decide) (hts _ (sub_z _ k_748)) (fun _ h => h) rfl dX9_next_15 ?_
    obtain ⟨v2, hv2, h⟩ := dq h
    refine cVv (As := [.long mh.1]) (rest := []) ⟨hx, hb, hml, hown, hts⟩ (c_X9_open (dT := dT) (mr := mr) (mg := mg) (mc := mc) (mn := mn) (mh := mh) (mf := mf) (mp := mp) hD hv2) (cwV 1 hts (good_V sub_z k_901 k_903 ks_22 k_9 k_904) rfl rfl rfl (by decide +kernel) (by decide)) (va_recv hK hP (ci := 8) (q0 := 0) rfl rfl) hK hP hS rfl hl.1 rfl (Nat.le_of_ble_eq_true rfl) dX9_next_18 (by decide) (fun H locs hP hS => ?_)
    refine lv_aload_n hx hb dX9_next_21 rfl (lv_at hl 0 rfl) ?_
    obtain ⟨v3, hv3, h⟩ := dq h
    refine cVi (As := []) (rest := []) ⟨hx, hb, hml, hown, hts⟩ (c_X9_goOn (dT := dT) (mr := mr) (mg := mg) (mc := mc) (mn := v2) (mh := mh) (mf := mf) (mp := mp) hD hv3) (cwV 0 hts (good_V sub_z k_943 k_945 ks_29 k_9 k_946) rfl rfl rfl (by decide +kernel) (by decide)) (va_recv hK hP (ci := 8) (q0 := 0) rfl rfl) hK hP hS rfl hl.1 rfl (Nat.le_of_ble_eq_true rfl) dX9_next_22 (by decide) (fun H locs hP hS => ?_)
    refine lv_istore_n (lv' := [(1, .int v3.1), (0, .ref (q 0))]) hx hb dX9_next_25 rfl hl (by decide) rfl (fun ls hl => ?_)
    refine lv_iload_n hx hb dX9_next_26 rfl (lv_at hl 0 rfl) ?_
    refine lv_if_ne (tgt := 33) hx hb dX9_next_27 (by decide) (fun k4 => ?_) (fun k4 => ?_)
    · rw [if_neg k4] at h
      refine lv_aload_n hx hb dX9_next_33 rfl (lv_at hl 1 rfl) ?_
      obtain ⟨v5, hv5, h⟩ := dq h
      refine cVv (As := []) (rest := []) ⟨hx, hb, hml, hown, hts⟩ (c_X9_keep (dT := dT) (mr := mr) (mg := mg) (mc := mc) (mn := v3.2) (mh := mh) (mf := mf) (mp := mp) hD hv5) (cwV 0 hts (good_V sub_z k_924 k_926 ks_26 k_9 k_927) rfl rfl rfl (by decide +kernel) (by decide)) (va_recv hK hP (ci := 8) (q0 := 0) rfl rfl) hK hP hS rfl hl.1 rfl (Nat.le_of_ble_eq_true rfl) dX9_next_34 (by decide) (fun H locs hP hS => ?_)
      refine lv_aload_n hx hb dX9_next_37 rfl (lv_at hl 1 rfl) ?_
      refine lv_aload_n hx hb dX9_next_38 rfl (lv_at hl 1 rfl) ?_
      obtain ⟨v6, hv6, h⟩ := dq h
      refine cVl (As := []) (rest := [.ref (q 0)]) ⟨hx, hb, hml, hown, hts⟩ (c_X9_close (dT := dT) (mr := mr) (mg := mg) (mc := mc) (mn := v3.2) (mh := v5) (mf := mf) (mp := mp) hD hv6) (cwV 0 hts (good_V sub_z k_932 k_934 ks_28 k_9 k_935) rfl rfl rfl (by decide +kernel) (by decide)) (va_recv hK hP (ci := 8) (q0 := 0) rfl rfl) hK hP hS rfl hl.1 rfl (Nat.le_of_ble_eq_true rfl) dX9_next_39 (by decide) (fun H locs hP hS => ?_)
      refine va_put (D := D) (ci := 8) (v := .long v6) (ty := .long) (C := RX9) (T := TX9) (N := 31) hx hb hts (fun w h => sub_z _ (inX9 w h)) tyX9 tyX9_ok nmX9 hown hK hP (mD.w hD) hS 0 rfl rfl 12 (by decide) (hts _ (sub_z _ k_748)) (fun _ h => h) rfl (by decide +kernel) rfl rfl (Nat.le_of_ble_eq_true rfl) dX9_next_42 (fun H locs hP _ hS => ?_)
      have hP : va_P D vwCl (wM dT q mr mg mc v3.2 (v6, v5.2.1, v5.2.2.1, v5.2.2.2.1, v5.2.2.2.2.1, v5.2.2.2.2.2.1, v5.2.2.2.2.2.2.1, v5.2.2.2.2.2.2.2.1, v5.2.2.2.2.2.2.2.2.1, v5.2.2.2.2.2.2.2.2.2) mf mp) H := hP
      refine lv_aload_n hx hb dX9_next_45 rfl (lv_at hl 1 rfl) ?_
      refine lv_dup hx hb dX9_next_46 rfl ?_
      refine va_get (D := D) (ci := 8) (v := .int v5.2.1) (C := RX9) (T := TX9) (N := 31) hx hb hts (fun w h => sub_z _ (inX9 w h)) hown hK hP 0 rfl rfl 13 (by decide) (hts _ (sub_z _ k_749)) (fun _ h => h) rfl dX9_next_47 ?_
      refine lv_iload_n hx hb dX9_next_50 rfl (lv_at hl 0 rfl) ?_
      refine lv_iadd hx hb dX9_next_51 ?_
      refine va_put (D := D) (ci := 8) (v := .int (v5.2.1 + v3.1)) (ty := .int) (C := RX9) (T := TX9) (N := 31) hx hb hts (fun w h => sub_z _ (inX9 w h)) tyX9 tyX9_ok nmX9 hown hK hP (mD.w hD) hS 0 rfl rfl 13 (by decide) (hts _ (sub_z _ k_749)) (fun _ h => h) rfl (by decide +kernel) rfl rfl (Nat.le_of_ble_eq_true rfl) dX9_next_52 (fun H locs hP _ hS => ?_)
      have hP : va_P D vwCl (wM dT q mr mg mc v3.2 (v6, (v5.2.1 + v3.1), v5.2.2.1, v5.2.2.2.1, v5.2.2.2.2.1, v5.2.2.2.2.2.1, v5.2.2.2.2.2.2.1, v5.2.2.2.2.2.2.2.1, v5.2.2.2.2.2.2.2.2.1, v5.2.2.2.2.2.2.2.2.2) mf mp) H := hP
      refine lv_aload_n hx hb dX9_next_55 rfl (lv_at hl 1 rfl) ?_
      refine lv_iconst (v := 0) hx hb dX9_next_56 (by decide) ?_
      refine va_put (D := D) (ci := 8) (v := .int (0 : Int32)) (ty := .boolean) (C := RX9) (T := TX9) (N := 31) hx hb hts (fun w h => sub_z _ (inX9 w h)) tyX9 tyX9_ok nmX9 hown hK hP (mD.w hD) hS 0 rfl rfl 14 (by decide) (hts _ (sub_z _ k_750)) (fun _ h => h) rfl (by decide +kernel) rfl rfl (Nat.le_of_ble_eq_true rfl) dX9_next_57 (fun H locs hP _ hS => ?_)
      have hP : va_P D vwCl (wM dT q mr mg mc v3.2 (v6, (v5.2.1 + v3.1), (0 : Int32), v5.2.2.2.1, v5.2.2.2.2.1, v5.2.2.2.2.2.1, v5.2.2.2.2.2.2.1, v5.2.2.2.2.2.2.2.1, v5.2.2.2.2.2.2.2.2.1, v5.2.2.2.2.2.2.2.2.2) mf mp) H := hP
      refine lv_aload_n hx hb dX9_next_60 rfl (lv_at hl 1 rfl) ?_
      refine va_get (D := D) (ci := 8) (v := .ref (q 11)) (C := RX9) (T := TX9) (N := 31) hx hb hts (fun w h => sub_z _ (inX9 w h)) hown hK hP 0 rfl rfl 15 (by decide) (hts _ (sub_z _ k_751)) (fun _ h => h) rfl dX9_next_61 ?_
      refine lv_aload_n hx hb dX9_next_64 rfl (lv_at hl 1 rfl) ?_
      refine va_get (D := D) (ci := 8) (v := .int v5.2.2.2.2.1) (C := RX9) (T := TX9) (N := 31) hx hb hts (fun w h => sub_z _ (inX9 w h)) hown hK hP 0 rfl rfl 16 (by decide) (hts _ (sub_z _ k_752)) (fun _ h => h) rfl dX9_next_65 ?_
      refine lv_aload_n hx hb dX9_next_68 rfl (lv_at hl 1 rfl) ?_
      refine va_get (D := D) (ci := 8) (v := .int (v5.2.1 + v3.1)) (C := RX9) (T := TX9) (N := 31) hx hb hts (fun w h => sub_z _ (inX9 w h)) hown hK hP 0 rfl rfl 13 (by decide) (hts _ (sub_z _ k_749)) (fun _ h => h) rfl dX9_next_69 ?_
      obtain ⟨k7, h⟩ := dg h
      refine va_iast (f := v5.2.2.2.1) hx hb hK hP (mD.w hD) hS 11 0 rfl rfl (inb_vp k7) dX9_next_72 (fun H locs hP _ hS => ?_)
      have hP : va_P D vwCl (wM dT q mr mg mc v3.2 (v6, (v5.2.1 + v3.1), (0 : Int32), (upd v5.2.2.2.1 v5.2.2.2.2.1.toNatClampNeg (v5.2.1 + v3.1)), v5.2.2.2.2.1, v5.2.2.2.2.2.1, v5.2.2.2.2.2.2.1, v5.2.2.2.2.2.2.2.1, v5.2.2.2.2.2.2.2.2.1, v5.2.2.2.2.2.2.2.2.2) mf mp) H := hP
      refine lv_aload_n hx hb dX9_next_73 rfl (lv_at hl 1 rfl) ?_
      refine lv_dup hx hb dX9_next_74 rfl ?_
      refine va_get (D := D) (ci := 8) (v := .int v5.2.2.2.2.1) (C := RX9) (T := TX9) (N := 31) hx hb hts (fun w h => sub_z _ (inX9 w h)) hown hK hP 0 rfl rfl 16 (by decide) (hts _ (sub_z _ k_752)) (fun _ h => h) rfl dX9_next_75 ?_
      refine lv_iconst (v := 1) hx hb dX9_next_78 (by decide) ?_
      refine lv_iadd hx hb dX9_next_79 ?_
      refine va_put (D := D) (ci := 8) (v := .int (v5.2.2.2.2.1 + (1 : Int32))) (ty := .int) (C := RX9) (T := TX9) (N := 31) hx hb hts (fun w h => sub_z _ (inX9 w h)) tyX9 tyX9_ok nmX9 hown hK hP (mD.w hD) hS 0 rfl rfl 16 (by decide) (hts _ (sub_z _ k_752)) (fun _ h => h) rfl (by decide +kernel) rfl rfl (Nat.le_of_ble_eq_true rfl) dX9_next_80 (fun H locs hP _ hS => ?_)
      have hP : va_P D vwCl (wM dT q mr mg mc v3.2 (v6, (v5.2.1 + v3.1), (0 : Int32), (upd v5.2.2.2.1 v5.2.2.2.2.1.toNatClampNeg (v5.2.1 + v3.1)), (v5.2.2.2.2.1 + (1 : Int32)), v5.2.2.2.2.2.1, v5.2.2.2.2.2.2.1, v5.2.2.2.2.2.2.2.1, v5.2.2.2.2.2.2.2.2.1, v5.2.2.2.2.2.2.2.2.2) mf mp) H := hP
      refine lv_aload_n hx hb dX9_next_83 rfl (lv_at hl 1 rfl) ?_
      refine va_get (D := D) (ci := 8) (v := .int (v5.2.1 + v3.1)) (C := RX9) (T := TX9) (N := 31) hx hb hts (fun w h => sub_z _ (inX9 w h)) hown hK hP 0 rfl rfl 13 (by decide) (hts _ (sub_z _ k_749)) (fun _ h => h) rfl dX9_next_84 ?_
      obtain rfl := Option.some.inj h
      exact rI hx hb hr hlk hK hP hS dX9_next_87
    · rw [if_pos k4] at h
      refine lv_bipush (v := -7) hx hb dX9_next_30 (by decide) ?_
      obtain rfl := Option.some.inj h
      exact rI hx hb hr hlk hK hP hS dX9_next_32
  · rw [if_pos k1] at h
    refine lv_bipush (v := -2) hx hb dX9_next_10 (by decide) ?_
    obtain rfl := Option.some.inj h
    exact rI hx hb hr hlk hK hP hS dX9_next_12

set_option maxRecDepth 100000 in
set_option maxHeartbeats 4000000 in
theorem c_X9_undo {l : Launch} {D : va_G} {dT : Nat → ClassId} {q : Nat → Nat} (hD : mD q) {mr : tMR} {mg : tMG} {mc : tMC} {mn : tMN} {mh : tMH} {mf : tMF} {mp : tMP}  {v : Int32 × tMH} (h : f_X9_undo mh = some v) : MG l yX9_undo cX9_undo 1 (some .int) 0 [.ref (q 0)] D (tyL dT) (wM dT q mr mg mc mn mh mf mp) (QI D (tyL dT) (mA q) (wM dT q mr mg mc mn v.2 mf mp) v.1) (mA q) := by
  refine MG.mk (by decide +kernel) (Nat.le_of_ble_eq_true rfl) ?_
  intro p e s m below meth c hx hb hr hml hown hts hlk hK hP ls hl
  have hown : s.vm.findClass RX9 = some m.cls := hown
  have hS : va_S (mA q) s.heap s.heap [] := va_S.rf
  have hl : lv_has ls 1 [(0, .ref (q 0))] := hl
  rw [f_X9_undo] at h
  refine lv_aload_n hx hb dX9_undo_0 rfl (lv_at hl 0 rfl) ?_
  refine va_get (D := D) (ci := 8) (v := .int mh.2.2.2.2.2.2.2.2.2) (C := RX9) (T := TX9) (N := 31) hx hb hts (fun w h => sub_z _ (inX9 w h)) hown hK hP 0 rfl rfl 21 (by decide) (hts _ (sub_z _ k_757)) (fun _ h => h) rfl dX9_undo_1 ?_
  refine lv_if_ne (tgt := 10) hx hb dX9_undo_4 (by decide) (fun k1 => ?_) (fun k1 => ?_)
  · rw [if_neg k1] at h
    refine lv_aload_n hx hb dX9_undo_10 rfl (lv_at hl 0 rfl) ?_
    refine lv_dup hx hb dX9_undo_11 rfl ?_
    refine va_get (D := D) (ci := 8) (v := .int mh.2.2.2.2.2.2.2.2.2) (C := RX9) (T := TX9) (N := 31) hx hb hts (fun w h => sub_z _ (inX9 w h)) hown hK hP 0 rfl rfl 21 (by decide) (hts _ (sub_z _ k_757)) (fun _ h => h) rfl dX9_undo_12 ?_
    refine lv_iconst (v := 1) hx hb dX9_undo_15 (by decide) ?_
    refine lv_isub hx hb dX9_undo_16 ?_
    refine va_put (D := D) (ci := 8) (v := .int (mh.2.2.2.2.2.2.2.2.2 - (1 : Int32))) (ty := .int) (C := RX9) (T := TX9) (N := 31) hx hb hts (fun w h => sub_z _ (inX9 w h)) tyX9 tyX9_ok nmX9 hown hK hP (mD.w hD) hS 0 rfl rfl 21 (by decide) (hts _ (sub_z _ k_757)) (fun _ h => h) rfl (by decide +kernel) rfl rfl (Nat.le_of_ble_eq_true rfl) dX9_undo_17 (fun H locs hP _ hS => ?_)
    have hP : va_P D vwCl (wM dT q mr mg mc mn (mh.1, mh.2.1, mh.2.2.1, mh.2.2.2.1, mh.2.2.2.2.1, mh.2.2.2.2.2.1, mh.2.2.2.2.2.2.1, mh.2.2.2.2.2.2.2.1, mh.2.2.2.2.2.2.2.2.1, (mh.2.2.2.2.2.2.2.2.2 - (1 : Int32))) mf mp) H := hP
    refine lv_aload_n hx hb dX9_undo_20 rfl (lv_at hl 0 rfl) ?_
    refine lv_aload_n hx hb dX9_undo_21 rfl (lv_at hl 0 rfl) ?_
    refine va_get (D := D) (ci := 8) (v := .ref (q 12)) (C := RX9) (T := TX9) (N := 31) hx hb hts (fun w h => sub_z _ (inX9 w h)) hown hK hP 0 rfl rfl 17 (by decide) (hts _ (sub_z _ k_753)) (fun _ h => h) rfl dX9_undo_22 ?_
    refine lv_aload_n hx hb dX9_undo_25 rfl (lv_at hl 0 rfl) ?_
    refine va_get (D := D) (ci := 8) (v := .int (mh.2.2.2.2.2.2.2.2.2 - (1 : Int32))) (C := RX9) (T := TX9) (N := 31) hx hb hts (fun w h => sub_z _ (inX9 w h)) hown hK hP 0 rfl rfl 21 (by decide) (hts _ (sub_z _ k_757)) (fun _ h => h) rfl dX9_undo_26 ?_
    obtain ⟨k2, h⟩ := dg h
    refine va_lald (f := mh.2.2.2.2.2.1) hx hb hK hP 12 1 rfl rfl (inb_vp k2) dX9_undo_29 ?_
    refine va_put (D := D) (ci := 8) (v := .long (mh.2.2.2.2.2.1 (mh.2.2.2.2.2.2.2.2.2 - (1 : Int32)).toNatClampNeg)) (ty := .long) (C := RX9) (T := TX9) (N := 31) hx hb hts (fun w h => sub_z _ (inX9 w h)) tyX9 tyX9_ok nmX9 hown hK hP (mD.w hD) hS 0 rfl rfl 12 (by decide) (hts _ (sub_z _ k_748)) (fun _ h => h) rfl (by decide +kernel) rfl rfl (Nat.le_of_ble_eq_true rfl) dX9_undo_30 (fun H locs hP _ hS => ?_)
    have hP : va_P D vwCl (wM dT q mr mg mc mn ((mh.2.2.2.2.2.1 (mh.2.2.2.2.2.2.2.2.2 - (1 : Int32)).toNatClampNeg), mh.2.1, mh.2.2.1, mh.2.2.2.1, mh.2.2.2.2.1, mh.2.2.2.2.2.1, mh.2.2.2.2.2.2.1, mh.2.2.2.2.2.2.2.1, mh.2.2.2.2.2.2.2.2.1, (mh.2.2.2.2.2.2.2.2.2 - (1 : Int32))) mf mp) H := hP
    refine lv_aload_n hx hb dX9_undo_33 rfl (lv_at hl 0 rfl) ?_
    refine lv_aload_n hx hb dX9_undo_34 rfl (lv_at hl 0 rfl) ?_
    refine va_get (D := D) (ci := 8) (v := .ref (q 13)) (C := RX9) (T := TX9) (N := 31) hx hb hts (fun w h => sub_z _ (inX9 w h)) hown hK hP 0 rfl rfl 18 (by decide) (hts _ (sub_z _ k_754)) (fun _ h => h) rfl dX9_undo_35 ?_
    refine lv_aload_n hx hb dX9_undo_38 rfl (lv_at hl 0 rfl) ?_
    refine va_get (D := D) (ci := 8) (v := .int (mh.2.2.2.2.2.2.2.2.2 - (1 : Int32))) (C := RX9) (T := TX9) (N := 31) hx hb hts (fun w h => sub_z _ (inX9 w h)) hown hK hP 0 rfl rfl 21 (by decide) (hts _ (sub_z _ k_757)) (fun _ h => h) rfl dX9_undo_39 ?_
    obtain ⟨k3, h⟩ := dg h
    refine va_iald (f := mh.2.2.2.2.2.2.1) hx hb hK hP 13 0 rfl rfl (inb_vp k3) dX9_undo_42 ?_
    refine va_put (D := D) (ci := 8) (v := .int (mh.2.2.2.2.2.2.1 (mh.2.2.2.2.2.2.2.2.2 - (1 : Int32)).toNatClampNeg)) (ty := .int) (C := RX9) (T := TX9) (N := 31) hx hb hts (fun w h => sub_z _ (inX9 w h)) tyX9 tyX9_ok nmX9 hown hK hP (mD.w hD) hS 0 rfl rfl 13 (by decide) (hts _ (sub_z _ k_749)) (fun _ h => h) rfl (by decide +kernel) rfl rfl (Nat.le_of_ble_eq_true rfl) dX9_undo_43 (fun H locs hP _ hS => ?_)
    have hP : va_P D vwCl (wM dT q mr mg mc mn ((mh.2.2.2.2.2.1 (mh.2.2.2.2.2.2.2.2.2 - (1 : Int32)).toNatClampNeg), (mh.2.2.2.2.2.2.1 (mh.2.2.2.2.2.2.2.2.2 - (1 : Int32)).toNatClampNeg), mh.2.2.1, mh.2.2.2.1, mh.2.2.2.2.1, mh.2.2.2.2.2.1, mh.2.2.2.2.2.2.1, mh.2.2.2.2.2.2.2.1, mh.2.2.2.2.2.2.2.2.1, (mh.2.2.2.2.2.2.2.2.2 - (1 : Int32))) mf mp) H := hP
    refine lv_aload_n hx hb dX9_undo_46 rfl (lv_at hl 0 rfl) ?_
    refine lv_aload_n hx hb dX9_undo_47 rfl (lv_at hl 0 rfl) ?_
    refine va_get (D := D) (ci := 8) (v := .ref (q 14)) (C := RX9) (T := TX9) (N := 31) hx hb hts (fun w h => sub_z _ (inX9 w h)) hown hK hP 0 rfl rfl 19 (by decide) (hts _ (sub_z _ k_755)) (fun _ h => h) rfl dX9_undo_48 ?_
    refine lv_aload_n hx hb dX9_undo_51 rfl (lv_at hl 0 rfl) ?_
    refine va_get (D := D) (ci := 8) (v := .int (mh.2.2.2.2.2.2.2.2.2 - (1 : Int32))) (C := RX9) (T := TX9) (N := 31) hx hb hts (fun w h => sub_z _ (inX9 w h)) hown hK hP 0 rfl rfl 21 (by decide) (hts _ (sub_z _ k_757)) (fun _ h => h) rfl dX9_undo_52 ?_
    obtain ⟨k4, h⟩ := dg h
    refine va_iald (f := mh.2.2.2.2.2.2.2.1) hx hb hK hP 14 0 rfl rfl (inb_vp k4) dX9_undo_55 ?_
    refine va_put (D := D) (ci := 8) (v := .int (mh.2.2.2.2.2.2.2.1 (mh.2.2.2.2.2.2.2.2.2 - (1 : Int32)).toNatClampNeg)) (ty := .int) (C := RX9) (T := TX9) (N := 31) hx hb hts (fun w h => sub_z _ (inX9 w h)) tyX9 tyX9_ok nmX9 hown hK hP (mD.w hD) hS 0 rfl rfl 16 (by decide) (hts _ (sub_z _ k_752)) (fun _ h => h) rfl (by decide +kernel) rfl rfl (Nat.le_of_ble_eq_true rfl) dX9_undo_56 (fun H locs hP _ hS => ?_)
    have hP : va_P D vwCl (wM dT q mr mg mc mn ((mh.2.2.2.2.2.1 (mh.2.2.2.2.2.2.2.2.2 - (1 : Int32)).toNatClampNeg), (mh.2.2.2.2.2.2.1 (mh.2.2.2.2.2.2.2.2.2 - (1 : Int32)).toNatClampNeg), mh.2.2.1, mh.2.2.2.1, (mh.2.2.2.2.2.2.2.1 (mh.2.2.2.2.2.2.2.2.2 - (1 : Int32)).toNatClampNeg), mh.2.2.2.2.2.1, mh.2.2.2.2.2.2.1, mh.2.2.2.2.2.2.2.1, mh.2.2.2.2.2.2.2.2.1, (mh.2.2.2.2.2.2.2.2.2 - (1 : Int32))) mf mp) H := hP
    refine lv_aload_n hx hb dX9_undo_59 rfl (lv_at hl 0 rfl) ?_
    refine lv_aload_n hx hb dX9_undo_60 rfl (lv_at hl 0 rfl) ?_
    refine va_get (D := D) (ci := 8) (v := .ref (q 15)) (C := RX9) (T := TX9) (N := 31) hx hb hts (fun w h => sub_z _ (inX9 w h)) hown hK hP 0 rfl rfl 20 (by decide) (hts _ (sub_z _ k_756)) (fun _ h => h) rfl dX9_undo_61 ?_
    refine lv_aload_n hx hb dX9_undo_64 rfl (lv_at hl 0 rfl) ?_
    refine va_get (D := D) (ci := 8) (v := .int (mh.2.2.2.2.2.2.2.2.2 - (1 : Int32))) (C := RX9) (T := TX9) (N := 31) hx hb hts (fun w h => sub_z _ (inX9 w h)) hown hK hP 0 rfl rfl 21 (by decide) (hts _ (sub_z _ k_757)) (fun _ h => h) rfl dX9_undo_65 ?_
    obtain ⟨k5, h⟩ := dg h
    refine va_zald (f := mh.2.2.2.2.2.2.2.2.1) hx hb hK hP 15 3 rfl rfl (inb_vp k5) dX9_undo_68 ?_
    obtain ⟨k6, h⟩ := dg h
    refine va_put (D := D) (ci := 8) (v := .int (mh.2.2.2.2.2.2.2.2.1 (mh.2.2.2.2.2.2.2.2.2 - (1 : Int32)).toNatClampNeg)) (ty := .boolean) (C := RX9) (T := TX9) (N := 31) hx hb hts (fun w h => sub_z _ (inX9 w h)) tyX9 tyX9_ok nmX9 hown hK hP (mD.w hD) hS 0 rfl rfl 14 (by decide) (hts _ (sub_z _ k_750)) (fun _ h => h) rfl (by decide +kernel) (isb_n k6) (isb_f k6) (Nat.le_of_ble_eq_true rfl) dX9_undo_69 (fun H locs hP _ hS => ?_)
    have hP : va_P D vwCl (wM dT q mr mg mc mn ((mh.2.2.2.2.2.1 (mh.2.2.2.2.2.2.2.2.2 - (1 : Int32)).toNatClampNeg), (mh.2.2.2.2.2.2.1 (mh.2.2.2.2.2.2.2.2.2 - (1 : Int32)).toNatClampNeg), (mh.2.2.2.2.2.2.2.2.1 (mh.2.2.2.2.2.2.2.2.2 - (1 : Int32)).toNatClampNeg), mh.2.2.2.1, (mh.2.2.2.2.2.2.2.1 (mh.2.2.2.2.2.2.2.2.2 - (1 : Int32)).toNatClampNeg), mh.2.2.2.2.2.1, mh.2.2.2.2.2.2.1, mh.2.2.2.2.2.2.2.1, mh.2.2.2.2.2.2.2.2.1, (mh.2.2.2.2.2.2.2.2.2 - (1 : Int32))) mf mp) H := hP
    refine lv_aload_n hx hb dX9_undo_72 rfl (lv_at hl 0 rfl) ?_
    refine va_get (D := D) (ci := 8) (v := .int (mh.2.2.2.2.2.2.1 (mh.2.2.2.2.2.2.2.2.2 - (1 : Int32)).toNatClampNeg)) (C := RX9) (T := TX9) (N := 31) hx hb hts (fun w h => sub_z _ (inX9 w h)) hown hK hP 0 rfl rfl 13 (by decide) (hts _ (sub_z _ k_749)) (fun _ h => h) rfl dX9_undo_73 ?_
    obtain rfl := Option.some.inj h
    exact rI hx hb hr hlk hK hP hS dX9_undo_76
  · rw [if_pos k1] at h
    refine lv_bipush (v := -5) hx hb dX9_undo_7 (by decide) ?_
    obtain rfl := Option.some.inj h
    exact rI hx hb hr hlk hK hP hS dX9_undo_9

set_option maxRecDepth 100000 in
set_option maxHeartbeats 4000000 in
theorem c_X9_begin {l : Launch} {D : va_G} {dT : Nat → ClassId} {q : Nat → Nat} (hD : mD q) {mr : tMR} {mg : tMG} {mc : tMC} {mn : tMN} {mh : tMH} {mf : tMF} {mp : tMP}  {v : Int32 × tMH} (h : f_X9_begin mh = some v) : MG l yX9_begin cX9_begin 1 (some .int) 1 [.ref (q 0)] D (tyL dT) (wM dT q mr mg mc mn mh mf mp) (QI D (tyL dT) (mA q) (wM dT q mr mg mc mn v.2 mf mp) v.1) (mA q) := by
  refine MG.mk (by decide +kernel) (Nat.le_of_ble_eq_true rfl) ?_
  intro p e s m below meth c hx hb hr hml hown hts hlk hK hP ls hl
  have hown : s.vm.findClass RX9 = some m.cls := hown
  have hS : va_S (mA q) s.heap s.heap [] := va_S.rf
  have hl : lv_has ls 1 [(0, .ref (q 0))] := hl
  rw [f_X9_begin] at h
  refine lv_aload_n hx hb dX9_begin_0 rfl (lv_at hl 0 rfl) ?_
  obtain ⟨v1, hv1, h⟩ := dq h
  refine cVv (As := []) (rest := []) ⟨hx, hb, hml, hown, hts⟩ (c_X9_start (dT := dT) (mr := mr) (mg := mg) (mc := mc) (mn := mn) (mh := mh) (mf := mf) (mp := mp) hD hv1) (cwV 0 hts (good_V sub_z k_732 k_734 ks_19 k_9 k_735) rfl rfl rfl (by decide +kernel) (by decide)) (va_recv hK hP (ci := 8) (q0 := 0) rfl rfl) hK hP hS rfl hl.1 rfl (Nat.le_of_ble_eq_true rfl) dX9_begin_1 (by decide) (fun H locs hP hS => ?_)
  refine lv_iconst (v := 1) hx hb dX9_begin_4 (by decide) ?_
  obtain rfl := Option.some.inj h
  exact rI hx hb hr hlk hK hP hS dX9_begin_5

set_option maxRecDepth 100000 in
set_option maxHeartbeats 4000000 in
theorem c_X9_moment {l : Launch} {D : va_G} {dT : Nat → ClassId} {q : Nat → Nat} (hD : mD q) {mr : tMR} {mg : tMG} {mc : tMC} {mn : tMN} {mh : tMH} {mf : tMF} {mp : tMP}  {v : Int32} (h : f_X9_moment mh = some v) : MG l yX9_moment cX9_moment 1 (some .int) 0 [.ref (q 0)] D (tyL dT) (wM dT q mr mg mc mn mh mf mp) (QI D (tyL dT) (mA q) (wM dT q mr mg mc mn mh mf mp) v) (mA q) := by
  refine MG.mk (by decide +kernel) (Nat.le_of_ble_eq_true rfl) ?_
  intro p e s m below meth c hx hb hr hml hown hts hlk hK hP ls hl
  have hown : s.vm.findClass RX9 = some m.cls := hown
  have hS : va_S (mA q) s.heap s.heap [] := va_S.rf
  have hl : lv_has ls 1 [(0, .ref (q 0))] := hl
  rw [f_X9_moment] at h
  refine lv_aload_n hx hb dX9_moment_0 rfl (lv_at hl 0 rfl) ?_
  refine va_get (D := D) (ci := 8) (v := .int mh.2.1) (C := RX9) (T := TX9) (N := 31) hx hb hts (fun w h => sub_z _ (inX9 w h)) hown hK hP 0 rfl rfl 13 (by decide) (hts _ (sub_z _ k_749)) (fun _ h => h) rfl dX9_moment_1 ?_
  obtain rfl := Option.some.inj h
  exact rI hx hb hr hlk hK hP hS dX9_moment_4

set_option maxRecDepth 100000 in
set_option maxHeartbeats 4000000 in
theorem c_X9_event {l : Launch} {D : va_G} {dT : Nat → ClassId} {q : Nat → Nat} (hD : mD q) {mr : tMR} {mg : tMG} {mc : tMC} {mn : tMN} {mh : tMH} {mf : tMF} {mp : tMP} {a1 : Int32} {v : Int32} (h : f_X9_event mh a1 = some v) : MG l yX9_event cX9_event 2 (some .int) 1 [.ref (q 0), .int a1] D (tyL dT) (wM dT q mr mg mc mn mh mf mp) (QI D (tyL dT) (mA q) (wM dT q mr mg mc mn mh mf mp) v) (mA q) := by
  refine MG.mk (by decide +kernel) (Nat.le_of_ble_eq_true rfl) ?_
  intro p e s m below meth c hx hb hr hml hown hts hlk hK hP ls hl
  have hown : s.vm.findClass RX9 = some m.cls := hown
  have hS : va_S (mA q) s.heap s.heap [] := va_S.rf
  have hl : lv_has ls 2 [(0, .ref (q 0)), (1, .int a1)] := hl
  rw [f_X9_event] at h
  refine lv_iload_n hx hb dX9_event_0 rfl (lv_at hl 1 rfl) ?_
  refine lv_iconst (v := 0) hx hb dX9_event_1 (by decide) ?_
  refine lv_aload_n hx hb dX9_event_2 rfl (lv_at hl 0 rfl) ?_
  refine va_get (D := D) (ci := 8) (v := .int mh.2.2.2.2.1) (C := RX9) (T := TX9) (N := 31) hx hb hts (fun w h => sub_z _ (inX9 w h)) hown hK hP 0 rfl rfl 16 (by decide) (hts _ (sub_z _ k_752)) (fun _ h => h) rfl dX9_event_3 ?_
  refine lv_iconst (v := 1) hx hb dX9_event_6 (by decide) ?_
  refine lv_isub hx hb dX9_event_7 ?_
  obtain ⟨v1, hv1, h⟩ := dq h
  refine cSi (As := [.int a1, .int (0 : Int32), .int (mh.2.2.2.2.1 - (1 : Int32))]) (rest := []) ⟨hx, hb, hml, hown, hts⟩ (c_X9_in (dT := dT) (mr := mr) (mg := mg) (mc := mc) (mn := mn) (mh := mh) (mf := mf) (mp := mp) hD hv1) (va_cwS 3 hts (good_S sub_z k_837 k_838 k_9 k_839) rfl rfl rfl (by decide +kernel) (by decide)) hK hP hS rfl hl.1 rfl (Nat.le_of_ble_eq_true rfl) dX9_event_8 (by decide) (fun H locs hP hS => ?_)
  refine lv_if_eq (tgt := 23) hx hb dX9_event_11 (by decide) (fun k2 => ?_) (fun k2 => ?_)
  · rw [if_pos k2] at h
    refine lv_iconst (v := -1) hx hb dX9_event_23 (by decide) ?_
    obtain rfl := Option.some.inj h
    exact rI hx hb hr hlk hK hP hS dX9_event_24
  · rw [if_neg k2] at h
    refine lv_aload_n hx hb dX9_event_14 rfl (lv_at hl 0 rfl) ?_
    refine va_get (D := D) (ci := 8) (v := .ref (q 11)) (C := RX9) (T := TX9) (N := 31) hx hb hts (fun w h => sub_z _ (inX9 w h)) hown hK hP 0 rfl rfl 15 (by decide) (hts _ (sub_z _ k_751)) (fun _ h => h) rfl dX9_event_15 ?_
    refine lv_iload_n hx hb dX9_event_18 rfl (lv_at hl 1 rfl) ?_
    obtain ⟨k3, h⟩ := dg h
    refine va_iald (f := mh.2.2.2.1) hx hb hK hP 11 0 rfl rfl (inb_vp k3) dX9_event_19 ?_
    refine lv_goto (tgt := 24) hx hb dX9_event_20 (by decide) ?_
    obtain rfl := Option.some.inj h
    exact rI hx hb hr hlk hK hP hS dX9_event_24

set_option maxRecDepth 100000 in
set_option maxHeartbeats 4000000 in
theorem c_X9_findConfig {l : Launch} {D : va_G} {dT : Nat → ClassId} {q : Nat → Nat} (hD : mD q) {mr : tMR} {mg : tMG} {mc : tMC} {mn : tMN} {mh : tMH} {mf : tMF} {mp : tMP} {a1 : Int64} {v : Int32} (h : f_X9_findConfig mf a1 = some v) : MG l yX9_findConfig cX9_findConfig 5 (some .int) 0 [.ref (q 0), .long a1] D (tyL dT) (wM dT q mr mg mc mn mh mf mp) (QI D (tyL dT) (mA q) (wM dT q mr mg mc mn mh mf mp) v) (mA q) := by
  refine MG.mk (by decide +kernel) (Nat.le_of_ble_eq_true rfl) ?_
  intro p e s m below meth c hx hb hr hml hown hts hlk hK hP ls hl
  have hown : s.vm.findClass RX9 = some m.cls := hown
  have hS : va_S (mA q) s.heap s.heap [] := va_S.rf
  have hl : lv_has ls 5 [(0, .ref (q 0)), (1, .long a1)] := hl
  rw [f_X9_findConfig] at h
  refine lv_iconst (v := -1) hx hb dX9_findConfig_0 (by decide) ?_
  refine lv_istore_n (lv' := [(3, .int (-1 : Int32)), (0, .ref (q 0)), (1, .long a1)]) hx hb dX9_findConfig_1 rfl hl (by decide) rfl (fun ls hl => ?_)
  refine lv_iconst (v := 0) hx hb dX9_findConfig_2 (by decide) ?_
  refine lv_istore (lv' := [(4, .int (0 : Int32)), (3, .int (-1 : Int32)), (0, .ref (q 0)), (1, .long a1)]) hx hb dX9_findConfig_3 hl (by decide) rfl (fun ls hl => ?_)
  have hL5_5 : ∀ (n : Nat) (x3_5 : Int32) (x4_5 : Int32) (y : Int32 × Int32), f_X9_findConfig_5 n mf a1 x3_5 x4_5 = some y → ∀ (ls : Array Slot) (H : Heap) (locs : List Loc), lv_has ls 5 [(0, .ref (q 0)), (1, .long a1), (3, .int x3_5), (4, .int x4_5)] → va_P D vwCl (wM dT q mr mg mc mn mh mf mp) H → va_S (mA q) s.heap H locs → ∀ Q : State → Prop, (∀ (ls : Array Slot) (H : Heap) (locs : List Loc), lv_has ls 5 [(0, .ref (q 0)), (1, .long a1), (3, .int y.1), (4, .int y.2)] → va_P D vwCl (wM dT q mr mg mc mn mh mf mp) H → va_S (mA q) s.heap H locs → W p l e (rmD 0) s m [.ref (q 0), .long a1].toArray below meth c H locs 0 0 Q (F0 m 43 ls [])) → W p l e (rmD 0) s m [.ref (q 0), .long a1].toArray below meth c H locs 0 0 Q (F0 m 5 ls []) := by
    intro n
    induction n with
    | zero => intro x3_5 x4_5 y h; exact absurd h (by simp [f_X9_findConfig_5])
    | succ n ih =>
      intro x3_5 x4_5 y h ls H locs hl hP hS Q kk
      rw [f_X9_findConfig_5] at h
      refine lv_iload hx hb dX9_findConfig_5 (lv_at hl 3 rfl) ?_
      refine lv_aload_n hx hb dX9_findConfig_7 rfl (lv_at hl 0 rfl) ?_
      refine va_get (D := D) (ci := 8) (v := .int mf.2.2.1) (C := RX9) (T := TX9) (N := 31) hx hb hts (fun w h => sub_z _ (inX9 w h)) hown hK hP 0 rfl rfl 24 (by decide) (hts _ (sub_z _ k_760)) (fun _ h => h) rfl dX9_findConfig_8 ?_
      refine lv_icmp_ge (tgt := 43) hx hb dX9_findConfig_11 (by decide) (fun k1 => ?_) (fun k1 => ?_)
      · rw [if_pos k1] at h
        obtain rfl := Option.some.inj h
        exact kk _ _ _ (lv_sub hl [0, 1, 2, 3] rfl) hP hS
      · rw [if_neg k1] at h
        refine lv_iload_n hx hb dX9_findConfig_14 rfl (lv_at hl 2 rfl) ?_
        refine lv_if_ge (tgt := 43) hx hb dX9_findConfig_15 (by decide) (fun k2 => ?_) (fun k2 => ?_)
        · rw [if_pos k2] at h
          obtain rfl := Option.some.inj h
          exact kk _ _ _ (lv_sub hl [0, 1, 2, 3] rfl) hP hS
        · rw [if_neg k2] at h
          refine lv_aload_n hx hb dX9_findConfig_18 rfl (lv_at hl 0 rfl) ?_
          refine va_get (D := D) (ci := 8) (v := .ref (q 16)) (C := RX9) (T := TX9) (N := 31) hx hb hts (fun w h => sub_z _ (inX9 w h)) hown hK hP 0 rfl rfl 23 (by decide) (hts _ (sub_z _ k_759)) (fun _ h => h) rfl dX9_findConfig_19 ?_
          refine lv_iload hx hb dX9_findConfig_22 (lv_at hl 3 rfl) ?_
          obtain ⟨k3, h⟩ := dg h
          refine va_lald (f := mf.2.1) hx hb hK hP 16 1 rfl rfl (inb_vp k3) dX9_findConfig_24 ?_
          refine lv_lload_n hx hb dX9_findConfig_25 rfl (lv_at hl 1 rfl) ?_
          refine W.lcmp hx hb dX9_findConfig_26 ?_
          refine lv_if_ne (tgt := 35) hx hb dX9_findConfig_27 (by decide) (fun k4 => ?_) (fun k4 => ?_)
          · rw [if_neg k4] at h
            refine lv_iconst (v := -1) hx hb dX9_findConfig_35 (by decide) ?_
            refine lv_istore_n (lv' := [(3, .int (-1 : Int32)), (0, .ref (q 0)), (1, .long a1), (4, .int x4_5)]) hx hb dX9_findConfig_36 rfl hl (by decide) rfl (fun ls hl => ?_)
            refine lv_iinc (v := (x4_5 + (1 : Int32))) (lv' := [(4, .int (x4_5 + (1 : Int32))), (3, .int (-1 : Int32)), (0, .ref (q 0)), (1, .long a1)]) hx hb dX9_findConfig_37 hl (k := 3) rfl rfl (by decide) rfl (fun ls hl => ?_)
            refine lv_goto (tgt := 5) hx hb dX9_findConfig_40 (by decide) ?_
            exact ih _ _ _ h _ _ _ (lv_sub hl [2, 3, 1, 0] rfl) hP hS _ kk
          · rw [if_pos k4] at h
            refine lv_iload hx hb dX9_findConfig_30 (lv_at hl 3 rfl) ?_
            refine lv_goto (tgt := 36) hx hb dX9_findConfig_32 (by decide) ?_
            refine lv_istore_n (lv' := [(3, .int x4_5), (0, .ref (q 0)), (1, .long a1), (4, .int x4_5)]) hx hb dX9_findConfig_36 rfl hl (by decide) rfl (fun ls hl => ?_)
            refine lv_iinc (v := (x4_5 + (1 : Int32))) (lv' := [(4, .int (x4_5 + (1 : Int32))), (3, .int x4_5), (0, .ref (q 0)), (1, .long a1)]) hx hb dX9_findConfig_37 hl (k := 3) rfl rfl (by decide) rfl (fun ls hl => ?_)
            refine lv_goto (tgt := 5) hx hb dX9_findConfig_40 (by decide) ?_
            exact ih _ _ _ h _ _ _ (lv_sub hl [2, 3, 1, 0] rfl) hP hS _ kk
  obtain ⟨y6, hy6, h⟩ := dq h
  refine hL5_5 _ _ _ _ hy6 _ _ _ (lv_sub hl [2, 3, 1, 0] rfl) hP hS _ (fun ls H locs hl hP hS => ?_)
  refine lv_iload_n hx hb dX9_findConfig_43 rfl (lv_at hl 2 rfl) ?_
  obtain rfl := Option.some.inj h
  exact rI hx hb hr hlk hK hP hS dX9_findConfig_44

set_option maxRecDepth 100000 in
set_option maxHeartbeats 4000000 in
theorem c_X9_goFrom {l : Launch} {D : va_G} {dT : Nat → ClassId} {q : Nat → Nat} (hD : mD q) {mr : tMR} {mg : tMG} {mc : tMC} {mn : tMN} {mh : tMH} {mf : tMF} {mp : tMP} {a1 : Int32} {v : tMN × tMF} (h : f_X9_goFrom mg mn mf a1 = some v) : MG l yX9_goFrom cX9_goFrom 8 none 4 [.ref (q 0), .int a1] D (tyL dT) (wM dT q mr mg mc mn mh mf mp) (QV D (tyL dT) (mA q) (wM dT q mr mg mc v.1 mh v.2 mp)) (mA q) := by
  refine MG.mk (by decide +kernel) (Nat.le_of_ble_eq_true rfl) ?_
  intro p e s m below meth c hx hb hr hml hown hts hlk hK hP ls hl
  have hown : s.vm.findClass RX9 = some m.cls := hown
  have hS : va_S (mA q) s.heap s.heap [] := va_S.rf
  have hl : lv_has ls 8 [(0, .ref (q 0)), (1, .int a1)] := hl
  rw [f_X9_goFrom] at h
  refine lv_iconst (v := 0) hx hb dX9_goFrom_0 (by decide) ?_
  refine lv_istore_n (lv' := [(2, .int (0 : Int32)), (0, .ref (q 0)), (1, .int a1)]) hx hb dX9_goFrom_1 rfl hl (by decide) rfl (fun ls hl => ?_)
  have hL2_19 : ∀ (n : Nat) (mn_2 : tMN) (mf_2 : tMF) (x2_2 : Int32) (y : Int32 × tMN × tMF), f_X9_goFrom_2 n mg mn_2 mf_2 a1 x2_2 = some y → ∀ (ls : Array Slot) (H : Heap) (locs : List Loc), lv_has ls 8 [(0, .ref (q 0)), (1, .int a1), (2, .int x2_2)] → va_P D vwCl (wM dT q mr mg mc mn_2 mh mf_2 mp) H → va_S (mA q) s.heap H locs → ∀ Q : State → Prop, (∀ (ls : Array Slot) (H : Heap) (locs : List Loc), lv_has ls 8 [(0, .ref (q 0)), (1, .int a1), (2, .int y.1)] → va_P D vwCl (wM dT q mr mg mc y.2.1 mh y.2.2 mp) H → va_S (mA q) s.heap H locs → W p l e (rmD 4) s m [.ref (q 0), .int a1].toArray below meth c H locs 0 0 Q (F0 m 136 ls [])) → W p l e (rmD 4) s m [.ref (q 0), .int a1].toArray below meth c H locs 0 0 Q (F0 m 2 ls []) := by
    intro n
    induction n with
    | zero => intro mn_2 mf_2 x2_2 y h; exact absurd h (by simp [f_X9_goFrom_2])
    | succ n ih =>
      intro mn_2 mf_2 x2_2 y h ls H locs hl hP hS Q kk
      rw [f_X9_goFrom_2] at h
      refine lv_iload_n hx hb dX9_goFrom_2 rfl (lv_at hl 2 rfl) ?_
      refine lv_sipush (v := 256) hx hb dX9_goFrom_3 (by decide) ?_
      refine lv_icmp_ge (tgt := 136) hx hb dX9_goFrom_6 (by decide) (fun k1 => ?_) (fun k1 => ?_)
      · rw [if_pos k1] at h
        obtain rfl := Option.some.inj h
        exact kk _ _ _ (lv_sub hl [0, 1, 2] rfl) hP hS
      · rw [if_neg k1] at h
        refine lv_sipush (v := 256) hx hb dX9_goFrom_9 (by decide) ?_
        refine lv_iload_n hx hb dX9_goFrom_12 rfl (lv_at hl 1 rfl) ?_
        refine lv_imul hx hb dX9_goFrom_13 ?_
        refine lv_iload_n hx hb dX9_goFrom_14 rfl (lv_at hl 2 rfl) ?_
        refine lv_iadd hx hb dX9_goFrom_15 ?_
        refine lv_istore_n (lv' := [(3, .int (((256 : Int32) * a1) + x2_2)), (0, .ref (q 0)), (1, .int a1), (2, .int x2_2)]) hx hb dX9_goFrom_16 rfl hl (by decide) rfl (fun ls hl => ?_)
        refine lv_aload_n hx hb dX9_goFrom_17 rfl (lv_at hl 1 rfl) ?_
        refine va_get (D := D) (ci := 8) (v := .ref (q 17)) (C := RX9) (T := TX9) (N := 31) hx hb hts (fun w h => sub_z _ (inX9 w h)) hown hK hP 0 rfl rfl 25 (by decide) (hts _ (sub_z _ k_761)) (fun _ h => h) rfl dX9_goFrom_18 ?_
        refine lv_iload_n hx hb dX9_goFrom_21 rfl (lv_at hl 0 rfl) ?_
        refine lv_iconst (v := -1) hx hb dX9_goFrom_22 (by decide) ?_
        obtain ⟨k2, h⟩ := dg h
        refine va_iast (f := mf_2.2.2.2.1) hx hb hK hP (mD.w hD) hS 17 0 rfl rfl (inb_vp k2) dX9_goFrom_23 (fun H locs hP _ hS => ?_)
        have hP : va_P D vwCl (wM dT q mr mg mc mn_2 mh (mf_2.1, mf_2.2.1, mf_2.2.2.1, (upd mf_2.2.2.2.1 (((256 : Int32) * a1) + x2_2).toNatClampNeg (-1 : Int32)), mf_2.2.2.2.2.1, mf_2.2.2.2.2.2.1, mf_2.2.2.2.2.2.2.1, mf_2.2.2.2.2.2.2.2) mp) H := hP
        refine lv_aload_n hx hb dX9_goFrom_24 rfl (lv_at hl 1 rfl) ?_
        refine lv_aload_n hx hb dX9_goFrom_25 rfl (lv_at hl 1 rfl) ?_
        refine va_get (D := D) (ci := 8) (v := .ref (q 16)) (C := RX9) (T := TX9) (N := 31) hx hb hts (fun w h => sub_z _ (inX9 w h)) hown hK hP 0 rfl rfl 23 (by decide) (hts _ (sub_z _ k_759)) (fun _ h => h) rfl dX9_goFrom_26 ?_
        refine lv_iload_n hx hb dX9_goFrom_29 rfl (lv_at hl 2 rfl) ?_
        obtain ⟨k3, h⟩ := dg h
        refine va_lald (f := mf_2.2.1) hx hb hK hP 16 1 rfl rfl (inb_vp k3) dX9_goFrom_30 ?_
        obtain ⟨v4, hv4, h⟩ := dq h
        refine cVv (As := [.long (mf_2.2.1 a1.toNatClampNeg)]) (rest := []) ⟨hx, hb, hml, hown, hts⟩ (c_X9_open (dT := dT) (mr := mr) (mg := mg) (mc := mc) (mn := mn_2) (mh := mh) (mf := (mf_2.1, mf_2.2.1, mf_2.2.2.1, (upd mf_2.2.2.2.1 (((256 : Int32) * a1) + x2_2).toNatClampNeg (-1 : Int32)), mf_2.2.2.2.2.1, mf_2.2.2.2.2.2.1, mf_2.2.2.2.2.2.2.1, mf_2.2.2.2.2.2.2.2)) (mp := mp) hD hv4) (cwV 1 hts (good_V sub_z k_901 k_903 ks_22 k_9 k_904) rfl rfl rfl (by decide +kernel) (by decide)) (va_recv hK hP (ci := 8) (q0 := 0) rfl rfl) hK hP hS rfl hl.1 rfl (Nat.le_of_ble_eq_true rfl) dX9_goFrom_31 (by decide) (fun H locs hP hS => ?_)
        refine lv_aload_n hx hb dX9_goFrom_34 rfl (lv_at hl 1 rfl) ?_
        refine va_get (D := D) (ci := 8) (v := .int mf_2.2.2.1) (C := RX9) (T := TX9) (N := 31) hx hb hts (fun w h => sub_z _ (inX9 w h)) hown hK hP 0 rfl rfl 24 (by decide) (hts _ (sub_z _ k_760)) (fun _ h => h) rfl dX9_goFrom_35 ?_
        refine lv_sipush (v := 600) hx hb dX9_goFrom_38 (by decide) ?_
        refine lv_icmp_gt (tgt := 130) hx hb dX9_goFrom_41 (by decide) (fun k5 => ?_) (fun k5 => ?_)
        · rw [if_pos k5] at h
          refine lv_iinc (v := (x2_2 + (1 : Int32))) (lv' := [(2, .int (x2_2 + (1 : Int32))), (3, .int (((256 : Int32) * a1) + x2_2)), (0, .ref (q 0)), (1, .int a1)]) hx hb dX9_goFrom_130 hl (k := 3) rfl rfl (by decide) rfl (fun ls hl => ?_)
          refine lv_goto (tgt := 2) hx hb dX9_goFrom_133 (by decide) ?_
          exact ih _ _ _ _ h _ _ _ (lv_sub hl [2, 3, 0] rfl) hP hS _ kk
        · rw [if_neg k5] at h
          refine lv_aload_n hx hb dX9_goFrom_44 rfl (lv_at hl 1 rfl) ?_
          refine lv_iload_n hx hb dX9_goFrom_45 rfl (lv_at hl 3 rfl) ?_
          obtain ⟨v6, hv6, h⟩ := dq h
          refine cVi (As := [.int x2_2]) (rest := []) ⟨hx, hb, hml, hown, hts⟩ (c_X9_isAllowed (dT := dT) (mr := mr) (mg := mg) (mc := mc) (mn := v4) (mh := mh) (mf := (mf_2.1, mf_2.2.1, mf_2.2.2.1, (upd mf_2.2.2.2.1 (((256 : Int32) * a1) + x2_2).toNatClampNeg (-1 : Int32)), mf_2.2.2.2.2.1, mf_2.2.2.2.2.2.1, mf_2.2.2.2.2.2.2.1, mf_2.2.2.2.2.2.2.2)) (mp := mp) hD hv6) (cwV 1 hts (good_V sub_z k_905 k_907 ks_23 k_9 k_908) rfl rfl rfl (by decide +kernel) (by decide)) (va_recv hK hP (ci := 8) (q0 := 0) rfl rfl) hK hP hS rfl hl.1 rfl (Nat.le_of_ble_eq_true rfl) dX9_goFrom_46 (by decide) (fun H locs hP hS => ?_)
          refine lv_if_eq (tgt := 130) hx hb dX9_goFrom_49 (by decide) (fun k7 => ?_) (fun k7 => ?_)
          · rw [if_pos k7] at h
            refine lv_iinc (v := (x2_2 + (1 : Int32))) (lv' := [(2, .int (x2_2 + (1 : Int32))), (3, .int (((256 : Int32) * a1) + x2_2)), (0, .ref (q 0)), (1, .int a1)]) hx hb dX9_goFrom_130 hl (k := 3) rfl rfl (by decide) rfl (fun ls hl => ?_)
            refine lv_goto (tgt := 2) hx hb dX9_goFrom_133 (by decide) ?_
            exact ih _ _ _ _ h _ _ _ (lv_sub hl [2, 3, 0] rfl) hP hS _ kk
          · rw [if_neg k7] at h
            refine lv_aload_n hx hb dX9_goFrom_52 rfl (lv_at hl 1 rfl) ?_
            refine lv_iload_n hx hb dX9_goFrom_53 rfl (lv_at hl 3 rfl) ?_
            obtain ⟨v8, hv8, h⟩ := dq h
            refine cVv (As := [.int x2_2]) (rest := []) ⟨hx, hb, hml, hown, hts⟩ (c_X9_handle (dT := dT) (mr := mr) (mg := mg) (mc := mc) (mn := v4) (mh := mh) (mf := (mf_2.1, mf_2.2.1, mf_2.2.2.1, (upd mf_2.2.2.2.1 (((256 : Int32) * a1) + x2_2).toNatClampNeg (-1 : Int32)), mf_2.2.2.2.2.1, mf_2.2.2.2.2.2.1, mf_2.2.2.2.2.2.2.1, mf_2.2.2.2.2.2.2.2)) (mp := mp) hD hv8) (cwV 1 hts (good_V sub_z k_928 k_930 ks_27 k_9 k_931) rfl rfl rfl (by decide +kernel) (by decide)) (va_recv hK hP (ci := 8) (q0 := 0) rfl rfl) hK hP hS rfl hl.1 rfl (Nat.le_of_ble_eq_true rfl) dX9_goFrom_54 (by decide) (fun H locs hP hS => ?_)
            refine lv_aload_n hx hb dX9_goFrom_57 rfl (lv_at hl 1 rfl) ?_
            obtain ⟨v9, hv9, h⟩ := dq h
            refine cVi (As := []) (rest := []) ⟨hx, hb, hml, hown, hts⟩ (c_X9_goOn (dT := dT) (mr := mr) (mg := mg) (mc := mc) (mn := v8) (mh := mh) (mf := (mf_2.1, mf_2.2.1, mf_2.2.2.1, (upd mf_2.2.2.2.1 (((256 : Int32) * a1) + x2_2).toNatClampNeg (-1 : Int32)), mf_2.2.2.2.2.1, mf_2.2.2.2.2.2.1, mf_2.2.2.2.2.2.2.1, mf_2.2.2.2.2.2.2.2)) (mp := mp) hD hv9) (cwV 0 hts (good_V sub_z k_943 k_945 ks_29 k_9 k_946) rfl rfl rfl (by decide +kernel) (by decide)) (va_recv hK hP (ci := 8) (q0 := 0) rfl rfl) hK hP hS rfl hl.1 rfl (Nat.le_of_ble_eq_true rfl) dX9_goFrom_58 (by decide) (fun H locs hP hS => ?_)
            refine lv_istore (lv' := [(4, .int v9.1), (3, .int (((256 : Int32) * a1) + x2_2)), (0, .ref (q 0)), (1, .int a1), (2, .int x2_2)]) hx hb dX9_goFrom_61 hl (by decide) rfl (fun ls hl => ?_)
            refine lv_iload hx hb dX9_goFrom_63 (lv_at hl 0 rfl) ?_
            refine lv_if_le (tgt := 130) hx hb dX9_goFrom_65 (by decide) (fun k10 => ?_) (fun k10 => ?_)
            · rw [if_pos k10] at h
              refine lv_iinc (v := (x2_2 + (1 : Int32))) (lv' := [(2, .int (x2_2 + (1 : Int32))), (4, .int v9.1), (3, .int (((256 : Int32) * a1) + x2_2)), (0, .ref (q 0)), (1, .int a1)]) hx hb dX9_goFrom_130 hl (k := 4) rfl rfl (by decide) rfl (fun ls hl => ?_)
              refine lv_goto (tgt := 2) hx hb dX9_goFrom_133 (by decide) ?_
              exact ih _ _ _ _ h _ _ _ (lv_sub hl [3, 4, 0] rfl) hP hS _ kk
            · rw [if_neg k10] at h
              refine lv_aload_n hx hb dX9_goFrom_68 rfl (lv_at hl 2 rfl) ?_
              obtain ⟨v11, hv11, h⟩ := dq h
              refine cVl (As := []) (rest := []) ⟨hx, hb, hml, hown, hts⟩ (c_X9_close (dT := dT) (mr := mr) (mg := mg) (mc := mc) (mn := v9.2) (mh := mh) (mf := (mf_2.1, mf_2.2.1, mf_2.2.2.1, (upd mf_2.2.2.2.1 (((256 : Int32) * a1) + x2_2).toNatClampNeg (-1 : Int32)), mf_2.2.2.2.2.1, mf_2.2.2.2.2.2.1, mf_2.2.2.2.2.2.2.1, mf_2.2.2.2.2.2.2.2)) (mp := mp) hD hv11) (cwV 0 hts (good_V sub_z k_932 k_934 ks_28 k_9 k_935) rfl rfl rfl (by decide +kernel) (by decide)) (va_recv hK hP (ci := 8) (q0 := 0) rfl rfl) hK hP hS rfl hl.1 rfl (Nat.le_of_ble_eq_true rfl) dX9_goFrom_69 (by decide) (fun H locs hP hS => ?_)
              refine lv_lstore (lv' := [(5, .long v11), (4, .int v9.1), (3, .int (((256 : Int32) * a1) + x2_2)), (0, .ref (q 0)), (1, .int a1), (2, .int x2_2)]) hx hb dX9_goFrom_72 hl (by decide) rfl (fun ls hl => ?_)
              refine lv_aload_n hx hb dX9_goFrom_74 rfl (lv_at hl 3 rfl) ?_
              refine lv_lload hx hb dX9_goFrom_75 (lv_at hl 0 rfl) ?_
              obtain ⟨v12, hv12, h⟩ := dq h
              refine cVi (As := [.long v11]) (rest := []) ⟨hx, hb, hml, hown, hts⟩ (c_X9_findConfig (dT := dT) (mr := mr) (mg := mg) (mc := mc) (mn := v9.2) (mh := mh) (mf := (mf_2.1, mf_2.2.1, mf_2.2.2.1, (upd mf_2.2.2.2.1 (((256 : Int32) * a1) + x2_2).toNatClampNeg (-1 : Int32)), mf_2.2.2.2.2.1, mf_2.2.2.2.2.2.1, mf_2.2.2.2.2.2.2.1, mf_2.2.2.2.2.2.2.2)) (mp := mp) hD hv12) (cwV 1 hts (good_V sub_z k_979 k_981 ks_33 k_9 k_982) rfl rfl rfl (by decide +kernel) (by decide)) (va_recv hK hP (ci := 8) (q0 := 0) rfl rfl) hK hP hS rfl hl.1 rfl (Nat.le_of_ble_eq_true rfl) dX9_goFrom_77 (by decide) (fun H locs hP hS => ?_)
              refine lv_istore (lv' := [(7, .int v12), (5, .long v11), (4, .int v9.1), (3, .int (((256 : Int32) * a1) + x2_2)), (0, .ref (q 0)), (1, .int a1), (2, .int x2_2)]) hx hb dX9_goFrom_80 hl (by decide) rfl (fun ls hl => ?_)
              refine lv_iload hx hb dX9_goFrom_82 (lv_at hl 0 rfl) ?_
              refine lv_if_ge (tgt := 114) hx hb dX9_goFrom_84 (by decide) (fun k13 => ?_) (fun k13 => ?_)
              · rw [if_pos k13] at h
                refine lv_aload_n hx hb dX9_goFrom_114 rfl (lv_at hl 4 rfl) ?_
                refine va_get (D := D) (ci := 8) (v := .ref (q 17)) (C := RX9) (T := TX9) (N := 31) hx hb hts (fun w h => sub_z _ (inX9 w h)) hown hK hP 0 rfl rfl 25 (by decide) (hts _ (sub_z _ k_761)) (fun _ h => h) rfl dX9_goFrom_115 ?_
                refine lv_iload_n hx hb dX9_goFrom_118 rfl (lv_at hl 3 rfl) ?_
                refine lv_iload hx hb dX9_goFrom_119 (lv_at hl 0 rfl) ?_
                obtain ⟨k14, h⟩ := dg h
                refine va_iast (f := (upd mf_2.2.2.2.1 (((256 : Int32) * a1) + x2_2).toNatClampNeg (-1 : Int32))) hx hb hK hP (mD.w hD) hS 17 0 rfl rfl (inb_vp k14) dX9_goFrom_121 (fun H locs hP _ hS => ?_)
                have hP : va_P D vwCl (wM dT q mr mg mc v9.2 mh (mf_2.1, mf_2.2.1, mf_2.2.2.1, (upd (upd mf_2.2.2.2.1 (((256 : Int32) * a1) + x2_2).toNatClampNeg (-1 : Int32)) (((256 : Int32) * a1) + x2_2).toNatClampNeg v12), mf_2.2.2.2.2.1, mf_2.2.2.2.2.2.1, mf_2.2.2.2.2.2.2.1, mf_2.2.2.2.2.2.2.2) mp) H := hP
                refine lv_aload_n hx hb dX9_goFrom_122 rfl (lv_at hl 4 rfl) ?_
                refine va_get (D := D) (ci := 8) (v := .ref (q 18)) (C := RX9) (T := TX9) (N := 31) hx hb hts (fun w h => sub_z _ (inX9 w h)) hown hK hP 0 rfl rfl 26 (by decide) (hts _ (sub_z _ k_762)) (fun _ h => h) rfl dX9_goFrom_123 ?_
                refine lv_iload_n hx hb dX9_goFrom_126 rfl (lv_at hl 3 rfl) ?_
                refine lv_iload hx hb dX9_goFrom_127 (lv_at hl 2 rfl) ?_
                obtain ⟨k15, h⟩ := dg h
                refine va_iast (f := mf_2.2.2.2.2.1) hx hb hK hP (mD.w hD) hS 18 0 rfl rfl (inb_vp k15) dX9_goFrom_129 (fun H locs hP _ hS => ?_)
                have hP : va_P D vwCl (wM dT q mr mg mc v9.2 mh (mf_2.1, mf_2.2.1, mf_2.2.2.1, (upd (upd mf_2.2.2.2.1 (((256 : Int32) * a1) + x2_2).toNatClampNeg (-1 : Int32)) (((256 : Int32) * a1) + x2_2).toNatClampNeg v12), (upd mf_2.2.2.2.2.1 (((256 : Int32) * a1) + x2_2).toNatClampNeg v9.1), mf_2.2.2.2.2.2.1, mf_2.2.2.2.2.2.2.1, mf_2.2.2.2.2.2.2.2) mp) H := hP
                refine lv_iinc (v := (x2_2 + (1 : Int32))) (lv' := [(2, .int (x2_2 + (1 : Int32))), (7, .int v12), (5, .long v11), (4, .int v9.1), (3, .int (((256 : Int32) * a1) + x2_2)), (0, .ref (q 0)), (1, .int a1)]) hx hb dX9_goFrom_130 hl (k := 6) rfl rfl (by decide) rfl (fun ls hl => ?_)
                refine lv_goto (tgt := 2) hx hb dX9_goFrom_133 (by decide) ?_
                exact ih _ _ _ _ h _ _ _ (lv_sub hl [5, 6, 0] rfl) hP hS _ kk
              · rw [if_neg k13] at h
                refine lv_aload_n hx hb dX9_goFrom_87 rfl (lv_at hl 4 rfl) ?_
                refine va_get (D := D) (ci := 8) (v := .ref (q 16)) (C := RX9) (T := TX9) (N := 31) hx hb hts (fun w h => sub_z _ (inX9 w h)) hown hK hP 0 rfl rfl 23 (by decide) (hts _ (sub_z _ k_759)) (fun _ h => h) rfl dX9_goFrom_88 ?_
                refine lv_aload_n hx hb dX9_goFrom_91 rfl (lv_at hl 4 rfl) ?_
                refine va_get (D := D) (ci := 8) (v := .int mf_2.2.2.1) (C := RX9) (T := TX9) (N := 31) hx hb hts (fun w h => sub_z _ (inX9 w h)) hown hK hP 0 rfl rfl 24 (by decide) (hts _ (sub_z _ k_760)) (fun _ h => h) rfl dX9_goFrom_92 ?_
                refine lv_lload hx hb dX9_goFrom_95 (lv_at hl 1 rfl) ?_
                obtain ⟨k16, h⟩ := dg h
                refine va_last (f := mf_2.2.1) hx hb hK hP (mD.w hD) hS 16 1 rfl rfl (inb_vp k16) dX9_goFrom_97 (fun H locs hP _ hS => ?_)
                have hP : va_P D vwCl (wM dT q mr mg mc v9.2 mh (mf_2.1, (vp_updL mf_2.2.1 mf_2.2.2.1.toNatClampNeg v11), mf_2.2.2.1, (upd mf_2.2.2.2.1 (((256 : Int32) * a1) + x2_2).toNatClampNeg (-1 : Int32)), mf_2.2.2.2.2.1, mf_2.2.2.2.2.2.1, mf_2.2.2.2.2.2.2.1, mf_2.2.2.2.2.2.2.2) mp) H := hP
                refine lv_aload_n hx hb dX9_goFrom_98 rfl (lv_at hl 4 rfl) ?_
                refine va_get (D := D) (ci := 8) (v := .int mf_2.2.2.1) (C := RX9) (T := TX9) (N := 31) hx hb hts (fun w h => sub_z _ (inX9 w h)) hown hK hP 0 rfl rfl 24 (by decide) (hts _ (sub_z _ k_760)) (fun _ h => h) rfl dX9_goFrom_99 ?_
                refine lv_istore (lv' := [(7, .int mf_2.2.2.1), (5, .long v11), (4, .int v9.1), (3, .int (((256 : Int32) * a1) + x2_2)), (0, .ref (q 0)), (1, .int a1), (2, .int x2_2)]) hx hb dX9_goFrom_102 hl (by decide) rfl (fun ls hl => ?_)
                refine lv_aload_n hx hb dX9_goFrom_104 rfl (lv_at hl 4 rfl) ?_
                refine lv_dup hx hb dX9_goFrom_105 rfl ?_
                refine va_get (D := D) (ci := 8) (v := .int mf_2.2.2.1) (C := RX9) (T := TX9) (N := 31) hx hb hts (fun w h => sub_z _ (inX9 w h)) hown hK hP 0 rfl rfl 24 (by decide) (hts _ (sub_z _ k_760)) (fun _ h => h) rfl dX9_goFrom_106 ?_
                refine lv_iconst (v := 1) hx hb dX9_goFrom_109 (by decide) ?_
                refine lv_iadd hx hb dX9_goFrom_110 ?_
                refine va_put (D := D) (ci := 8) (v := .int (mf_2.2.2.1 + (1 : Int32))) (ty := .int) (C := RX9) (T := TX9) (N := 31) hx hb hts (fun w h => sub_z _ (inX9 w h)) tyX9 tyX9_ok nmX9 hown hK hP (mD.w hD) hS 0 rfl rfl 24 (by decide) (hts _ (sub_z _ k_760)) (fun _ h => h) rfl (by decide +kernel) rfl rfl (Nat.le_of_ble_eq_true rfl) dX9_goFrom_111 (fun H locs hP _ hS => ?_)
                have hP : va_P D vwCl (wM dT q mr mg mc v9.2 mh (mf_2.1, (vp_updL mf_2.2.1 mf_2.2.2.1.toNatClampNeg v11), (mf_2.2.2.1 + (1 : Int32)), (upd mf_2.2.2.2.1 (((256 : Int32) * a1) + x2_2).toNatClampNeg (-1 : Int32)), mf_2.2.2.2.2.1, mf_2.2.2.2.2.2.1, mf_2.2.2.2.2.2.2.1, mf_2.2.2.2.2.2.2.2) mp) H := hP
                refine lv_aload_n hx hb dX9_goFrom_114 rfl (lv_at hl 4 rfl) ?_
                refine va_get (D := D) (ci := 8) (v := .ref (q 17)) (C := RX9) (T := TX9) (N := 31) hx hb hts (fun w h => sub_z _ (inX9 w h)) hown hK hP 0 rfl rfl 25 (by decide) (hts _ (sub_z _ k_761)) (fun _ h => h) rfl dX9_goFrom_115 ?_
                refine lv_iload_n hx hb dX9_goFrom_118 rfl (lv_at hl 3 rfl) ?_
                refine lv_iload hx hb dX9_goFrom_119 (lv_at hl 0 rfl) ?_
                obtain ⟨k17, h⟩ := dg h
                refine va_iast (f := (upd mf_2.2.2.2.1 (((256 : Int32) * a1) + x2_2).toNatClampNeg (-1 : Int32))) hx hb hK hP (mD.w hD) hS 17 0 rfl rfl (inb_vp k17) dX9_goFrom_121 (fun H locs hP _ hS => ?_)
                have hP : va_P D vwCl (wM dT q mr mg mc v9.2 mh (mf_2.1, (vp_updL mf_2.2.1 mf_2.2.2.1.toNatClampNeg v11), (mf_2.2.2.1 + (1 : Int32)), (upd (upd mf_2.2.2.2.1 (((256 : Int32) * a1) + x2_2).toNatClampNeg (-1 : Int32)) (((256 : Int32) * a1) + x2_2).toNatClampNeg mf_2.2.2.1), mf_2.2.2.2.2.1, mf_2.2.2.2.2.2.1, mf_2.2.2.2.2.2.2.1, mf_2.2.2.2.2.2.2.2) mp) H := hP
                refine lv_aload_n hx hb dX9_goFrom_122 rfl (lv_at hl 4 rfl) ?_
                refine va_get (D := D) (ci := 8) (v := .ref (q 18)) (C := RX9) (T := TX9) (N := 31) hx hb hts (fun w h => sub_z _ (inX9 w h)) hown hK hP 0 rfl rfl 26 (by decide) (hts _ (sub_z _ k_762)) (fun _ h => h) rfl dX9_goFrom_123 ?_
                refine lv_iload_n hx hb dX9_goFrom_126 rfl (lv_at hl 3 rfl) ?_
                refine lv_iload hx hb dX9_goFrom_127 (lv_at hl 2 rfl) ?_
                obtain ⟨k18, h⟩ := dg h
                refine va_iast (f := mf_2.2.2.2.2.1) hx hb hK hP (mD.w hD) hS 18 0 rfl rfl (inb_vp k18) dX9_goFrom_129 (fun H locs hP _ hS => ?_)
                have hP : va_P D vwCl (wM dT q mr mg mc v9.2 mh (mf_2.1, (vp_updL mf_2.2.1 mf_2.2.2.1.toNatClampNeg v11), (mf_2.2.2.1 + (1 : Int32)), (upd (upd mf_2.2.2.2.1 (((256 : Int32) * a1) + x2_2).toNatClampNeg (-1 : Int32)) (((256 : Int32) * a1) + x2_2).toNatClampNeg mf_2.2.2.1), (upd mf_2.2.2.2.2.1 (((256 : Int32) * a1) + x2_2).toNatClampNeg v9.1), mf_2.2.2.2.2.2.1, mf_2.2.2.2.2.2.2.1, mf_2.2.2.2.2.2.2.2) mp) H := hP
                refine lv_iinc (v := (x2_2 + (1 : Int32))) (lv' := [(2, .int (x2_2 + (1 : Int32))), (7, .int mf_2.2.2.1), (5, .long v11), (4, .int v9.1), (3, .int (((256 : Int32) * a1) + x2_2)), (0, .ref (q 0)), (1, .int a1)]) hx hb dX9_goFrom_130 hl (k := 6) rfl rfl (by decide) rfl (fun ls hl => ?_)
                refine lv_goto (tgt := 2) hx hb dX9_goFrom_133 (by decide) ?_
                exact ih _ _ _ _ h _ _ _ (lv_sub hl [5, 6, 0] rfl) hP hS _ kk
  obtain ⟨y20, hy20, h⟩ := dq h
  refine hL2_19 _ _ _ _ _ hy20 _ _ _ (lv_sub hl [1, 2, 0] rfl) hP hS _ (fun ls H locs hl hP hS => ?_)
  obtain rfl := Option.some.inj h
  exact rV hx hb hr hlk hK hP hS dX9_goFrom_136
