set_option maxRecDepth 100000 in
set_option maxHeartbeats 4000000 in
theorem c_X2_key_1 {l : Launch} {D : va_G} {dT : Nat → ClassId} {q : Nat → Nat} (hD : xD q) {rs : (Nat → tRow)} {g : tG_} {bh : tBH} {c1 : tC} {c2 : tC} {re : tRE} {pl : tPL} {cl : tCL}  {v : Int64} (h : f_X2_key c1 = some v) : MG l yX2_key cX2_key 4 (some .long) 0 [.ref (q 15)] D (tyL dT) (wX dT q rs g bh c1 c2 re pl cl) (QL D (tyL dT) (xA q) (wX dT q rs g bh c1 c2 re pl cl) v) (xA q) := by
  refine MG.mk (by decide +kernel) (Nat.le_of_ble_eq_true rfl) ?_
  intro p e s m below meth c hx hb hr hml hown hts hlk hK hP ls hl
  have hown : s.vm.findClass RX2 = some m.cls := hown
  have hS : va_S (xA q) s.heap s.heap [] := va_S.rf
  have hl : lv_has ls 4 [(0, .ref (q 15))] := hl
  rw [f_X2_key] at h
  refine lv_lconst (v := 0) hx hb dX2_key_0 (by decide) ?_
  refine lv_lstore_n (lv' := [(1, .long (0 : Int64)), (0, .ref (q 15))]) hx hb dX2_key_1 rfl hl (by decide) rfl (fun ls hl => ?_)
  refine lv_iconst (v := 0) hx hb dX2_key_2 (by decide) ?_
  refine lv_istore_n (lv' := [(3, .int (0 : Int32)), (1, .long (0 : Int64)), (0, .ref (q 15))]) hx hb dX2_key_3 rfl hl (by decide) rfl (fun ls hl => ?_)
  have hL4_7 : ∀ (n : Nat) (x1_4 : Int64) (x3_4 : Int32) (y : Int64 × Int32), f_X2_key_4 n c1 x1_4 x3_4 = some y → ∀ (ls : Array Slot) (H : Heap) (locs : List Loc), lv_has ls 4 [(0, .ref (q 15)), (1, .long x1_4), (3, .int x3_4)] → va_P D vwCl (wX dT q rs g bh c1 c2 re pl cl) H → va_S (xA q) s.heap H locs → ∀ Q : State → Prop, (∀ (ls : Array Slot) (H : Heap) (locs : List Loc), lv_has ls 4 [(0, .ref (q 15)), (1, .long y.1), (3, .int y.2)] → va_P D vwCl (wX dT q rs g bh c1 c2 re pl cl) H → va_S (xA q) s.heap H locs → W p l e (rmD 0) s m [.ref (q 15)].toArray below meth c H locs 0 0 Q (F0 m 55 ls [])) → W p l e (rmD 0) s m [.ref (q 15)].toArray below meth c H locs 0 0 Q (F0 m 4 ls []) := by
    intro n
    induction n with
    | zero => intro x1_4 x3_4 y h; exact absurd h (by simp [f_X2_key_4])
    | succ n ih =>
      intro x1_4 x3_4 y h ls H locs hl hP hS Q kk
      rw [f_X2_key_4] at h
      refine lv_iload_n hx hb dX2_key_4 rfl (lv_at hl 2 rfl) ?_
      refine lv_iconst (v := 4) hx hb dX2_key_5 (by decide) ?_
      refine lv_icmp_ge (tgt := 55) hx hb dX2_key_6 (by decide) (fun k1 => ?_) (fun k1 => ?_)
      · rw [if_pos k1] at h
        obtain rfl := Option.some.inj h
        exact kk _ _ _ (lv_sub hl [0, 1, 2] rfl) hP hS
      · rw [if_neg k1] at h
        refine lv_lload_n hx hb dX2_key_9 rfl (lv_at hl 1 rfl) ?_
        refine lv_bipush (v := 10) hx hb dX2_key_10 (by decide) ?_
        refine lv_lshl (v := (x1_4 <<< ((10 : Int32).toInt64 &&& 63))) hx hb dX2_key_12 rfl ?_
        refine lv_aload_n hx hb dX2_key_13 rfl (lv_at hl 0 rfl) ?_
        refine va_get (D := D) (ci := 2) (v := .ref (q 16)) (C := RX2) (T := TX2) (N := 4) hx hb hts (fun w h => sub_z _ (inX2 w h)) hown hK hP 15 rfl rfl 1 (by decide) (hts _ (sub_z _ k_73)) (fun _ h => h) rfl dX2_key_14 ?_
        refine lv_iload_n hx hb dX2_key_17 rfl (lv_at hl 2 rfl) ?_
        obtain ⟨k2, h⟩ := dg h
        refine va_iald (f := c1.1) hx hb hK hP 16 0 rfl rfl (inb_vp k2) dX2_key_18 ?_
        refine lv_iconst (v := 5) hx hb dX2_key_19 (by decide) ?_
        refine lv_ishl hx hb dX2_key_20 ?_
        refine lv_i2l (v := ((c1.1 x3_4.toNatClampNeg) <<< ((5 : Int32) &&& 31)).toInt64) hx hb dX2_key_21 rfl ?_
        refine lv_lor hx hb dX2_key_22 ?_
        refine lv_aload_n hx hb dX2_key_23 rfl (lv_at hl 0 rfl) ?_
        refine va_get (D := D) (ci := 2) (v := .ref (q 17)) (C := RX2) (T := TX2) (N := 4) hx hb hts (fun w h => sub_z _ (inX2 w h)) hown hK hP 15 rfl rfl 2 (by decide) (hts _ (sub_z _ k_74)) (fun _ h => h) rfl dX2_key_24 ?_
        refine lv_iload_n hx hb dX2_key_27 rfl (lv_at hl 2 rfl) ?_
        obtain ⟨k3, h⟩ := dg h
        refine va_zald (f := c1.2.1) hx hb hK hP 17 3 rfl rfl (inb_vp k3) dX2_key_28 ?_
        refine lv_if_eq (tgt := 37) hx hb dX2_key_29 (by decide) (fun k4 => ?_) (fun k4 => ?_)
        · rw [if_pos k4] at h
          refine lv_iconst (v := 0) hx hb dX2_key_37 (by decide) ?_
          refine lv_i2l (v := (0 : Int32).toInt64) hx hb dX2_key_38 rfl ?_
          refine lv_lor hx hb dX2_key_39 ?_
          refine lv_aload_n hx hb dX2_key_40 rfl (lv_at hl 0 rfl) ?_
          refine va_get (D := D) (ci := 2) (v := .ref (q 18)) (C := RX2) (T := TX2) (N := 4) hx hb hts (fun w h => sub_z _ (inX2 w h)) hown hK hP 15 rfl rfl 3 (by decide) (hts _ (sub_z _ k_75)) (fun _ h => h) rfl dX2_key_41 ?_
          refine lv_iload_n hx hb dX2_key_44 rfl (lv_at hl 2 rfl) ?_
          obtain ⟨k5, h⟩ := dg h
          refine va_iald (f := c1.2.2) hx hb hK hP 18 0 rfl rfl (inb_vp k5) dX2_key_45 ?_
          refine lv_i2l (v := (c1.2.2 x3_4.toNatClampNeg).toInt64) hx hb dX2_key_46 rfl ?_
          refine lv_lor hx hb dX2_key_47 ?_
          refine lv_lstore_n (lv' := [(1, .long ((((x1_4 <<< ((10 : Int32).toInt64 &&& 63)) ||| ((c1.1 x3_4.toNatClampNeg) <<< ((5 : Int32) &&& 31)).toInt64) ||| (0 : Int32).toInt64) ||| (c1.2.2 x3_4.toNatClampNeg).toInt64)), (0, .ref (q 15)), (3, .int x3_4)]) hx hb dX2_key_48 rfl hl (by decide) rfl (fun ls hl => ?_)
          refine lv_iinc (v := (x3_4 + (1 : Int32))) (lv' := [(3, .int (x3_4 + (1 : Int32))), (1, .long ((((x1_4 <<< ((10 : Int32).toInt64 &&& 63)) ||| ((c1.1 x3_4.toNatClampNeg) <<< ((5 : Int32) &&& 31)).toInt64) ||| (0 : Int32).toInt64) ||| (c1.2.2 x3_4.toNatClampNeg).toInt64)), (0, .ref (q 15))]) hx hb dX2_key_49 hl (k := 2) rfl rfl (by decide) rfl (fun ls hl => ?_)
          refine lv_goto (tgt := 4) hx hb dX2_key_52 (by decide) ?_
          exact ih _ _ _ h _ _ _ (lv_sub hl [2, 1, 0] rfl) hP hS _ kk
        · rw [if_neg k4] at h
          refine lv_bipush (v := 16) hx hb dX2_key_32 (by decide) ?_
          refine lv_goto (tgt := 38) hx hb dX2_key_34 (by decide) ?_
          refine lv_i2l (v := (16 : Int32).toInt64) hx hb dX2_key_38 rfl ?_
          refine lv_lor hx hb dX2_key_39 ?_
          refine lv_aload_n hx hb dX2_key_40 rfl (lv_at hl 0 rfl) ?_
          refine va_get (D := D) (ci := 2) (v := .ref (q 18)) (C := RX2) (T := TX2) (N := 4) hx hb hts (fun w h => sub_z _ (inX2 w h)) hown hK hP 15 rfl rfl 3 (by decide) (hts _ (sub_z _ k_75)) (fun _ h => h) rfl dX2_key_41 ?_
          refine lv_iload_n hx hb dX2_key_44 rfl (lv_at hl 2 rfl) ?_
          obtain ⟨k6, h⟩ := dg h
          refine va_iald (f := c1.2.2) hx hb hK hP 18 0 rfl rfl (inb_vp k6) dX2_key_45 ?_
          refine lv_i2l (v := (c1.2.2 x3_4.toNatClampNeg).toInt64) hx hb dX2_key_46 rfl ?_
          refine lv_lor hx hb dX2_key_47 ?_
          refine lv_lstore_n (lv' := [(1, .long ((((x1_4 <<< ((10 : Int32).toInt64 &&& 63)) ||| ((c1.1 x3_4.toNatClampNeg) <<< ((5 : Int32) &&& 31)).toInt64) ||| (16 : Int32).toInt64) ||| (c1.2.2 x3_4.toNatClampNeg).toInt64)), (0, .ref (q 15)), (3, .int x3_4)]) hx hb dX2_key_48 rfl hl (by decide) rfl (fun ls hl => ?_)
          refine lv_iinc (v := (x3_4 + (1 : Int32))) (lv' := [(3, .int (x3_4 + (1 : Int32))), (1, .long ((((x1_4 <<< ((10 : Int32).toInt64 &&& 63)) ||| ((c1.1 x3_4.toNatClampNeg) <<< ((5 : Int32) &&& 31)).toInt64) ||| (16 : Int32).toInt64) ||| (c1.2.2 x3_4.toNatClampNeg).toInt64)), (0, .ref (q 15))]) hx hb dX2_key_49 hl (k := 2) rfl rfl (by decide) rfl (fun ls hl => ?_)
          refine lv_goto (tgt := 4) hx hb dX2_key_52 (by decide) ?_
          exact ih _ _ _ h _ _ _ (lv_sub hl [2, 1, 0] rfl) hP hS _ kk
  obtain ⟨y8, hy8, h⟩ := dq h
  refine hL4_7 _ _ _ _ hy8 _ _ _ (lv_sub hl [2, 1, 0] rfl) hP hS _ (fun ls H locs hl hP hS => ?_)
  refine lv_lload_n hx hb dX2_key_55 rfl (lv_at hl 1 rfl) ?_
  obtain rfl := Option.some.inj h
  exact rL hx hb hr hlk hK hP hS dX2_key_56

set_option maxRecDepth 100000 in
set_option maxHeartbeats 4000000 in
theorem c_X2_key_2 {l : Launch} {D : va_G} {dT : Nat → ClassId} {q : Nat → Nat} (hD : xD q) {rs : (Nat → tRow)} {g : tG_} {bh : tBH} {c1 : tC} {c2 : tC} {re : tRE} {pl : tPL} {cl : tCL}  {v : Int64} (h : f_X2_key c2 = some v) : MG l yX2_key cX2_key 4 (some .long) 0 [.ref (q 23)] D (tyL dT) (wX dT q rs g bh c1 c2 re pl cl) (QL D (tyL dT) (xA q) (wX dT q rs g bh c1 c2 re pl cl) v) (xA q) := by
  refine MG.mk (by decide +kernel) (Nat.le_of_ble_eq_true rfl) ?_
  intro p e s m below meth c hx hb hr hml hown hts hlk hK hP ls hl
  have hown : s.vm.findClass RX2 = some m.cls := hown
  have hS : va_S (xA q) s.heap s.heap [] := va_S.rf
  have hl : lv_has ls 4 [(0, .ref (q 23))] := hl
  rw [f_X2_key] at h
  refine lv_lconst (v := 0) hx hb dX2_key_0 (by decide) ?_
  refine lv_lstore_n (lv' := [(1, .long (0 : Int64)), (0, .ref (q 23))]) hx hb dX2_key_1 rfl hl (by decide) rfl (fun ls hl => ?_)
  refine lv_iconst (v := 0) hx hb dX2_key_2 (by decide) ?_
  refine lv_istore_n (lv' := [(3, .int (0 : Int32)), (1, .long (0 : Int64)), (0, .ref (q 23))]) hx hb dX2_key_3 rfl hl (by decide) rfl (fun ls hl => ?_)
  have hL4_7 : ∀ (n : Nat) (x1_4 : Int64) (x3_4 : Int32) (y : Int64 × Int32), f_X2_key_4 n c2 x1_4 x3_4 = some y → ∀ (ls : Array Slot) (H : Heap) (locs : List Loc), lv_has ls 4 [(0, .ref (q 23)), (1, .long x1_4), (3, .int x3_4)] → va_P D vwCl (wX dT q rs g bh c1 c2 re pl cl) H → va_S (xA q) s.heap H locs → ∀ Q : State → Prop, (∀ (ls : Array Slot) (H : Heap) (locs : List Loc), lv_has ls 4 [(0, .ref (q 23)), (1, .long y.1), (3, .int y.2)] → va_P D vwCl (wX dT q rs g bh c1 c2 re pl cl) H → va_S (xA q) s.heap H locs → W p l e (rmD 0) s m [.ref (q 23)].toArray below meth c H locs 0 0 Q (F0 m 55 ls [])) → W p l e (rmD 0) s m [.ref (q 23)].toArray below meth c H locs 0 0 Q (F0 m 4 ls []) := by
    intro n
    induction n with
    | zero => intro x1_4 x3_4 y h; exact absurd h (by simp [f_X2_key_4])
    | succ n ih =>
      intro x1_4 x3_4 y h ls H locs hl hP hS Q kk
      rw [f_X2_key_4] at h
      refine lv_iload_n hx hb dX2_key_4 rfl (lv_at hl 2 rfl) ?_
      refine lv_iconst (v := 4) hx hb dX2_key_5 (by decide) ?_
      refine lv_icmp_ge (tgt := 55) hx hb dX2_key_6 (by decide) (fun k1 => ?_) (fun k1 => ?_)
      · rw [if_pos k1] at h
        obtain rfl := Option.some.inj h
        exact kk _ _ _ (lv_sub hl [0, 1, 2] rfl) hP hS
      · rw [if_neg k1] at h
        refine lv_lload_n hx hb dX2_key_9 rfl (lv_at hl 1 rfl) ?_
        refine lv_bipush (v := 10) hx hb dX2_key_10 (by decide) ?_
        refine lv_lshl (v := (x1_4 <<< ((10 : Int32).toInt64 &&& 63))) hx hb dX2_key_12 rfl ?_
        refine lv_aload_n hx hb dX2_key_13 rfl (lv_at hl 0 rfl) ?_
        refine va_get (D := D) (ci := 2) (v := .ref (q 24)) (C := RX2) (T := TX2) (N := 4) hx hb hts (fun w h => sub_z _ (inX2 w h)) hown hK hP 23 rfl rfl 1 (by decide) (hts _ (sub_z _ k_73)) (fun _ h => h) rfl dX2_key_14 ?_
        refine lv_iload_n hx hb dX2_key_17 rfl (lv_at hl 2 rfl) ?_
        obtain ⟨k2, h⟩ := dg h
        refine va_iald (f := c2.1) hx hb hK hP 24 0 rfl rfl (inb_vp k2) dX2_key_18 ?_
        refine lv_iconst (v := 5) hx hb dX2_key_19 (by decide) ?_
        refine lv_ishl hx hb dX2_key_20 ?_
        refine lv_i2l (v := ((c2.1 x3_4.toNatClampNeg) <<< ((5 : Int32) &&& 31)).toInt64) hx hb dX2_key_21 rfl ?_
        refine lv_lor hx hb dX2_key_22 ?_
        refine lv_aload_n hx hb dX2_key_23 rfl (lv_at hl 0 rfl) ?_
        refine va_get (D := D) (ci := 2) (v := .ref (q 25)) (C := RX2) (T := TX2) (N := 4) hx hb hts (fun w h => sub_z _ (inX2 w h)) hown hK hP 23 rfl rfl 2 (by decide) (hts _ (sub_z _ k_74)) (fun _ h => h) rfl dX2_key_24 ?_
        refine lv_iload_n hx hb dX2_key_27 rfl (lv_at hl 2 rfl) ?_
        obtain ⟨k3, h⟩ := dg h
        refine va_zald (f := c2.2.1) hx hb hK hP 25 3 rfl rfl (inb_vp k3) dX2_key_28 ?_
        refine lv_if_eq (tgt := 37) hx hb dX2_key_29 (by decide) (fun k4 => ?_) (fun k4 => ?_)
        · rw [if_pos k4] at h
          refine lv_iconst (v := 0) hx hb dX2_key_37 (by decide) ?_
          refine lv_i2l (v := (0 : Int32).toInt64) hx hb dX2_key_38 rfl ?_
          refine lv_lor hx hb dX2_key_39 ?_
          refine lv_aload_n hx hb dX2_key_40 rfl (lv_at hl 0 rfl) ?_
          refine va_get (D := D) (ci := 2) (v := .ref (q 26)) (C := RX2) (T := TX2) (N := 4) hx hb hts (fun w h => sub_z _ (inX2 w h)) hown hK hP 23 rfl rfl 3 (by decide) (hts _ (sub_z _ k_75)) (fun _ h => h) rfl dX2_key_41 ?_
          refine lv_iload_n hx hb dX2_key_44 rfl (lv_at hl 2 rfl) ?_
          obtain ⟨k5, h⟩ := dg h
          refine va_iald (f := c2.2.2) hx hb hK hP 26 0 rfl rfl (inb_vp k5) dX2_key_45 ?_
          refine lv_i2l (v := (c2.2.2 x3_4.toNatClampNeg).toInt64) hx hb dX2_key_46 rfl ?_
          refine lv_lor hx hb dX2_key_47 ?_
          refine lv_lstore_n (lv' := [(1, .long ((((x1_4 <<< ((10 : Int32).toInt64 &&& 63)) ||| ((c2.1 x3_4.toNatClampNeg) <<< ((5 : Int32) &&& 31)).toInt64) ||| (0 : Int32).toInt64) ||| (c2.2.2 x3_4.toNatClampNeg).toInt64)), (0, .ref (q 23)), (3, .int x3_4)]) hx hb dX2_key_48 rfl hl (by decide) rfl (fun ls hl => ?_)
          refine lv_iinc (v := (x3_4 + (1 : Int32))) (lv' := [(3, .int (x3_4 + (1 : Int32))), (1, .long ((((x1_4 <<< ((10 : Int32).toInt64 &&& 63)) ||| ((c2.1 x3_4.toNatClampNeg) <<< ((5 : Int32) &&& 31)).toInt64) ||| (0 : Int32).toInt64) ||| (c2.2.2 x3_4.toNatClampNeg).toInt64)), (0, .ref (q 23))]) hx hb dX2_key_49 hl (k := 2) rfl rfl (by decide) rfl (fun ls hl => ?_)
          refine lv_goto (tgt := 4) hx hb dX2_key_52 (by decide) ?_
          exact ih _ _ _ h _ _ _ (lv_sub hl [2, 1, 0] rfl) hP hS _ kk
        · rw [if_neg k4] at h
          refine lv_bipush (v := 16) hx hb dX2_key_32 (by decide) ?_
          refine lv_goto (tgt := 38) hx hb dX2_key_34 (by decide) ?_
          refine lv_i2l (v := (16 : Int32).toInt64) hx hb dX2_key_38 rfl ?_
          refine lv_lor hx hb dX2_key_39 ?_
          refine lv_aload_n hx hb dX2_key_40 rfl (lv_at hl 0 rfl) ?_
          refine va_get (D := D) (ci := 2) (v := .ref (q 26)) (C := RX2) (T := TX2) (N := 4) hx hb hts (fun w h => sub_z _ (inX2 w h)) hown hK hP 23 rfl rfl 3 (by decide) (hts _ (sub_z _ k_75)) (fun _ h => h) rfl dX2_key_41 ?_
          refine lv_iload_n hx hb dX2_key_44 rfl (lv_at hl 2 rfl) ?_
          obtain ⟨k6, h⟩ := dg h
          refine va_iald (f := c2.2.2) hx hb hK hP 26 0 rfl rfl (inb_vp k6) dX2_key_45 ?_
          refine lv_i2l (v := (c2.2.2 x3_4.toNatClampNeg).toInt64) hx hb dX2_key_46 rfl ?_
          refine lv_lor hx hb dX2_key_47 ?_
          refine lv_lstore_n (lv' := [(1, .long ((((x1_4 <<< ((10 : Int32).toInt64 &&& 63)) ||| ((c2.1 x3_4.toNatClampNeg) <<< ((5 : Int32) &&& 31)).toInt64) ||| (16 : Int32).toInt64) ||| (c2.2.2 x3_4.toNatClampNeg).toInt64)), (0, .ref (q 23)), (3, .int x3_4)]) hx hb dX2_key_48 rfl hl (by decide) rfl (fun ls hl => ?_)
          refine lv_iinc (v := (x3_4 + (1 : Int32))) (lv' := [(3, .int (x3_4 + (1 : Int32))), (1, .long ((((x1_4 <<< ((10 : Int32).toInt64 &&& 63)) ||| ((c2.1 x3_4.toNatClampNeg) <<< ((5 : Int32) &&& 31)).toInt64) ||| (16 : Int32).toInt64) ||| (c2.2.2 x3_4.toNatClampNeg).toInt64)), (0, .ref (q 23))]) hx hb dX2_key_49 hl (k := 2) rfl rfl (by decide) rfl (fun ls hl => ?_)
          refine lv_goto (tgt := 4) hx hb dX2_key_52 (by decide) ?_
          exact ih _ _ _ h _ _ _ (lv_sub hl [2, 1, 0] rfl) hP hS _ kk
  obtain ⟨y8, hy8, h⟩ := dq h
  refine hL4_7 _ _ _ _ hy8 _ _ _ (lv_sub hl [2, 1, 0] rfl) hP hS _ (fun ls H locs hl hP hS => ?_)
  refine lv_lload_n hx hb dX2_key_55 rfl (lv_at hl 1 rfl) ?_
  obtain rfl := Option.some.inj h
  exact rL hx hb hr hlk hK hP hS dX2_key_56

set_option maxRecDepth 100000 in
set_option maxHeartbeats 4000000 in
theorem c_X2_take_1 {l : Launch} {D : va_G} {dT : Nat → ClassId} {q : Nat → Nat} (hD : xD q) {rs : (Nat → tRow)} {g : tG_} {bh : tBH} {c1 : tC} {c2 : tC} {re : tRE} {pl : tPL} {cl : tCL} {a1 : Int64} {v : tC} (h : f_X2_take c1 a1 = some v) : MG l yX2_take cX2_take 7 none 0 [.ref (q 15), .long a1] D (tyL dT) (wX dT q rs g bh c1 c2 re pl cl) (QV D (tyL dT) (xA q) (wX dT q rs g bh v c2 re pl cl)) (xA q) := by
  refine MG.mk (by decide +kernel) (Nat.le_of_ble_eq_true rfl) ?_
  intro p e s m below meth c hx hb hr hml hown hts hlk hK hP ls hl
  have hown : s.vm.findClass RX2 = some m.cls := hown
  have hS : va_S (xA q) s.heap s.heap [] := va_S.rf
  have hl : lv_has ls 7 [(0, .ref (q 15)), (1, .long a1)] := hl
  rw [f_X2_take] at h
  refine lv_lload_n hx hb dX2_take_0 rfl (lv_at hl 1 rfl) ?_
  refine lv_lstore_n (lv' := [(3, .long a1), (0, .ref (q 15)), (1, .long a1)]) hx hb dX2_take_1 rfl hl (by decide) rfl (fun ls hl => ?_)
  refine lv_iconst (v := 3) hx hb dX2_take_2 (by decide) ?_
  refine lv_istore (lv' := [(5, .int (3 : Int32)), (3, .long a1), (0, .ref (q 15)), (1, .long a1)]) hx hb dX2_take_3 hl (by decide) rfl (fun ls hl => ?_)
  have hL5_8 : ∀ (n : Nat) (c1_5 : tC) (x3_5 : Int64) (x5_5 : Int32) (y : Int64 × Int32 × tC), f_X2_take_5 n c1_5 a1 x3_5 x5_5 = some y → ∀ (ls : Array Slot) (H : Heap) (locs : List Loc), lv_has ls 7 [(0, .ref (q 15)), (1, .long a1), (3, .long x3_5), (5, .int x5_5)] → va_P D vwCl (wX dT q rs g bh c1_5 c2 re pl cl) H → va_S (xA q) s.heap H locs → ∀ Q : State → Prop, (∀ (ls : Array Slot) (H : Heap) (locs : List Loc), lv_has ls 7 [(0, .ref (q 15)), (1, .long a1), (3, .long y.1), (5, .int y.2.1)] → va_P D vwCl (wX dT q rs g bh y.2.2 c2 re pl cl) H → va_S (xA q) s.heap H locs → W p l e (rmD 0) s m [.ref (q 15), .long a1].toArray below meth c H locs 0 0 Q (F0 m 71 ls [])) → W p l e (rmD 0) s m [.ref (q 15), .long a1].toArray below meth c H locs 0 0 Q (F0 m 5 ls []) := by
    intro n
    induction n with
    | zero => intro c1_5 x3_5 x5_5 y h; exact absurd h (by simp [f_X2_take_5])
    | succ n ih =>
      intro c1_5 x3_5 x5_5 y h ls H locs hl hP hS Q kk
      rw [f_X2_take_5] at h
      refine lv_iload hx hb dX2_take_5 (lv_at hl 3 rfl) ?_
      refine lv_if_lt (tgt := 71) hx hb dX2_take_7 (by decide) (fun k1 => ?_) (fun k1 => ?_)
      · rw [if_pos k1] at h
        obtain rfl := Option.some.inj h
        exact kk _ _ _ (lv_sub hl [0, 1, 2, 3] rfl) hP hS
      · rw [if_neg k1] at h
        refine lv_lload_n hx hb dX2_take_10 rfl (lv_at hl 2 rfl) ?_
        refine lv_l2i (v := x3_5.toInt32) hx hb dX2_take_11 rfl ?_
        refine lv_istore (lv' := [(6, .int x3_5.toInt32), (0, .ref (q 15)), (1, .long a1), (3, .long x3_5), (5, .int x5_5)]) hx hb dX2_take_12 hl (by decide) rfl (fun ls hl => ?_)
        refine lv_aload_n hx hb dX2_take_14 rfl (lv_at hl 1 rfl) ?_
        refine va_get (D := D) (ci := 2) (v := .ref (q 16)) (C := RX2) (T := TX2) (N := 4) hx hb hts (fun w h => sub_z _ (inX2 w h)) hown hK hP 15 rfl rfl 1 (by decide) (hts _ (sub_z _ k_73)) (fun _ h => h) rfl dX2_take_15 ?_
        refine lv_iload hx hb dX2_take_18 (lv_at hl 4 rfl) ?_
        refine lv_iload hx hb dX2_take_20 (lv_at hl 0 rfl) ?_
        refine lv_iconst (v := 5) hx hb dX2_take_22 (by decide) ?_
        refine lv_ishr hx hb dX2_take_23 ?_
        refine lv_bipush (v := 31) hx hb dX2_take_24 (by decide) ?_
        refine lv_iand hx hb dX2_take_26 ?_
        obtain ⟨k2, h⟩ := dg h
        refine va_iast (f := c1_5.1) hx hb hK hP (xD.w hD) hS 16 0 rfl rfl (inb_vp k2) dX2_take_27 (fun H locs hP _ hS => ?_)
        have hP : va_P D vwCl (wX dT q rs g bh ((upd c1_5.1 x5_5.toNatClampNeg ((x3_5.toInt32 >>> ((5 : Int32) &&& 31)) &&& (31 : Int32))), c1_5.2.1, c1_5.2.2) c2 re pl cl) H := hP
        refine lv_aload_n hx hb dX2_take_28 rfl (lv_at hl 1 rfl) ?_
        refine va_get (D := D) (ci := 2) (v := .ref (q 17)) (C := RX2) (T := TX2) (N := 4) hx hb hts (fun w h => sub_z _ (inX2 w h)) hown hK hP 15 rfl rfl 2 (by decide) (hts _ (sub_z _ k_74)) (fun _ h => h) rfl dX2_take_29 ?_
        refine lv_iload hx hb dX2_take_32 (lv_at hl 4 rfl) ?_
        refine lv_iload hx hb dX2_take_34 (lv_at hl 0 rfl) ?_
        refine lv_bipush (v := 16) hx hb dX2_take_36 (by decide) ?_
        refine lv_iand hx hb dX2_take_38 ?_
        refine lv_if_eq (tgt := 46) hx hb dX2_take_39 (by decide) (fun k3 => ?_) (fun k3 => ?_)
        · rw [if_pos k3] at h
          refine lv_iconst (v := 0) hx hb dX2_take_46 (by decide) ?_
          obtain ⟨k4, h⟩ := dg h
          refine va_zast (f := c1_5.2.1) hx hb hK hP (xD.w hD) hS 17 3 rfl rfl (inb_vp k4) dX2_take_47 (fun H locs hP _ hS => ?_)
          have hP : va_P D vwCl (wX dT q rs g bh ((upd c1_5.1 x5_5.toNatClampNeg ((x3_5.toInt32 >>> ((5 : Int32) &&& 31)) &&& (31 : Int32))), (upd c1_5.2.1 x5_5.toNatClampNeg (vp_nar .boolean (0 : Int32))), c1_5.2.2) c2 re pl cl) H := hP
          refine lv_aload_n hx hb dX2_take_48 rfl (lv_at hl 1 rfl) ?_
          refine va_get (D := D) (ci := 2) (v := .ref (q 18)) (C := RX2) (T := TX2) (N := 4) hx hb hts (fun w h => sub_z _ (inX2 w h)) hown hK hP 15 rfl rfl 3 (by decide) (hts _ (sub_z _ k_75)) (fun _ h => h) rfl dX2_take_49 ?_
          refine lv_iload hx hb dX2_take_52 (lv_at hl 4 rfl) ?_
          refine lv_iload hx hb dX2_take_54 (lv_at hl 0 rfl) ?_
          refine lv_bipush (v := 15) hx hb dX2_take_56 (by decide) ?_
          refine lv_iand hx hb dX2_take_58 ?_
          obtain ⟨k5, h⟩ := dg h
          refine va_iast (f := c1_5.2.2) hx hb hK hP (xD.w hD) hS 18 0 rfl rfl (inb_vp k5) dX2_take_59 (fun H locs hP _ hS => ?_)
          have hP : va_P D vwCl (wX dT q rs g bh ((upd c1_5.1 x5_5.toNatClampNeg ((x3_5.toInt32 >>> ((5 : Int32) &&& 31)) &&& (31 : Int32))), (upd c1_5.2.1 x5_5.toNatClampNeg (vp_nar .boolean (0 : Int32))), (upd c1_5.2.2 x5_5.toNatClampNeg (x3_5.toInt32 &&& (15 : Int32)))) c2 re pl cl) H := hP
          refine lv_lload_n hx hb dX2_take_60 rfl (lv_at hl 3 rfl) ?_
          refine lv_bipush (v := 10) hx hb dX2_take_61 (by decide) ?_
          refine lv_lshr (v := (x3_5 >>> ((10 : Int32).toInt64 &&& 63))) hx hb dX2_take_63 rfl ?_
          refine lv_lstore_n (lv' := [(3, .long (x3_5 >>> ((10 : Int32).toInt64 &&& 63))), (6, .int x3_5.toInt32), (0, .ref (q 15)), (1, .long a1), (5, .int x5_5)]) hx hb dX2_take_64 rfl hl (by decide) rfl (fun ls hl => ?_)
          refine lv_iinc (v := (x5_5 + (-1 : Int32))) (lv' := [(5, .int (x5_5 + (-1 : Int32))), (3, .long (x3_5 >>> ((10 : Int32).toInt64 &&& 63))), (6, .int x3_5.toInt32), (0, .ref (q 15)), (1, .long a1)]) hx hb dX2_take_65 hl (k := 4) rfl rfl (by decide) rfl (fun ls hl => ?_)
          refine lv_goto (tgt := 5) hx hb dX2_take_68 (by decide) ?_
          exact ih _ _ _ _ h _ _ _ (lv_sub hl [3, 4, 1, 0] rfl) hP hS _ kk
        · rw [if_neg k3] at h
          refine lv_iconst (v := 1) hx hb dX2_take_42 (by decide) ?_
          refine lv_goto (tgt := 47) hx hb dX2_take_43 (by decide) ?_
          obtain ⟨k6, h⟩ := dg h
          refine va_zast (f := c1_5.2.1) hx hb hK hP (xD.w hD) hS 17 3 rfl rfl (inb_vp k6) dX2_take_47 (fun H locs hP _ hS => ?_)
          have hP : va_P D vwCl (wX dT q rs g bh ((upd c1_5.1 x5_5.toNatClampNeg ((x3_5.toInt32 >>> ((5 : Int32) &&& 31)) &&& (31 : Int32))), (upd c1_5.2.1 x5_5.toNatClampNeg (vp_nar .boolean (1 : Int32))), c1_5.2.2) c2 re pl cl) H := hP
          refine lv_aload_n hx hb dX2_take_48 rfl (lv_at hl 1 rfl) ?_
          refine va_get (D := D) (ci := 2) (v := .ref (q 18)) (C := RX2) (T := TX2) (N := 4) hx hb hts (fun w h => sub_z _ (inX2 w h)) hown hK hP 15 rfl rfl 3 (by decide) (hts _ (sub_z _ k_75)) (fun _ h => h) rfl dX2_take_49 ?_
          refine lv_iload hx hb dX2_take_52 (lv_at hl 4 rfl) ?_
          refine lv_iload hx hb dX2_take_54 (lv_at hl 0 rfl) ?_
          refine lv_bipush (v := 15) hx hb dX2_take_56 (by decide) ?_
          refine lv_iand hx hb dX2_take_58 ?_
          obtain ⟨k7, h⟩ := dg h
          refine va_iast (f := c1_5.2.2) hx hb hK hP (xD.w hD) hS 18 0 rfl rfl (inb_vp k7) dX2_take_59 (fun H locs hP _ hS => ?_)
          have hP : va_P D vwCl (wX dT q rs g bh ((upd c1_5.1 x5_5.toNatClampNeg ((x3_5.toInt32 >>> ((5 : Int32) &&& 31)) &&& (31 : Int32))), (upd c1_5.2.1 x5_5.toNatClampNeg (vp_nar .boolean (1 : Int32))), (upd c1_5.2.2 x5_5.toNatClampNeg (x3_5.toInt32 &&& (15 : Int32)))) c2 re pl cl) H := hP
          refine lv_lload_n hx hb dX2_take_60 rfl (lv_at hl 3 rfl) ?_
          refine lv_bipush (v := 10) hx hb dX2_take_61 (by decide) ?_
          refine lv_lshr (v := (x3_5 >>> ((10 : Int32).toInt64 &&& 63))) hx hb dX2_take_63 rfl ?_
          refine lv_lstore_n (lv' := [(3, .long (x3_5 >>> ((10 : Int32).toInt64 &&& 63))), (6, .int x3_5.toInt32), (0, .ref (q 15)), (1, .long a1), (5, .int x5_5)]) hx hb dX2_take_64 rfl hl (by decide) rfl (fun ls hl => ?_)
          refine lv_iinc (v := (x5_5 + (-1 : Int32))) (lv' := [(5, .int (x5_5 + (-1 : Int32))), (3, .long (x3_5 >>> ((10 : Int32).toInt64 &&& 63))), (6, .int x3_5.toInt32), (0, .ref (q 15)), (1, .long a1)]) hx hb dX2_take_65 hl (k := 4) rfl rfl (by decide) rfl (fun ls hl => ?_)
          refine lv_goto (tgt := 5) hx hb dX2_take_68 (by decide) ?_
          exact ih _ _ _ _ h _ _ _ (lv_sub hl [3, 4, 1, 0] rfl) hP hS _ kk
  obtain ⟨y9, hy9, h⟩ := dq h
  refine hL5_8 _ _ _ _ _ hy9 _ _ _ (lv_sub hl [2, 3, 1, 0] rfl) hP hS _ (fun ls H locs hl hP hS => ?_)
  obtain rfl := Option.some.inj h
  exact rV hx hb hr hlk hK hP hS dX2_take_71

set_option maxRecDepth 100000 in
set_option maxHeartbeats 4000000 in
theorem c_X2_take_2 {l : Launch} {D : va_G} {dT : Nat → ClassId} {q : Nat → Nat} (hD : xD q) {rs : (Nat → tRow)} {g : tG_} {bh : tBH} {c1 : tC} {c2 : tC} {re : tRE} {pl : tPL} {cl : tCL} {a1 : Int64} {v : tC} (h : f_X2_take c2 a1 = some v) : MG l yX2_take cX2_take 7 none 0 [.ref (q 23), .long a1] D (tyL dT) (wX dT q rs g bh c1 c2 re pl cl) (QV D (tyL dT) (xA q) (wX dT q rs g bh c1 v re pl cl)) (xA q) := by
  refine MG.mk (by decide +kernel) (Nat.le_of_ble_eq_true rfl) ?_
  intro p e s m below meth c hx hb hr hml hown hts hlk hK hP ls hl
  have hown : s.vm.findClass RX2 = some m.cls := hown
  have hS : va_S (xA q) s.heap s.heap [] := va_S.rf
  have hl : lv_has ls 7 [(0, .ref (q 23)), (1, .long a1)] := hl
  rw [f_X2_take] at h
  refine lv_lload_n hx hb dX2_take_0 rfl (lv_at hl 1 rfl) ?_
  refine lv_lstore_n (lv' := [(3, .long a1), (0, .ref (q 23)), (1, .long a1)]) hx hb dX2_take_1 rfl hl (by decide) rfl (fun ls hl => ?_)
  refine lv_iconst (v := 3) hx hb dX2_take_2 (by decide) ?_
  refine lv_istore (lv' := [(5, .int (3 : Int32)), (3, .long a1), (0, .ref (q 23)), (1, .long a1)]) hx hb dX2_take_3 hl (by decide) rfl (fun ls hl => ?_)
  have hL5_8 : ∀ (n : Nat) (c2_5 : tC) (x3_5 : Int64) (x5_5 : Int32) (y : Int64 × Int32 × tC), f_X2_take_5 n c2_5 a1 x3_5 x5_5 = some y → ∀ (ls : Array Slot) (H : Heap) (locs : List Loc), lv_has ls 7 [(0, .ref (q 23)), (1, .long a1), (3, .long x3_5), (5, .int x5_5)] → va_P D vwCl (wX dT q rs g bh c1 c2_5 re pl cl) H → va_S (xA q) s.heap H locs → ∀ Q : State → Prop, (∀ (ls : Array Slot) (H : Heap) (locs : List Loc), lv_has ls 7 [(0, .ref (q 23)), (1, .long a1), (3, .long y.1), (5, .int y.2.1)] → va_P D vwCl (wX dT q rs g bh c1 y.2.2 re pl cl) H → va_S (xA q) s.heap H locs → W p l e (rmD 0) s m [.ref (q 23), .long a1].toArray below meth c H locs 0 0 Q (F0 m 71 ls [])) → W p l e (rmD 0) s m [.ref (q 23), .long a1].toArray below meth c H locs 0 0 Q (F0 m 5 ls []) := by
    intro n
    induction n with
    | zero => intro c2_5 x3_5 x5_5 y h; exact absurd h (by simp [f_X2_take_5])
    | succ n ih =>
      intro c2_5 x3_5 x5_5 y h ls H locs hl hP hS Q kk
      rw [f_X2_take_5] at h
      refine lv_iload hx hb dX2_take_5 (lv_at hl 3 rfl) ?_
      refine lv_if_lt (tgt := 71) hx hb dX2_take_7 (by decide) (fun k1 => ?_) (fun k1 => ?_)
      · rw [if_pos k1] at h
        obtain rfl := Option.some.inj h
        exact kk _ _ _ (lv_sub hl [0, 1, 2, 3] rfl) hP hS
      · rw [if_neg k1] at h
        refine lv_lload_n hx hb dX2_take_10 rfl (lv_at hl 2 rfl) ?_
        refine lv_l2i (v := x3_5.toInt32) hx hb dX2_take_11 rfl ?_
        refine lv_istore (lv' := [(6, .int x3_5.toInt32), (0, .ref (q 23)), (1, .long a1), (3, .long x3_5), (5, .int x5_5)]) hx hb dX2_take_12 hl (by decide) rfl (fun ls hl => ?_)
        refine lv_aload_n hx hb dX2_take_14 rfl (lv_at hl 1 rfl) ?_
        refine va_get (D := D) (ci := 2) (v := .ref (q 24)) (C := RX2) (T := TX2) (N := 4) hx hb hts (fun w h => sub_z _ (inX2 w h)) hown hK hP 23 rfl rfl 1 (by decide) (hts _ (sub_z _ k_73)) (fun _ h => h) rfl dX2_take_15 ?_
        refine lv_iload hx hb dX2_take_18 (lv_at hl 4 rfl) ?_
        refine lv_iload hx hb dX2_take_20 (lv_at hl 0 rfl) ?_
        refine lv_iconst (v := 5) hx hb dX2_take_22 (by decide) ?_
        refine lv_ishr hx hb dX2_take_23 ?_
        refine lv_bipush (v := 31) hx hb dX2_take_24 (by decide) ?_
        refine lv_iand hx hb dX2_take_26 ?_
        obtain ⟨k2, h⟩ := dg h
        refine va_iast (f := c2_5.1) hx hb hK hP (xD.w hD) hS 24 0 rfl rfl (inb_vp k2) dX2_take_27 (fun H locs hP _ hS => ?_)
        have hP : va_P D vwCl (wX dT q rs g bh c1 ((upd c2_5.1 x5_5.toNatClampNeg ((x3_5.toInt32 >>> ((5 : Int32) &&& 31)) &&& (31 : Int32))), c2_5.2.1, c2_5.2.2) re pl cl) H := hP
        refine lv_aload_n hx hb dX2_take_28 rfl (lv_at hl 1 rfl) ?_
        refine va_get (D := D) (ci := 2) (v := .ref (q 25)) (C := RX2) (T := TX2) (N := 4) hx hb hts (fun w h => sub_z _ (inX2 w h)) hown hK hP 23 rfl rfl 2 (by decide) (hts _ (sub_z _ k_74)) (fun _ h => h) rfl dX2_take_29 ?_
        refine lv_iload hx hb dX2_take_32 (lv_at hl 4 rfl) ?_
        refine lv_iload hx hb dX2_take_34 (lv_at hl 0 rfl) ?_
        refine lv_bipush (v := 16) hx hb dX2_take_36 (by decide) ?_
        refine lv_iand hx hb dX2_take_38 ?_
        refine lv_if_eq (tgt := 46) hx hb dX2_take_39 (by decide) (fun k3 => ?_) (fun k3 => ?_)
        · rw [if_pos k3] at h
          refine lv_iconst (v := 0) hx hb dX2_take_46 (by decide) ?_
          obtain ⟨k4, h⟩ := dg h
          refine va_zast (f := c2_5.2.1) hx hb hK hP (xD.w hD) hS 25 3 rfl rfl (inb_vp k4) dX2_take_47 (fun H locs hP _ hS => ?_)
          have hP : va_P D vwCl (wX dT q rs g bh c1 ((upd c2_5.1 x5_5.toNatClampNeg ((x3_5.toInt32 >>> ((5 : Int32) &&& 31)) &&& (31 : Int32))), (upd c2_5.2.1 x5_5.toNatClampNeg (vp_nar .boolean (0 : Int32))), c2_5.2.2) re pl cl) H := hP
          refine lv_aload_n hx hb dX2_take_48 rfl (lv_at hl 1 rfl) ?_
          refine va_get (D := D) (ci := 2) (v := .ref (q 26)) (C := RX2) (T := TX2) (N := 4) hx hb hts (fun w h => sub_z _ (inX2 w h)) hown hK hP 23 rfl rfl 3 (by decide) (hts _ (sub_z _ k_75)) (fun _ h => h) rfl dX2_take_49 ?_
          refine lv_iload hx hb dX2_take_52 (lv_at hl 4 rfl) ?_
          refine lv_iload hx hb dX2_take_54 (lv_at hl 0 rfl) ?_
          refine lv_bipush (v := 15) hx hb dX2_take_56 (by decide) ?_
          refine lv_iand hx hb dX2_take_58 ?_
          obtain ⟨k5, h⟩ := dg h
          refine va_iast (f := c2_5.2.2) hx hb hK hP (xD.w hD) hS 26 0 rfl rfl (inb_vp k5) dX2_take_59 (fun H locs hP _ hS => ?_)
          have hP : va_P D vwCl (wX dT q rs g bh c1 ((upd c2_5.1 x5_5.toNatClampNeg ((x3_5.toInt32 >>> ((5 : Int32) &&& 31)) &&& (31 : Int32))), (upd c2_5.2.1 x5_5.toNatClampNeg (vp_nar .boolean (0 : Int32))), (upd c2_5.2.2 x5_5.toNatClampNeg (x3_5.toInt32 &&& (15 : Int32)))) re pl cl) H := hP
          refine lv_lload_n hx hb dX2_take_60 rfl (lv_at hl 3 rfl) ?_
          refine lv_bipush (v := 10) hx hb dX2_take_61 (by decide) ?_
          refine lv_lshr (v := (x3_5 >>> ((10 : Int32).toInt64 &&& 63))) hx hb dX2_take_63 rfl ?_
          refine lv_lstore_n (lv' := [(3, .long (x3_5 >>> ((10 : Int32).toInt64 &&& 63))), (6, .int x3_5.toInt32), (0, .ref (q 23)), (1, .long a1), (5, .int x5_5)]) hx hb dX2_take_64 rfl hl (by decide) rfl (fun ls hl => ?_)
          refine lv_iinc (v := (x5_5 + (-1 : Int32))) (lv' := [(5, .int (x5_5 + (-1 : Int32))), (3, .long (x3_5 >>> ((10 : Int32).toInt64 &&& 63))), (6, .int x3_5.toInt32), (0, .ref (q 23)), (1, .long a1)]) hx hb dX2_take_65 hl (k := 4) rfl rfl (by decide) rfl (fun ls hl => ?_)
          refine lv_goto (tgt := 5) hx hb dX2_take_68 (by decide) ?_
          exact ih _ _ _ _ h _ _ _ (lv_sub hl [3, 4, 1, 0] rfl) hP hS _ kk
        · rw [if_neg k3] at h
          refine lv_iconst (v := 1) hx hb dX2_take_42 (by decide) ?_
          refine lv_goto (tgt := 47) hx hb dX2_take_43 (by decide) ?_
          obtain ⟨k6, h⟩ := dg h
          refine va_zast (f := c2_5.2.1) hx hb hK hP (xD.w hD) hS 25 3 rfl rfl (inb_vp k6) dX2_take_47 (fun H locs hP _ hS => ?_)
          have hP : va_P D vwCl (wX dT q rs g bh c1 ((upd c2_5.1 x5_5.toNatClampNeg ((x3_5.toInt32 >>> ((5 : Int32) &&& 31)) &&& (31 : Int32))), (upd c2_5.2.1 x5_5.toNatClampNeg (vp_nar .boolean (1 : Int32))), c2_5.2.2) re pl cl) H := hP
          refine lv_aload_n hx hb dX2_take_48 rfl (lv_at hl 1 rfl) ?_
          refine va_get (D := D) (ci := 2) (v := .ref (q 26)) (C := RX2) (T := TX2) (N := 4) hx hb hts (fun w h => sub_z _ (inX2 w h)) hown hK hP 23 rfl rfl 3 (by decide) (hts _ (sub_z _ k_75)) (fun _ h => h) rfl dX2_take_49 ?_
          refine lv_iload hx hb dX2_take_52 (lv_at hl 4 rfl) ?_
          refine lv_iload hx hb dX2_take_54 (lv_at hl 0 rfl) ?_
          refine lv_bipush (v := 15) hx hb dX2_take_56 (by decide) ?_
          refine lv_iand hx hb dX2_take_58 ?_
          obtain ⟨k7, h⟩ := dg h
          refine va_iast (f := c2_5.2.2) hx hb hK hP (xD.w hD) hS 26 0 rfl rfl (inb_vp k7) dX2_take_59 (fun H locs hP _ hS => ?_)
          have hP : va_P D vwCl (wX dT q rs g bh c1 ((upd c2_5.1 x5_5.toNatClampNeg ((x3_5.toInt32 >>> ((5 : Int32) &&& 31)) &&& (31 : Int32))), (upd c2_5.2.1 x5_5.toNatClampNeg (vp_nar .boolean (1 : Int32))), (upd c2_5.2.2 x5_5.toNatClampNeg (x3_5.toInt32 &&& (15 : Int32)))) re pl cl) H := hP
          refine lv_lload_n hx hb dX2_take_60 rfl (lv_at hl 3 rfl) ?_
          refine lv_bipush (v := 10) hx hb dX2_take_61 (by decide) ?_
          refine lv_lshr (v := (x3_5 >>> ((10 : Int32).toInt64 &&& 63))) hx hb dX2_take_63 rfl ?_
          refine lv_lstore_n (lv' := [(3, .long (x3_5 >>> ((10 : Int32).toInt64 &&& 63))), (6, .int x3_5.toInt32), (0, .ref (q 23)), (1, .long a1), (5, .int x5_5)]) hx hb dX2_take_64 rfl hl (by decide) rfl (fun ls hl => ?_)
          refine lv_iinc (v := (x5_5 + (-1 : Int32))) (lv' := [(5, .int (x5_5 + (-1 : Int32))), (3, .long (x3_5 >>> ((10 : Int32).toInt64 &&& 63))), (6, .int x3_5.toInt32), (0, .ref (q 23)), (1, .long a1)]) hx hb dX2_take_65 hl (k := 4) rfl rfl (by decide) rfl (fun ls hl => ?_)
          refine lv_goto (tgt := 5) hx hb dX2_take_68 (by decide) ?_
          exact ih _ _ _ _ h _ _ _ (lv_sub hl [3, 4, 1, 0] rfl) hP hS _ kk
  obtain ⟨y9, hy9, h⟩ := dq h
  refine hL5_8 _ _ _ _ _ hy9 _ _ _ (lv_sub hl [2, 3, 1, 0] rfl) hP hS _ (fun ls H locs hl hP hS => ?_)
  obtain rfl := Option.some.inj h
  exact rV hx hb hr hlk hK hP hS dX2_take_71

set_option maxRecDepth 100000 in
set_option maxHeartbeats 4000000 in
theorem c_X2_part_1 {l : Launch} {D : va_G} {dT : Nat → ClassId} {q : Nat → Nat} (hD : xD q) {rs : (Nat → tRow)} {g : tG_} {bh : tBH} {c1 : tC} {c2 : tC} {re : tRE} {pl : tPL} {cl : tCL} {a1 : Int32} {a2 : Int32} {v : Int32} (h : f_X2_part c1 a1 a2 = some v) : MG l yX2_part cX2_part 3 (some .int) 0 [.ref (q 15), .int a1, .int a2] D (tyL dT) (wX dT q rs g bh c1 c2 re pl cl) (QI D (tyL dT) (xA q) (wX dT q rs g bh c1 c2 re pl cl) v) (xA q) := by
  refine MG.mk (by decide +kernel) (Nat.le_of_ble_eq_true rfl) ?_
  intro p e s m below meth c hx hb hr hml hown hts hlk hK hP ls hl
  have hown : s.vm.findClass RX2 = some m.cls := hown
  have hS : va_S (xA q) s.heap s.heap [] := va_S.rf
  have hl : lv_has ls 3 [(0, .ref (q 15)), (1, .int a1), (2, .int a2)] := hl
  rw [f_X2_part] at h
  refine lv_iload_n hx hb dX2_part_0 rfl (lv_at hl 2 rfl) ?_
  refine lv_if_ne (tgt := 11) hx hb dX2_part_1 (by decide) (fun k1 => ?_) (fun k1 => ?_)
  · rw [if_neg k1] at h
    refine lv_iload_n hx hb dX2_part_11 rfl (lv_at hl 2 rfl) ?_
    refine lv_iconst (v := 1) hx hb dX2_part_12 (by decide) ?_
    refine lv_icmp_ne (tgt := 31) hx hb dX2_part_13 (by decide) (fun k2 => ?_) (fun k2 => ?_)
    · rw [if_neg k2] at h
      refine lv_aload_n hx hb dX2_part_31 rfl (lv_at hl 0 rfl) ?_
      refine va_get (D := D) (ci := 2) (v := .ref (q 18)) (C := RX2) (T := TX2) (N := 4) hx hb hts (fun w h => sub_z _ (inX2 w h)) hown hK hP 15 rfl rfl 3 (by decide) (hts _ (sub_z _ k_75)) (fun _ h => h) rfl dX2_part_32 ?_
      refine lv_iload_n hx hb dX2_part_35 rfl (lv_at hl 1 rfl) ?_
      obtain ⟨k3, h⟩ := dg h
      refine va_iald (f := c1.2.2) hx hb hK hP 18 0 rfl rfl (inb_vp k3) dX2_part_36 ?_
      obtain rfl := Option.some.inj h
      exact rI hx hb hr hlk hK hP hS dX2_part_37
    · rw [if_pos k2] at h
      refine lv_aload_n hx hb dX2_part_16 rfl (lv_at hl 0 rfl) ?_
      refine va_get (D := D) (ci := 2) (v := .ref (q 17)) (C := RX2) (T := TX2) (N := 4) hx hb hts (fun w h => sub_z _ (inX2 w h)) hown hK hP 15 rfl rfl 2 (by decide) (hts _ (sub_z _ k_74)) (fun _ h => h) rfl dX2_part_17 ?_
      refine lv_iload_n hx hb dX2_part_20 rfl (lv_at hl 1 rfl) ?_
      obtain ⟨k4, h⟩ := dg h
      refine va_zald (f := c1.2.1) hx hb hK hP 17 3 rfl rfl (inb_vp k4) dX2_part_21 ?_
      refine lv_if_eq (tgt := 29) hx hb dX2_part_22 (by decide) (fun k5 => ?_) (fun k5 => ?_)
      · rw [if_pos k5] at h
        refine lv_iconst (v := 0) hx hb dX2_part_29 (by decide) ?_
        obtain rfl := Option.some.inj h
        exact rI hx hb hr hlk hK hP hS dX2_part_30
      · rw [if_neg k5] at h
        refine lv_iconst (v := 1) hx hb dX2_part_25 (by decide) ?_
        refine lv_goto (tgt := 30) hx hb dX2_part_26 (by decide) ?_
        obtain rfl := Option.some.inj h
        exact rI hx hb hr hlk hK hP hS dX2_part_30
  · rw [if_pos k1] at h
    refine lv_aload_n hx hb dX2_part_4 rfl (lv_at hl 0 rfl) ?_
    refine va_get (D := D) (ci := 2) (v := .ref (q 16)) (C := RX2) (T := TX2) (N := 4) hx hb hts (fun w h => sub_z _ (inX2 w h)) hown hK hP 15 rfl rfl 1 (by decide) (hts _ (sub_z _ k_73)) (fun _ h => h) rfl dX2_part_5 ?_
    refine lv_iload_n hx hb dX2_part_8 rfl (lv_at hl 1 rfl) ?_
    obtain ⟨k6, h⟩ := dg h
    refine va_iald (f := c1.1) hx hb hK hP 16 0 rfl rfl (inb_vp k6) dX2_part_9 ?_
    obtain rfl := Option.some.inj h
    exact rI hx hb hr hlk hK hP hS dX2_part_10

set_option maxRecDepth 100000 in
set_option maxHeartbeats 4000000 in
theorem c_X2_part_2 {l : Launch} {D : va_G} {dT : Nat → ClassId} {q : Nat → Nat} (hD : xD q) {rs : (Nat → tRow)} {g : tG_} {bh : tBH} {c1 : tC} {c2 : tC} {re : tRE} {pl : tPL} {cl : tCL} {a1 : Int32} {a2 : Int32} {v : Int32} (h : f_X2_part c2 a1 a2 = some v) : MG l yX2_part cX2_part 3 (some .int) 0 [.ref (q 23), .int a1, .int a2] D (tyL dT) (wX dT q rs g bh c1 c2 re pl cl) (QI D (tyL dT) (xA q) (wX dT q rs g bh c1 c2 re pl cl) v) (xA q) := by
  refine MG.mk (by decide +kernel) (Nat.le_of_ble_eq_true rfl) ?_
  intro p e s m below meth c hx hb hr hml hown hts hlk hK hP ls hl
  have hown : s.vm.findClass RX2 = some m.cls := hown
  have hS : va_S (xA q) s.heap s.heap [] := va_S.rf
  have hl : lv_has ls 3 [(0, .ref (q 23)), (1, .int a1), (2, .int a2)] := hl
  rw [f_X2_part] at h
  refine lv_iload_n hx hb dX2_part_0 rfl (lv_at hl 2 rfl) ?_
  refine lv_if_ne (tgt := 11) hx hb dX2_part_1 (by decide) (fun k1 => ?_) (fun k1 => ?_)
  · rw [if_neg k1] at h
    refine lv_iload_n hx hb dX2_part_11 rfl (lv_at hl 2 rfl) ?_
    refine lv_iconst (v := 1) hx hb dX2_part_12 (by decide) ?_
    refine lv_icmp_ne (tgt := 31) hx hb dX2_part_13 (by decide) (fun k2 => ?_) (fun k2 => ?_)
    · rw [if_neg k2] at h
      refine lv_aload_n hx hb dX2_part_31 rfl (lv_at hl 0 rfl) ?_
      refine va_get (D := D) (ci := 2) (v := .ref (q 26)) (C := RX2) (T := TX2) (N := 4) hx hb hts (fun w h => sub_z _ (inX2 w h)) hown hK hP 23 rfl rfl 3 (by decide) (hts _ (sub_z _ k_75)) (fun _ h => h) rfl dX2_part_32 ?_
      refine lv_iload_n hx hb dX2_part_35 rfl (lv_at hl 1 rfl) ?_
      obtain ⟨k3, h⟩ := dg h
      refine va_iald (f := c2.2.2) hx hb hK hP 26 0 rfl rfl (inb_vp k3) dX2_part_36 ?_
      obtain rfl := Option.some.inj h
      exact rI hx hb hr hlk hK hP hS dX2_part_37
    · rw [if_pos k2] at h
      refine lv_aload_n hx hb dX2_part_16 rfl (lv_at hl 0 rfl) ?_
      refine va_get (D := D) (ci := 2) (v := .ref (q 25)) (C := RX2) (T := TX2) (N := 4) hx hb hts (fun w h => sub_z _ (inX2 w h)) hown hK hP 23 rfl rfl 2 (by decide) (hts _ (sub_z _ k_74)) (fun _ h => h) rfl dX2_part_17 ?_
      refine lv_iload_n hx hb dX2_part_20 rfl (lv_at hl 1 rfl) ?_
      obtain ⟨k4, h⟩ := dg h
      refine va_zald (f := c2.2.1) hx hb hK hP 25 3 rfl rfl (inb_vp k4) dX2_part_21 ?_
      refine lv_if_eq (tgt := 29) hx hb dX2_part_22 (by decide) (fun k5 => ?_) (fun k5 => ?_)
      · rw [if_pos k5] at h
        refine lv_iconst (v := 0) hx hb dX2_part_29 (by decide) ?_
        obtain rfl := Option.some.inj h
        exact rI hx hb hr hlk hK hP hS dX2_part_30
      · rw [if_neg k5] at h
        refine lv_iconst (v := 1) hx hb dX2_part_25 (by decide) ?_
        refine lv_goto (tgt := 30) hx hb dX2_part_26 (by decide) ?_
        obtain rfl := Option.some.inj h
        exact rI hx hb hr hlk hK hP hS dX2_part_30
  · rw [if_pos k1] at h
    refine lv_aload_n hx hb dX2_part_4 rfl (lv_at hl 0 rfl) ?_
    refine va_get (D := D) (ci := 2) (v := .ref (q 24)) (C := RX2) (T := TX2) (N := 4) hx hb hts (fun w h => sub_z _ (inX2 w h)) hown hK hP 23 rfl rfl 1 (by decide) (hts _ (sub_z _ k_73)) (fun _ h => h) rfl dX2_part_5 ?_
    refine lv_iload_n hx hb dX2_part_8 rfl (lv_at hl 1 rfl) ?_
    obtain ⟨k6, h⟩ := dg h
    refine va_iald (f := c2.1) hx hb hK hP 24 0 rfl rfl (inb_vp k6) dX2_part_9 ?_
    obtain rfl := Option.some.inj h
    exact rI hx hb hr hlk hK hP hS dX2_part_10

set_option maxRecDepth 100000 in
set_option maxHeartbeats 4000000 in
theorem c_X2_falls_1 {l : Launch} {D : va_G} {dT : Nat → ClassId} {q : Nat → Nat} (hD : xD q) {rs : (Nat → tRow)} {g : tG_} {bh : tBH} {c1 : tC} {c2 : tC} {re : tRE} {pl : tPL} {cl : tCL} {a1 : Int32} {v : Int32} (h : f_X2_falls c1 a1 = some v) : MG l yX2_falls cX2_falls 2 (some .boolean) 0 [.ref (q 15), .int a1] D (tyL dT) (wX dT q rs g bh c1 c2 re pl cl) (QI D (tyL dT) (xA q) (wX dT q rs g bh c1 c2 re pl cl) v) (xA q) := by
  refine MG.mk (by decide +kernel) (Nat.le_of_ble_eq_true rfl) ?_
  intro p e s m below meth c hx hb hr hml hown hts hlk hK hP ls hl
  have hown : s.vm.findClass RX2 = some m.cls := hown
  have hS : va_S (xA q) s.heap s.heap [] := va_S.rf
  have hl : lv_has ls 2 [(0, .ref (q 15)), (1, .int a1)] := hl
  rw [f_X2_falls] at h
  refine lv_aload_n hx hb dX2_falls_0 rfl (lv_at hl 0 rfl) ?_
  refine va_get (D := D) (ci := 2) (v := .ref (q 17)) (C := RX2) (T := TX2) (N := 4) hx hb hts (fun w h => sub_z _ (inX2 w h)) hown hK hP 15 rfl rfl 2 (by decide) (hts _ (sub_z _ k_74)) (fun _ h => h) rfl dX2_falls_1 ?_
  refine lv_iload_n hx hb dX2_falls_4 rfl (lv_at hl 1 rfl) ?_
  obtain ⟨k1, h⟩ := dg h
  refine va_zald (f := c1.2.1) hx hb hK hP 17 3 rfl rfl (inb_vp k1) dX2_falls_5 ?_
  refine lv_if_ne (tgt := 31) hx hb dX2_falls_6 (by decide) (fun k2 => ?_) (fun k2 => ?_)
  · rw [if_neg k2] at h
    refine lv_iconst (v := 0) hx hb dX2_falls_31 (by decide) ?_
    obtain rfl := Option.some.inj h
    exact rZ (v := (0 : Int32)) hx hb hr hlk rfl hK hP hS dX2_falls_32
  · rw [if_pos k2] at h
    refine lv_aload_n hx hb dX2_falls_9 rfl (lv_at hl 0 rfl) ?_
    refine va_get (D := D) (ci := 2) (v := .ref (q 18)) (C := RX2) (T := TX2) (N := 4) hx hb hts (fun w h => sub_z _ (inX2 w h)) hown hK hP 15 rfl rfl 3 (by decide) (hts _ (sub_z _ k_75)) (fun _ h => h) rfl dX2_falls_10 ?_
    refine lv_iload_n hx hb dX2_falls_13 rfl (lv_at hl 1 rfl) ?_
    obtain ⟨k3, h⟩ := dg h
    refine va_iald (f := c1.2.2) hx hb hK hP 18 0 rfl rfl (inb_vp k3) dX2_falls_14 ?_
    refine lv_if_ne (tgt := 31) hx hb dX2_falls_15 (by decide) (fun k4 => ?_) (fun k4 => ?_)
    · rw [if_neg k4] at h
      refine lv_iconst (v := 0) hx hb dX2_falls_31 (by decide) ?_
      obtain rfl := Option.some.inj h
      exact rZ (v := (0 : Int32)) hx hb hr hlk rfl hK hP hS dX2_falls_32
    · rw [if_pos k4] at h
      refine lv_aload_n hx hb dX2_falls_18 rfl (lv_at hl 0 rfl) ?_
      refine va_get (D := D) (ci := 2) (v := .ref (q 16)) (C := RX2) (T := TX2) (N := 4) hx hb hts (fun w h => sub_z _ (inX2 w h)) hown hK hP 15 rfl rfl 1 (by decide) (hts _ (sub_z _ k_73)) (fun _ h => h) rfl dX2_falls_19 ?_
      refine lv_iload_n hx hb dX2_falls_22 rfl (lv_at hl 1 rfl) ?_
      obtain ⟨k5, h⟩ := dg h
      refine va_iald (f := c1.1) hx hb hK hP 16 0 rfl rfl (inb_vp k5) dX2_falls_23 ?_
      refine lv_if_le (tgt := 31) hx hb dX2_falls_24 (by decide) (fun k6 => ?_) (fun k6 => ?_)
      · rw [if_pos k6] at h
        refine lv_iconst (v := 0) hx hb dX2_falls_31 (by decide) ?_
        obtain rfl := Option.some.inj h
        exact rZ (v := (0 : Int32)) hx hb hr hlk rfl hK hP hS dX2_falls_32
      · rw [if_neg k6] at h
        refine lv_iconst (v := 1) hx hb dX2_falls_27 (by decide) ?_
        refine lv_goto (tgt := 32) hx hb dX2_falls_28 (by decide) ?_
        obtain rfl := Option.some.inj h
        exact rZ (v := (1 : Int32)) hx hb hr hlk rfl hK hP hS dX2_falls_32

set_option maxRecDepth 100000 in
set_option maxHeartbeats 4000000 in
theorem c_X2_allowsDigit_1 {l : Launch} {D : va_G} {dT : Nat → ClassId} {q : Nat → Nat} (hD : xD q) {rs : (Nat → tRow)} {g : tG_} {bh : tBH} {c1 : tC} {c2 : tC} {re : tRE} {pl : tPL} {cl : tCL} {a1 : Int32} {a2 : Int32} {a3 : Int32} {v : Int32} (h : f_X2_allowsDigit g c1 a1 a2 a3 = some v) : MG l yX2_allowsDigit cX2_allowsDigit 5 (some .boolean) 1 [.ref (q 15), .int a1, .int a2, .int a3] D (tyL dT) (wX dT q rs g bh c1 c2 re pl cl) (QI D (tyL dT) (xA q) (wX dT q rs g bh c1 c2 re pl cl) v) (xA q) := by
  refine MG.mk (by decide +kernel) (Nat.le_of_ble_eq_true rfl) ?_
  intro p e s m below meth c hx hb hr hml hown hts hlk hK hP ls hl
  have hown : s.vm.findClass RX2 = some m.cls := hown
  have hS : va_S (xA q) s.heap s.heap [] := va_S.rf
  have hl : lv_has ls 5 [(0, .ref (q 15)), (1, .int a1), (2, .int a2), (3, .int a3)] := hl
  rw [f_X2_allowsDigit] at h
  refine lv_aload_n hx hb dX2_allowsDigit_0 rfl (lv_at hl 0 rfl) ?_
  refine va_get (D := D) (ci := 2) (v := .ref (q 10)) (C := RX2) (T := TX2) (N := 4) hx hb hts (fun w h => sub_z _ (inX2 w h)) hown hK hP 15 rfl rfl 0 (by decide) (hts _ (sub_z _ k_72)) (fun _ h => h) rfl dX2_allowsDigit_1 ?_
  refine lv_iload_n hx hb dX2_allowsDigit_4 rfl (lv_at hl 1 rfl) ?_
  obtain ⟨v1, hv1, h⟩ := dq h
  refine cVi (As := [.int a1]) (rest := []) ⟨hx, hb, hml, hown, hts⟩ (c_X3_has (dT := dT) (rs := rs) (g := g) (bh := bh) (c1 := c1) (c2 := c2) (re := re) (pl := pl) (cl := cl) hD hv1) (cwV 1 hts (good_V sub_z k_396 k_297 k_298 k_3 k_299) rfl rfl rfl (by decide +kernel) (by decide)) (va_recv hK hP (ci := 3) (q0 := 10) rfl rfl) hK hP hS rfl hl.1 rfl (Nat.le_of_ble_eq_true rfl) dX2_allowsDigit_5 (by decide) (fun H locs hP hS => ?_)
  refine lv_if_ne (tgt := 13) hx hb dX2_allowsDigit_8 (by decide) (fun k2 => ?_) (fun k2 => ?_)
  · rw [if_neg k2] at h
    refine lv_iload_n hx hb dX2_allowsDigit_13 rfl (lv_at hl 2 rfl) ?_
    refine lv_iconst (v := 3) hx hb dX2_allowsDigit_14 (by decide) ?_
    refine lv_icmp_ne (tgt := 25) hx hb dX2_allowsDigit_15 (by decide) (fun k3 => ?_) (fun k3 => ?_)
    · rw [if_neg k3] at h
      refine lv_aload_n hx hb dX2_allowsDigit_25 rfl (lv_at hl 0 rfl) ?_
      refine va_get (D := D) (ci := 2) (v := .ref (q 17)) (C := RX2) (T := TX2) (N := 4) hx hb hts (fun w h => sub_z _ (inX2 w h)) hown hK hP 15 rfl rfl 2 (by decide) (hts _ (sub_z _ k_74)) (fun _ h => h) rfl dX2_allowsDigit_26 ?_
      refine lv_iload_n hx hb dX2_allowsDigit_29 rfl (lv_at hl 1 rfl) ?_
      obtain ⟨k4, h⟩ := dg h
      refine va_zald (f := c1.2.1) hx hb hK hP 17 3 rfl rfl (inb_vp k4) dX2_allowsDigit_30 ?_
      refine lv_if_eq (tgt := 36) hx hb dX2_allowsDigit_31 (by decide) (fun k5 => ?_) (fun k5 => ?_)
      · rw [if_pos k5] at h
        refine lv_aload_n hx hb dX2_allowsDigit_36 rfl (lv_at hl 0 rfl) ?_
        refine va_get (D := D) (ci := 2) (v := .ref (q 10)) (C := RX2) (T := TX2) (N := 4) hx hb hts (fun w h => sub_z _ (inX2 w h)) hown hK hP 15 rfl rfl 0 (by decide) (hts _ (sub_z _ k_72)) (fun _ h => h) rfl dX2_allowsDigit_37 ?_
        refine lv_iload_n hx hb dX2_allowsDigit_40 rfl (lv_at hl 1 rfl) ?_
        obtain ⟨v6, hv6, h⟩ := dq h
        refine cVi (As := [.int a1]) (rest := []) ⟨hx, hb, hml, hown, hts⟩ (c_X3_kind (dT := dT) (rs := rs) (g := g) (bh := bh) (c1 := c1) (c2 := c2) (re := re) (pl := pl) (cl := cl) hD hv6) (cwV 1 hts (good_V sub_z k_397 k_354 k_355 k_3 k_356) rfl rfl rfl (by decide +kernel) (by decide)) (va_recv hK hP (ci := 3) (q0 := 10) rfl rfl) hK hP hS rfl hl.1 rfl (Nat.le_of_ble_eq_true rfl) dX2_allowsDigit_41 (by decide) (fun H locs hP hS => ?_)
        refine lv_istore (lv' := [(4, .int v6), (0, .ref (q 15)), (1, .int a1), (2, .int a2), (3, .int a3)]) hx hb dX2_allowsDigit_44 hl (by decide) rfl (fun ls hl => ?_)
        refine lv_iload_n hx hb dX2_allowsDigit_46 rfl (lv_at hl 3 rfl) ?_
        refine lv_iconst (v := 2) hx hb dX2_allowsDigit_47 (by decide) ?_
        refine lv_icmp_ne (tgt := 69) hx hb dX2_allowsDigit_48 (by decide) (fun k7 => ?_) (fun k7 => ?_)
        · rw [if_neg k7] at h
          refine lv_iload hx hb dX2_allowsDigit_69 (lv_at hl 0 rfl) ?_
          refine lv_iconst (v := 3) hx hb dX2_allowsDigit_71 (by decide) ?_
          refine lv_icmp_ne (tgt := 89) hx hb dX2_allowsDigit_72 (by decide) (fun k8 => ?_) (fun k8 => ?_)
          · rw [if_neg k8] at h
            refine lv_iload hx hb dX2_allowsDigit_89 (lv_at hl 0 rfl) ?_
            refine lv_iconst (v := 1) hx hb dX2_allowsDigit_91 (by decide) ?_
            refine lv_icmp_ne (tgt := 111) hx hb dX2_allowsDigit_92 (by decide) (fun k9 => ?_) (fun k9 => ?_)
            · rw [if_neg k9] at h
              refine lv_iconst (v := 1) hx hb dX2_allowsDigit_111 (by decide) ?_
              refine lv_goto (tgt := 116) hx hb dX2_allowsDigit_112 (by decide) ?_
              obtain rfl := Option.some.inj h
              exact rZ (v := (1 : Int32)) hx hb hr hlk rfl hK hP hS dX2_allowsDigit_116
            · rw [if_pos k9] at h
              refine lv_iload_n hx hb dX2_allowsDigit_95 rfl (lv_at hl 4 rfl) ?_
              refine lv_aload_n hx hb dX2_allowsDigit_96 rfl (lv_at hl 1 rfl) ?_
              refine va_get (D := D) (ci := 2) (v := .ref (q 10)) (C := RX2) (T := TX2) (N := 4) hx hb hts (fun w h => sub_z _ (inX2 w h)) hown hK hP 15 rfl rfl 0 (by decide) (hts _ (sub_z _ k_72)) (fun _ h => h) rfl dX2_allowsDigit_97 ?_
              refine lv_iload_n hx hb dX2_allowsDigit_100 rfl (lv_at hl 2 rfl) ?_
              obtain ⟨v10, hv10, h⟩ := dq h
              refine cVi (As := [.int a1]) (rest := [.int a3]) ⟨hx, hb, hml, hown, hts⟩ (c_X3_with (dT := dT) (rs := rs) (g := g) (bh := bh) (c1 := c1) (c2 := c2) (re := re) (pl := pl) (cl := cl) hD hv10) (cwV 1 hts (good_V sub_z k_402 k_362 k_363 k_3 k_364) rfl rfl rfl (by decide +kernel) (by decide)) (va_recv hK hP (ci := 3) (q0 := 10) rfl rfl) hK hP hS rfl hl.1 rfl (Nat.le_of_ble_eq_true rfl) dX2_allowsDigit_101 (by decide) (fun H locs hP hS => ?_)
              obtain ⟨v11, hv11, h⟩ := dq h
              refine cSi (As := [.int a3, .int v10]) (rest := []) ⟨hx, hb, hml, hown, hts⟩ (c_X4_digit_x (dT := dT) (rs := rs) (g := g) (bh := bh) (c1 := c1) (c2 := c2) (re := re) (pl := pl) (cl := cl) hD hv11) (va_cwS 2 hts (good_S sub_z k_403 k_404 k_11 k_405) rfl rfl rfl (by decide +kernel) (by decide)) hK hP hS rfl hl.1 rfl (Nat.le_of_ble_eq_true rfl) dX2_allowsDigit_104 (by decide) (fun H locs hP hS => ?_)
              refine lv_iconst (v := 1) hx hb dX2_allowsDigit_107 (by decide) ?_
              refine lv_icmp_ne (tgt := 115) hx hb dX2_allowsDigit_108 (by decide) (fun k12 => ?_) (fun k12 => ?_)
              · rw [if_neg k12] at h
                refine lv_iconst (v := 0) hx hb dX2_allowsDigit_115 (by decide) ?_
                obtain rfl := Option.some.inj h
                exact rZ (v := (0 : Int32)) hx hb hr hlk rfl hK hP hS dX2_allowsDigit_116
              · rw [if_pos k12] at h
                refine lv_iconst (v := 1) hx hb dX2_allowsDigit_111 (by decide) ?_
                refine lv_goto (tgt := 116) hx hb dX2_allowsDigit_112 (by decide) ?_
                obtain rfl := Option.some.inj h
                exact rZ (v := (1 : Int32)) hx hb hr hlk rfl hK hP hS dX2_allowsDigit_116
          · rw [if_pos k8] at h
            refine lv_aload_n hx hb dX2_allowsDigit_75 rfl (lv_at hl 1 rfl) ?_
            refine lv_iload_n hx hb dX2_allowsDigit_76 rfl (lv_at hl 2 rfl) ?_
            obtain ⟨v13, hv13, h⟩ := dq h
            refine cVi (As := [.int a1]) (rest := []) ⟨hx, hb, hml, hown, hts⟩ (c_X2_falls_1 (dT := dT) (rs := rs) (g := g) (bh := bh) (c1 := c1) (c2 := c2) (re := re) (pl := pl) (cl := cl) hD hv13) (cwV 1 hts (good_V sub_z k_398 k_400 ks_3 k_5 k_401) rfl rfl rfl (by decide +kernel) (by decide)) (va_recv hK hP (ci := 2) (q0 := 15) rfl rfl) hK hP hS rfl hl.1 rfl (Nat.le_of_ble_eq_true rfl) dX2_allowsDigit_77 (by decide) (fun H locs hP hS => ?_)
            refine lv_if_ne (tgt := 87) hx hb dX2_allowsDigit_80 (by decide) (fun k14 => ?_) (fun k14 => ?_)
            · rw [if_neg k14] at h
              refine lv_iconst (v := 0) hx hb dX2_allowsDigit_87 (by decide) ?_
              obtain rfl := Option.some.inj h
              exact rZ (v := (0 : Int32)) hx hb hr hlk rfl hK hP hS dX2_allowsDigit_88
            · rw [if_pos k14] at h
              refine lv_iconst (v := 1) hx hb dX2_allowsDigit_83 (by decide) ?_
              refine lv_goto (tgt := 88) hx hb dX2_allowsDigit_84 (by decide) ?_
              obtain rfl := Option.some.inj h
              exact rZ (v := (1 : Int32)) hx hb hr hlk rfl hK hP hS dX2_allowsDigit_88
        · rw [if_pos k7] at h
          refine lv_iload hx hb dX2_allowsDigit_51 (lv_at hl 0 rfl) ?_
          refine lv_iconst (v := 2) hx hb dX2_allowsDigit_53 (by decide) ?_
          refine lv_icmp_eq (tgt := 63) hx hb dX2_allowsDigit_54 (by decide) (fun k15 => ?_) (fun k15 => ?_)
          · rw [if_pos k15] at h
            refine lv_iconst (v := 1) hx hb dX2_allowsDigit_63 (by decide) ?_
            refine lv_goto (tgt := 68) hx hb dX2_allowsDigit_64 (by decide) ?_
            obtain rfl := Option.some.inj h
            exact rZ (v := (1 : Int32)) hx hb hr hlk rfl hK hP hS dX2_allowsDigit_68
          · rw [if_neg k15] at h
            refine lv_iload hx hb dX2_allowsDigit_57 (lv_at hl 0 rfl) ?_
            refine lv_iconst (v := 4) hx hb dX2_allowsDigit_59 (by decide) ?_
            refine lv_icmp_ne (tgt := 67) hx hb dX2_allowsDigit_60 (by decide) (fun k16 => ?_) (fun k16 => ?_)
            · rw [if_neg k16] at h
              refine lv_iconst (v := 0) hx hb dX2_allowsDigit_67 (by decide) ?_
              obtain rfl := Option.some.inj h
              exact rZ (v := (0 : Int32)) hx hb hr hlk rfl hK hP hS dX2_allowsDigit_68
            · rw [if_pos k16] at h
              refine lv_iconst (v := 1) hx hb dX2_allowsDigit_63 (by decide) ?_
              refine lv_goto (tgt := 68) hx hb dX2_allowsDigit_64 (by decide) ?_
              obtain rfl := Option.some.inj h
              exact rZ (v := (1 : Int32)) hx hb hr hlk rfl hK hP hS dX2_allowsDigit_68
      · rw [if_neg k5] at h
        refine lv_iconst (v := 0) hx hb dX2_allowsDigit_34 (by decide) ?_
        obtain rfl := Option.some.inj h
        exact rZ (v := (0 : Int32)) hx hb hr hlk rfl hK hP hS dX2_allowsDigit_35
    · rw [if_pos k3] at h
      refine lv_aload_n hx hb dX2_allowsDigit_18 rfl (lv_at hl 0 rfl) ?_
      refine va_get (D := D) (ci := 2) (v := .ref (q 17)) (C := RX2) (T := TX2) (N := 4) hx hb hts (fun w h => sub_z _ (inX2 w h)) hown hK hP 15 rfl rfl 2 (by decide) (hts _ (sub_z _ k_74)) (fun _ h => h) rfl dX2_allowsDigit_19 ?_
      refine lv_iload_n hx hb dX2_allowsDigit_22 rfl (lv_at hl 1 rfl) ?_
      obtain ⟨k17, h⟩ := dg h
      refine va_zald (f := c1.2.1) hx hb hK hP 17 3 rfl rfl (inb_vp k17) dX2_allowsDigit_23 ?_
      obtain ⟨k18, h⟩ := dg h
      obtain rfl := Option.some.inj h
      exact rZ hx hb hr hlk (isb_n k18) hK hP hS dX2_allowsDigit_24
  · rw [if_pos k2] at h
    refine lv_iconst (v := 0) hx hb dX2_allowsDigit_11 (by decide) ?_
    obtain rfl := Option.some.inj h
    exact rZ (v := (0 : Int32)) hx hb hr hlk rfl hK hP hS dX2_allowsDigit_12

set_option maxRecDepth 100000 in
set_option maxHeartbeats 4000000 in
theorem c_X2_allows_1 {l : Launch} {D : va_G} {dT : Nat → ClassId} {q : Nat → Nat} (hD : xD q) {rs : (Nat → tRow)} {g : tG_} {bh : tBH} {c1 : tC} {c2 : tC} {re : tRE} {pl : tPL} {cl : tCL} {a1 : Int32} {v : Int32} (h : f_X2_allows g c1 a1 = some v) : MG l yX2_allows cX2_allows 5 (some .boolean) 2 [.ref (q 15), .int a1] D (tyL dT) (wX dT q rs g bh c1 c2 re pl cl) (QI D (tyL dT) (xA q) (wX dT q rs g bh c1 c2 re pl cl) v) (xA q) := by
  refine MG.mk (by decide +kernel) (Nat.le_of_ble_eq_true rfl) ?_
  intro p e s m below meth c hx hb hr hml hown hts hlk hK hP ls hl
  have hown : s.vm.findClass RX2 = some m.cls := hown
  have hS : va_S (xA q) s.heap s.heap [] := va_S.rf
  have hl : lv_has ls 5 [(0, .ref (q 15)), (1, .int a1)] := hl
  rw [f_X2_allows] at h
  refine lv_iload_n hx hb dX2_allows_0 rfl (lv_at hl 1 rfl) ?_
  refine lv_istore_n (lv' := [(2, .int a1), (0, .ref (q 15)), (1, .int a1)]) hx hb dX2_allows_1 rfl hl (by decide) rfl (fun ls hl => ?_)
  refine lv_iconst (v := 0) hx hb dX2_allows_2 (by decide) ?_
  refine lv_istore_n (lv' := [(3, .int (0 : Int32)), (2, .int a1), (0, .ref (q 15)), (1, .int a1)]) hx hb dX2_allows_3 rfl hl (by decide) rfl (fun ls hl => ?_)
  have hL4_6 : ∀ (n : Nat) (x2_4 : Int32) (x3_4 : Int32), f_X2_allows_4 n g c1 a1 x2_4 x3_4 = some v → ∀ (ls : Array Slot) (H : Heap) (locs : List Loc), lv_has ls 5 [(0, .ref (q 15)), (1, .int a1), (2, .int x2_4), (3, .int x3_4)] → va_P D vwCl (wX dT q rs g bh c1 c2 re pl cl) H → va_S (xA q) s.heap H locs → W p l e (rmD 2) s m [.ref (q 15), .int a1].toArray below meth c H locs 0 0 (MQ below (QI D (tyL dT) (xA q) (wX dT q rs g bh c1 c2 re pl cl) v) [.ref (q 15), .int a1].toArray s 0 0 (xA q)) (F0 m 4 ls []) := by
    intro n
    induction n with
    | zero => intro x2_4 x3_4 h; exact absurd h (by simp [f_X2_allows_4])
    | succ n ih =>
      intro x2_4 x3_4 h ls H locs hl hP hS
      rw [f_X2_allows_4] at h
      refine lv_iload_n hx hb dX2_allows_4 rfl (lv_at hl 3 rfl) ?_
      refine lv_iconst (v := 4) hx hb dX2_allows_5 (by decide) ?_
      refine lv_icmp_ge (tgt := 46) hx hb dX2_allows_6 (by decide) (fun k1 => ?_) (fun k1 => ?_)
      · rw [if_pos k1] at h
        refine lv_iconst (v := 1) hx hb dX2_allows_46 (by decide) ?_
        obtain rfl := Option.some.inj h
        exact rZ (v := (1 : Int32)) hx hb hr hlk rfl hK hP hS dX2_allows_47
      · rw [if_neg k1] at h
        refine lv_iload_n hx hb dX2_allows_9 rfl (lv_at hl 2 rfl) ?_
        refine lv_if_eq (tgt := 46) hx hb dX2_allows_10 (by decide) (fun k2 => ?_) (fun k2 => ?_)
        · rw [if_pos k2] at h
          refine lv_iconst (v := 1) hx hb dX2_allows_46 (by decide) ?_
          obtain rfl := Option.some.inj h
          exact rZ (v := (1 : Int32)) hx hb hr hlk rfl hK hP hS dX2_allows_47
        · rw [if_neg k2] at h
          refine lv_iload_n hx hb dX2_allows_13 rfl (lv_at hl 2 rfl) ?_
          refine lv_iconst (v := 3) hx hb dX2_allows_14 (by decide) ?_
          refine lv_iand hx hb dX2_allows_15 ?_
          refine lv_istore (lv' := [(4, .int (x2_4 &&& (3 : Int32))), (0, .ref (q 15)), (1, .int a1), (2, .int x2_4), (3, .int x3_4)]) hx hb dX2_allows_16 hl (by decide) rfl (fun ls hl => ?_)
          refine lv_iload hx hb dX2_allows_18 (lv_at hl 0 rfl) ?_
          refine lv_if_eq (tgt := 36) hx hb dX2_allows_20 (by decide) (fun k3 => ?_) (fun k3 => ?_)
          · rw [if_pos k3] at h
            refine lv_iload_n hx hb dX2_allows_36 rfl (lv_at hl 3 rfl) ?_
            refine lv_iconst (v := 2) hx hb dX2_allows_37 (by decide) ?_
            refine lv_ishr hx hb dX2_allows_38 ?_
            refine lv_istore_n (lv' := [(2, .int (x2_4 >>> ((2 : Int32) &&& 31))), (4, .int (x2_4 &&& (3 : Int32))), (0, .ref (q 15)), (1, .int a1), (3, .int x3_4)]) hx hb dX2_allows_39 rfl hl (by decide) rfl (fun ls hl => ?_)
            refine lv_iinc (v := (x3_4 + (1 : Int32))) (lv' := [(3, .int (x3_4 + (1 : Int32))), (2, .int (x2_4 >>> ((2 : Int32) &&& 31))), (4, .int (x2_4 &&& (3 : Int32))), (0, .ref (q 15)), (1, .int a1)]) hx hb dX2_allows_40 hl (k := 4) rfl rfl (by decide) rfl (fun ls hl => ?_)
            refine lv_goto (tgt := 4) hx hb dX2_allows_43 (by decide) ?_
            exact ih _ _ h _ _ _ (lv_sub hl [3, 4, 1, 0] rfl) hP hS
          · rw [if_neg k3] at h
            refine lv_aload_n hx hb dX2_allows_23 rfl (lv_at hl 1 rfl) ?_
            refine lv_iload_n hx hb dX2_allows_24 rfl (lv_at hl 4 rfl) ?_
            refine lv_iload hx hb dX2_allows_25 (lv_at hl 0 rfl) ?_
            refine lv_iload_n hx hb dX2_allows_27 rfl (lv_at hl 2 rfl) ?_
            obtain ⟨v4, hv4, h⟩ := dq h
            refine cVi (As := [.int x3_4, .int (x2_4 &&& (3 : Int32)), .int a1]) (rest := []) ⟨hx, hb, hml, hown, hts⟩ (c_X2_allowsDigit_1 (dT := dT) (rs := rs) (g := g) (bh := bh) (c1 := c1) (c2 := c2) (re := re) (pl := pl) (cl := cl) hD hv4) (cwV 3 hts (good_V sub_z k_392 k_394 ks_2 k_5 k_395) rfl rfl rfl (by decide +kernel) (by decide)) (va_recv hK hP (ci := 2) (q0 := 15) rfl rfl) hK hP hS rfl hl.1 rfl (Nat.le_of_ble_eq_true rfl) dX2_allows_28 (by decide) (fun H locs hP hS => ?_)
            refine lv_if_ne (tgt := 36) hx hb dX2_allows_31 (by decide) (fun k5 => ?_) (fun k5 => ?_)
            · rw [if_neg k5] at h
              refine lv_iload_n hx hb dX2_allows_36 rfl (lv_at hl 3 rfl) ?_
              refine lv_iconst (v := 2) hx hb dX2_allows_37 (by decide) ?_
              refine lv_ishr hx hb dX2_allows_38 ?_
              refine lv_istore_n (lv' := [(2, .int (x2_4 >>> ((2 : Int32) &&& 31))), (4, .int (x2_4 &&& (3 : Int32))), (0, .ref (q 15)), (1, .int a1), (3, .int x3_4)]) hx hb dX2_allows_39 rfl hl (by decide) rfl (fun ls hl => ?_)
              refine lv_iinc (v := (x3_4 + (1 : Int32))) (lv' := [(3, .int (x3_4 + (1 : Int32))), (2, .int (x2_4 >>> ((2 : Int32) &&& 31))), (4, .int (x2_4 &&& (3 : Int32))), (0, .ref (q 15)), (1, .int a1)]) hx hb dX2_allows_40 hl (k := 4) rfl rfl (by decide) rfl (fun ls hl => ?_)
              refine lv_goto (tgt := 4) hx hb dX2_allows_43 (by decide) ?_
              exact ih _ _ h _ _ _ (lv_sub hl [3, 4, 1, 0] rfl) hP hS
            · rw [if_pos k5] at h
              refine lv_iconst (v := 0) hx hb dX2_allows_34 (by decide) ?_
              obtain rfl := Option.some.inj h
              exact rZ (v := (0 : Int32)) hx hb hr hlk rfl hK hP hS dX2_allows_35
  exact hL4_6 _ _ _ h _ _ _ (lv_sub hl [2, 3, 1, 0] rfl) hP hS

set_option maxRecDepth 100000 in
set_option maxHeartbeats 4000000 in
theorem c_X2_falls_2 {l : Launch} {D : va_G} {dT : Nat → ClassId} {q : Nat → Nat} (hD : xD q) {rs : (Nat → tRow)} {g : tG_} {bh : tBH} {c1 : tC} {c2 : tC} {re : tRE} {pl : tPL} {cl : tCL} {a1 : Int32} {v : Int32} (h : f_X2_falls c2 a1 = some v) : MG l yX2_falls cX2_falls 2 (some .boolean) 0 [.ref (q 23), .int a1] D (tyL dT) (wX dT q rs g bh c1 c2 re pl cl) (QI D (tyL dT) (xA q) (wX dT q rs g bh c1 c2 re pl cl) v) (xA q) := by
  refine MG.mk (by decide +kernel) (Nat.le_of_ble_eq_true rfl) ?_
  intro p e s m below meth c hx hb hr hml hown hts hlk hK hP ls hl
  have hown : s.vm.findClass RX2 = some m.cls := hown
  have hS : va_S (xA q) s.heap s.heap [] := va_S.rf
  have hl : lv_has ls 2 [(0, .ref (q 23)), (1, .int a1)] := hl
  rw [f_X2_falls] at h
  refine lv_aload_n hx hb dX2_falls_0 rfl (lv_at hl 0 rfl) ?_
  refine va_get (D := D) (ci := 2) (v := .ref (q 25)) (C := RX2) (T := TX2) (N := 4) hx hb hts (fun w h => sub_z _ (inX2 w h)) hown hK hP 23 rfl rfl 2 (by decide) (hts _ (sub_z _ k_74)) (fun _ h => h) rfl dX2_falls_1 ?_
  refine lv_iload_n hx hb dX2_falls_4 rfl (lv_at hl 1 rfl) ?_
  obtain ⟨k1, h⟩ := dg h
  refine va_zald (f := c2.2.1) hx hb hK hP 25 3 rfl rfl (inb_vp k1) dX2_falls_5 ?_
  refine lv_if_ne (tgt := 31) hx hb dX2_falls_6 (by decide) (fun k2 => ?_) (fun k2 => ?_)
  · rw [if_neg k2] at h
    refine lv_iconst (v := 0) hx hb dX2_falls_31 (by decide) ?_
    obtain rfl := Option.some.inj h
    exact rZ (v := (0 : Int32)) hx hb hr hlk rfl hK hP hS dX2_falls_32
  · rw [if_pos k2] at h
    refine lv_aload_n hx hb dX2_falls_9 rfl (lv_at hl 0 rfl) ?_
    refine va_get (D := D) (ci := 2) (v := .ref (q 26)) (C := RX2) (T := TX2) (N := 4) hx hb hts (fun w h => sub_z _ (inX2 w h)) hown hK hP 23 rfl rfl 3 (by decide) (hts _ (sub_z _ k_75)) (fun _ h => h) rfl dX2_falls_10 ?_
    refine lv_iload_n hx hb dX2_falls_13 rfl (lv_at hl 1 rfl) ?_
    obtain ⟨k3, h⟩ := dg h
    refine va_iald (f := c2.2.2) hx hb hK hP 26 0 rfl rfl (inb_vp k3) dX2_falls_14 ?_
    refine lv_if_ne (tgt := 31) hx hb dX2_falls_15 (by decide) (fun k4 => ?_) (fun k4 => ?_)
    · rw [if_neg k4] at h
      refine lv_iconst (v := 0) hx hb dX2_falls_31 (by decide) ?_
      obtain rfl := Option.some.inj h
      exact rZ (v := (0 : Int32)) hx hb hr hlk rfl hK hP hS dX2_falls_32
    · rw [if_pos k4] at h
      refine lv_aload_n hx hb dX2_falls_18 rfl (lv_at hl 0 rfl) ?_
      refine va_get (D := D) (ci := 2) (v := .ref (q 24)) (C := RX2) (T := TX2) (N := 4) hx hb hts (fun w h => sub_z _ (inX2 w h)) hown hK hP 23 rfl rfl 1 (by decide) (hts _ (sub_z _ k_73)) (fun _ h => h) rfl dX2_falls_19 ?_
      refine lv_iload_n hx hb dX2_falls_22 rfl (lv_at hl 1 rfl) ?_
      obtain ⟨k5, h⟩ := dg h
      refine va_iald (f := c2.1) hx hb hK hP 24 0 rfl rfl (inb_vp k5) dX2_falls_23 ?_
      refine lv_if_le (tgt := 31) hx hb dX2_falls_24 (by decide) (fun k6 => ?_) (fun k6 => ?_)
      · rw [if_pos k6] at h
        refine lv_iconst (v := 0) hx hb dX2_falls_31 (by decide) ?_
        obtain rfl := Option.some.inj h
        exact rZ (v := (0 : Int32)) hx hb hr hlk rfl hK hP hS dX2_falls_32
      · rw [if_neg k6] at h
        refine lv_iconst (v := 1) hx hb dX2_falls_27 (by decide) ?_
        refine lv_goto (tgt := 32) hx hb dX2_falls_28 (by decide) ?_
        obtain rfl := Option.some.inj h
        exact rZ (v := (1 : Int32)) hx hb hr hlk rfl hK hP hS dX2_falls_32

set_option maxRecDepth 100000 in
set_option maxHeartbeats 4000000 in
theorem c_X2_allowsDigit_2 {l : Launch} {D : va_G} {dT : Nat → ClassId} {q : Nat → Nat} (hD : xD q) {rs : (Nat → tRow)} {g : tG_} {bh : tBH} {c1 : tC} {c2 : tC} {re : tRE} {pl : tPL} {cl : tCL} {a1 : Int32} {a2 : Int32} {a3 : Int32} {v : Int32} (h : f_X2_allowsDigit g c2 a1 a2 a3 = some v) : MG l yX2_allowsDigit cX2_allowsDigit 5 (some .boolean) 1 [.ref (q 23), .int a1, .int a2, .int a3] D (tyL dT) (wX dT q rs g bh c1 c2 re pl cl) (QI D (tyL dT) (xA q) (wX dT q rs g bh c1 c2 re pl cl) v) (xA q) := by
  refine MG.mk (by decide +kernel) (Nat.le_of_ble_eq_true rfl) ?_
  intro p e s m below meth c hx hb hr hml hown hts hlk hK hP ls hl
  have hown : s.vm.findClass RX2 = some m.cls := hown
  have hS : va_S (xA q) s.heap s.heap [] := va_S.rf
  have hl : lv_has ls 5 [(0, .ref (q 23)), (1, .int a1), (2, .int a2), (3, .int a3)] := hl
  rw [f_X2_allowsDigit] at h
  refine lv_aload_n hx hb dX2_allowsDigit_0 rfl (lv_at hl 0 rfl) ?_
  refine va_get (D := D) (ci := 2) (v := .ref (q 10)) (C := RX2) (T := TX2) (N := 4) hx hb hts (fun w h => sub_z _ (inX2 w h)) hown hK hP 23 rfl rfl 0 (by decide) (hts _ (sub_z _ k_72)) (fun _ h => h) rfl dX2_allowsDigit_1 ?_
  refine lv_iload_n hx hb dX2_allowsDigit_4 rfl (lv_at hl 1 rfl) ?_
  obtain ⟨v1, hv1, h⟩ := dq h
  refine cVi (As := [.int a1]) (rest := []) ⟨hx, hb, hml, hown, hts⟩ (c_X3_has (dT := dT) (rs := rs) (g := g) (bh := bh) (c1 := c1) (c2 := c2) (re := re) (pl := pl) (cl := cl) hD hv1) (cwV 1 hts (good_V sub_z k_396 k_297 k_298 k_3 k_299) rfl rfl rfl (by decide +kernel) (by decide)) (va_recv hK hP (ci := 3) (q0 := 10) rfl rfl) hK hP hS rfl hl.1 rfl (Nat.le_of_ble_eq_true rfl) dX2_allowsDigit_5 (by decide) (fun H locs hP hS => ?_)
  refine lv_if_ne (tgt := 13) hx hb dX2_allowsDigit_8 (by decide) (fun k2 => ?_) (fun k2 => ?_)
  · rw [if_neg k2] at h
    refine lv_iload_n hx hb dX2_allowsDigit_13 rfl (lv_at hl 2 rfl) ?_
    refine lv_iconst (v := 3) hx hb dX2_allowsDigit_14 (by decide) ?_
    refine lv_icmp_ne (tgt := 25) hx hb dX2_allowsDigit_15 (by decide) (fun k3 => ?_) (fun k3 => ?_)
    · rw [if_neg k3] at h
      refine lv_aload_n hx hb dX2_allowsDigit_25 rfl (lv_at hl 0 rfl) ?_
      refine va_get (D := D) (ci := 2) (v := .ref (q 25)) (C := RX2) (T := TX2) (N := 4) hx hb hts (fun w h => sub_z _ (inX2 w h)) hown hK hP 23 rfl rfl 2 (by decide) (hts _ (sub_z _ k_74)) (fun _ h => h) rfl dX2_allowsDigit_26 ?_
      refine lv_iload_n hx hb dX2_allowsDigit_29 rfl (lv_at hl 1 rfl) ?_
      obtain ⟨k4, h⟩ := dg h
      refine va_zald (f := c2.2.1) hx hb hK hP 25 3 rfl rfl (inb_vp k4) dX2_allowsDigit_30 ?_
      refine lv_if_eq (tgt := 36) hx hb dX2_allowsDigit_31 (by decide) (fun k5 => ?_) (fun k5 => ?_)
      · rw [if_pos k5] at h
        refine lv_aload_n hx hb dX2_allowsDigit_36 rfl (lv_at hl 0 rfl) ?_
        refine va_get (D := D) (ci := 2) (v := .ref (q 10)) (C := RX2) (T := TX2) (N := 4) hx hb hts (fun w h => sub_z _ (inX2 w h)) hown hK hP 23 rfl rfl 0 (by decide) (hts _ (sub_z _ k_72)) (fun _ h => h) rfl dX2_allowsDigit_37 ?_
        refine lv_iload_n hx hb dX2_allowsDigit_40 rfl (lv_at hl 1 rfl) ?_
        obtain ⟨v6, hv6, h⟩ := dq h
        refine cVi (As := [.int a1]) (rest := []) ⟨hx, hb, hml, hown, hts⟩ (c_X3_kind (dT := dT) (rs := rs) (g := g) (bh := bh) (c1 := c1) (c2 := c2) (re := re) (pl := pl) (cl := cl) hD hv6) (cwV 1 hts (good_V sub_z k_397 k_354 k_355 k_3 k_356) rfl rfl rfl (by decide +kernel) (by decide)) (va_recv hK hP (ci := 3) (q0 := 10) rfl rfl) hK hP hS rfl hl.1 rfl (Nat.le_of_ble_eq_true rfl) dX2_allowsDigit_41 (by decide) (fun H locs hP hS => ?_)
        refine lv_istore (lv' := [(4, .int v6), (0, .ref (q 23)), (1, .int a1), (2, .int a2), (3, .int a3)]) hx hb dX2_allowsDigit_44 hl (by decide) rfl (fun ls hl => ?_)
        refine lv_iload_n hx hb dX2_allowsDigit_46 rfl (lv_at hl 3 rfl) ?_
        refine lv_iconst (v := 2) hx hb dX2_allowsDigit_47 (by decide) ?_
        refine lv_icmp_ne (tgt := 69) hx hb dX2_allowsDigit_48 (by decide) (fun k7 => ?_) (fun k7 => ?_)
        · rw [if_neg k7] at h
          refine lv_iload hx hb dX2_allowsDigit_69 (lv_at hl 0 rfl) ?_
          refine lv_iconst (v := 3) hx hb dX2_allowsDigit_71 (by decide) ?_
          refine lv_icmp_ne (tgt := 89) hx hb dX2_allowsDigit_72 (by decide) (fun k8 => ?_) (fun k8 => ?_)
          · rw [if_neg k8] at h
            refine lv_iload hx hb dX2_allowsDigit_89 (lv_at hl 0 rfl) ?_
            refine lv_iconst (v := 1) hx hb dX2_allowsDigit_91 (by decide) ?_
            refine lv_icmp_ne (tgt := 111) hx hb dX2_allowsDigit_92 (by decide) (fun k9 => ?_) (fun k9 => ?_)
            · rw [if_neg k9] at h
              refine lv_iconst (v := 1) hx hb dX2_allowsDigit_111 (by decide) ?_
              refine lv_goto (tgt := 116) hx hb dX2_allowsDigit_112 (by decide) ?_
              obtain rfl := Option.some.inj h
              exact rZ (v := (1 : Int32)) hx hb hr hlk rfl hK hP hS dX2_allowsDigit_116
            · rw [if_pos k9] at h
              refine lv_iload_n hx hb dX2_allowsDigit_95 rfl (lv_at hl 4 rfl) ?_
              refine lv_aload_n hx hb dX2_allowsDigit_96 rfl (lv_at hl 1 rfl) ?_
              refine va_get (D := D) (ci := 2) (v := .ref (q 10)) (C := RX2) (T := TX2) (N := 4) hx hb hts (fun w h => sub_z _ (inX2 w h)) hown hK hP 23 rfl rfl 0 (by decide) (hts _ (sub_z _ k_72)) (fun _ h => h) rfl dX2_allowsDigit_97 ?_
              refine lv_iload_n hx hb dX2_allowsDigit_100 rfl (lv_at hl 2 rfl) ?_
              obtain ⟨v10, hv10, h⟩ := dq h
              refine cVi (As := [.int a1]) (rest := [.int a3]) ⟨hx, hb, hml, hown, hts⟩ (c_X3_with (dT := dT) (rs := rs) (g := g) (bh := bh) (c1 := c1) (c2 := c2) (re := re) (pl := pl) (cl := cl) hD hv10) (cwV 1 hts (good_V sub_z k_402 k_362 k_363 k_3 k_364) rfl rfl rfl (by decide +kernel) (by decide)) (va_recv hK hP (ci := 3) (q0 := 10) rfl rfl) hK hP hS rfl hl.1 rfl (Nat.le_of_ble_eq_true rfl) dX2_allowsDigit_101 (by decide) (fun H locs hP hS => ?_)
              obtain ⟨v11, hv11, h⟩ := dq h
              refine cSi (As := [.int a3, .int v10]) (rest := []) ⟨hx, hb, hml, hown, hts⟩ (c_X4_digit_x (dT := dT) (rs := rs) (g := g) (bh := bh) (c1 := c1) (c2 := c2) (re := re) (pl := pl) (cl := cl) hD hv11) (va_cwS 2 hts (good_S sub_z k_403 k_404 k_11 k_405) rfl rfl rfl (by decide +kernel) (by decide)) hK hP hS rfl hl.1 rfl (Nat.le_of_ble_eq_true rfl) dX2_allowsDigit_104 (by decide) (fun H locs hP hS => ?_)
              refine lv_iconst (v := 1) hx hb dX2_allowsDigit_107 (by decide) ?_
              refine lv_icmp_ne (tgt := 115) hx hb dX2_allowsDigit_108 (by decide) (fun k12 => ?_) (fun k12 => ?_)
              · rw [if_neg k12] at h
                refine lv_iconst (v := 0) hx hb dX2_allowsDigit_115 (by decide) ?_
                obtain rfl := Option.some.inj h
                exact rZ (v := (0 : Int32)) hx hb hr hlk rfl hK hP hS dX2_allowsDigit_116
              · rw [if_pos k12] at h
                refine lv_iconst (v := 1) hx hb dX2_allowsDigit_111 (by decide) ?_
                refine lv_goto (tgt := 116) hx hb dX2_allowsDigit_112 (by decide) ?_
                obtain rfl := Option.some.inj h
                exact rZ (v := (1 : Int32)) hx hb hr hlk rfl hK hP hS dX2_allowsDigit_116
          · rw [if_pos k8] at h
            refine lv_aload_n hx hb dX2_allowsDigit_75 rfl (lv_at hl 1 rfl) ?_
            refine lv_iload_n hx hb dX2_allowsDigit_76 rfl (lv_at hl 2 rfl) ?_
            obtain ⟨v13, hv13, h⟩ := dq h
            refine cVi (As := [.int a1]) (rest := []) ⟨hx, hb, hml, hown, hts⟩ (c_X2_falls_2 (dT := dT) (rs := rs) (g := g) (bh := bh) (c1 := c1) (c2 := c2) (re := re) (pl := pl) (cl := cl) hD hv13) (cwV 1 hts (good_V sub_z k_398 k_400 ks_3 k_5 k_401) rfl rfl rfl (by decide +kernel) (by decide)) (va_recv hK hP (ci := 2) (q0 := 23) rfl rfl) hK hP hS rfl hl.1 rfl (Nat.le_of_ble_eq_true rfl) dX2_allowsDigit_77 (by decide) (fun H locs hP hS => ?_)
            refine lv_if_ne (tgt := 87) hx hb dX2_allowsDigit_80 (by decide) (fun k14 => ?_) (fun k14 => ?_)
            · rw [if_neg k14] at h
              refine lv_iconst (v := 0) hx hb dX2_allowsDigit_87 (by decide) ?_
              obtain rfl := Option.some.inj h
              exact rZ (v := (0 : Int32)) hx hb hr hlk rfl hK hP hS dX2_allowsDigit_88
            · rw [if_pos k14] at h
              refine lv_iconst (v := 1) hx hb dX2_allowsDigit_83 (by decide) ?_
              refine lv_goto (tgt := 88) hx hb dX2_allowsDigit_84 (by decide) ?_
              obtain rfl := Option.some.inj h
              exact rZ (v := (1 : Int32)) hx hb hr hlk rfl hK hP hS dX2_allowsDigit_88
        · rw [if_pos k7] at h
          refine lv_iload hx hb dX2_allowsDigit_51 (lv_at hl 0 rfl) ?_
          refine lv_iconst (v := 2) hx hb dX2_allowsDigit_53 (by decide) ?_
          refine lv_icmp_eq (tgt := 63) hx hb dX2_allowsDigit_54 (by decide) (fun k15 => ?_) (fun k15 => ?_)
          · rw [if_pos k15] at h
            refine lv_iconst (v := 1) hx hb dX2_allowsDigit_63 (by decide) ?_
            refine lv_goto (tgt := 68) hx hb dX2_allowsDigit_64 (by decide) ?_
            obtain rfl := Option.some.inj h
            exact rZ (v := (1 : Int32)) hx hb hr hlk rfl hK hP hS dX2_allowsDigit_68
          · rw [if_neg k15] at h
            refine lv_iload hx hb dX2_allowsDigit_57 (lv_at hl 0 rfl) ?_
            refine lv_iconst (v := 4) hx hb dX2_allowsDigit_59 (by decide) ?_
            refine lv_icmp_ne (tgt := 67) hx hb dX2_allowsDigit_60 (by decide) (fun k16 => ?_) (fun k16 => ?_)
            · rw [if_neg k16] at h
              refine lv_iconst (v := 0) hx hb dX2_allowsDigit_67 (by decide) ?_
              obtain rfl := Option.some.inj h
              exact rZ (v := (0 : Int32)) hx hb hr hlk rfl hK hP hS dX2_allowsDigit_68
            · rw [if_pos k16] at h
              refine lv_iconst (v := 1) hx hb dX2_allowsDigit_63 (by decide) ?_
              refine lv_goto (tgt := 68) hx hb dX2_allowsDigit_64 (by decide) ?_
              obtain rfl := Option.some.inj h
              exact rZ (v := (1 : Int32)) hx hb hr hlk rfl hK hP hS dX2_allowsDigit_68
      · rw [if_neg k5] at h
        refine lv_iconst (v := 0) hx hb dX2_allowsDigit_34 (by decide) ?_
        obtain rfl := Option.some.inj h
        exact rZ (v := (0 : Int32)) hx hb hr hlk rfl hK hP hS dX2_allowsDigit_35
    · rw [if_pos k3] at h
      refine lv_aload_n hx hb dX2_allowsDigit_18 rfl (lv_at hl 0 rfl) ?_
      refine va_get (D := D) (ci := 2) (v := .ref (q 25)) (C := RX2) (T := TX2) (N := 4) hx hb hts (fun w h => sub_z _ (inX2 w h)) hown hK hP 23 rfl rfl 2 (by decide) (hts _ (sub_z _ k_74)) (fun _ h => h) rfl dX2_allowsDigit_19 ?_
      refine lv_iload_n hx hb dX2_allowsDigit_22 rfl (lv_at hl 1 rfl) ?_
      obtain ⟨k17, h⟩ := dg h
      refine va_zald (f := c2.2.1) hx hb hK hP 25 3 rfl rfl (inb_vp k17) dX2_allowsDigit_23 ?_
      obtain ⟨k18, h⟩ := dg h
      obtain rfl := Option.some.inj h
      exact rZ hx hb hr hlk (isb_n k18) hK hP hS dX2_allowsDigit_24
  · rw [if_pos k2] at h
    refine lv_iconst (v := 0) hx hb dX2_allowsDigit_11 (by decide) ?_
    obtain rfl := Option.some.inj h
    exact rZ (v := (0 : Int32)) hx hb hr hlk rfl hK hP hS dX2_allowsDigit_12

set_option maxRecDepth 100000 in
set_option maxHeartbeats 4000000 in
theorem c_X2_allows_2 {l : Launch} {D : va_G} {dT : Nat → ClassId} {q : Nat → Nat} (hD : xD q) {rs : (Nat → tRow)} {g : tG_} {bh : tBH} {c1 : tC} {c2 : tC} {re : tRE} {pl : tPL} {cl : tCL} {a1 : Int32} {v : Int32} (h : f_X2_allows g c2 a1 = some v) : MG l yX2_allows cX2_allows 5 (some .boolean) 2 [.ref (q 23), .int a1] D (tyL dT) (wX dT q rs g bh c1 c2 re pl cl) (QI D (tyL dT) (xA q) (wX dT q rs g bh c1 c2 re pl cl) v) (xA q) := by
  refine MG.mk (by decide +kernel) (Nat.le_of_ble_eq_true rfl) ?_
  intro p e s m below meth c hx hb hr hml hown hts hlk hK hP ls hl
  have hown : s.vm.findClass RX2 = some m.cls := hown
  have hS : va_S (xA q) s.heap s.heap [] := va_S.rf
  have hl : lv_has ls 5 [(0, .ref (q 23)), (1, .int a1)] := hl
  rw [f_X2_allows] at h
  refine lv_iload_n hx hb dX2_allows_0 rfl (lv_at hl 1 rfl) ?_
  refine lv_istore_n (lv' := [(2, .int a1), (0, .ref (q 23)), (1, .int a1)]) hx hb dX2_allows_1 rfl hl (by decide) rfl (fun ls hl => ?_)
  refine lv_iconst (v := 0) hx hb dX2_allows_2 (by decide) ?_
  refine lv_istore_n (lv' := [(3, .int (0 : Int32)), (2, .int a1), (0, .ref (q 23)), (1, .int a1)]) hx hb dX2_allows_3 rfl hl (by decide) rfl (fun ls hl => ?_)
  have hL4_6 : ∀ (n : Nat) (x2_4 : Int32) (x3_4 : Int32), f_X2_allows_4 n g c2 a1 x2_4 x3_4 = some v → ∀ (ls : Array Slot) (H : Heap) (locs : List Loc), lv_has ls 5 [(0, .ref (q 23)), (1, .int a1), (2, .int x2_4), (3, .int x3_4)] → va_P D vwCl (wX dT q rs g bh c1 c2 re pl cl) H → va_S (xA q) s.heap H locs → W p l e (rmD 2) s m [.ref (q 23), .int a1].toArray below meth c H locs 0 0 (MQ below (QI D (tyL dT) (xA q) (wX dT q rs g bh c1 c2 re pl cl) v) [.ref (q 23), .int a1].toArray s 0 0 (xA q)) (F0 m 4 ls []) := by
    intro n
    induction n with
    | zero => intro x2_4 x3_4 h; exact absurd h (by simp [f_X2_allows_4])
    | succ n ih =>
      intro x2_4 x3_4 h ls H locs hl hP hS
      rw [f_X2_allows_4] at h
      refine lv_iload_n hx hb dX2_allows_4 rfl (lv_at hl 3 rfl) ?_
      refine lv_iconst (v := 4) hx hb dX2_allows_5 (by decide) ?_
      refine lv_icmp_ge (tgt := 46) hx hb dX2_allows_6 (by decide) (fun k1 => ?_) (fun k1 => ?_)
      · rw [if_pos k1] at h
        refine lv_iconst (v := 1) hx hb dX2_allows_46 (by decide) ?_
        obtain rfl := Option.some.inj h
        exact rZ (v := (1 : Int32)) hx hb hr hlk rfl hK hP hS dX2_allows_47
      · rw [if_neg k1] at h
        refine lv_iload_n hx hb dX2_allows_9 rfl (lv_at hl 2 rfl) ?_
        refine lv_if_eq (tgt := 46) hx hb dX2_allows_10 (by decide) (fun k2 => ?_) (fun k2 => ?_)
        · rw [if_pos k2] at h
          refine lv_iconst (v := 1) hx hb dX2_allows_46 (by decide) ?_
          obtain rfl := Option.some.inj h
          exact rZ (v := (1 : Int32)) hx hb hr hlk rfl hK hP hS dX2_allows_47
        · rw [if_neg k2] at h
          refine lv_iload_n hx hb dX2_allows_13 rfl (lv_at hl 2 rfl) ?_
          refine lv_iconst (v := 3) hx hb dX2_allows_14 (by decide) ?_
          refine lv_iand hx hb dX2_allows_15 ?_
          refine lv_istore (lv' := [(4, .int (x2_4 &&& (3 : Int32))), (0, .ref (q 23)), (1, .int a1), (2, .int x2_4), (3, .int x3_4)]) hx hb dX2_allows_16 hl (by decide) rfl (fun ls hl => ?_)
          refine lv_iload hx hb dX2_allows_18 (lv_at hl 0 rfl) ?_
          refine lv_if_eq (tgt := 36) hx hb dX2_allows_20 (by decide) (fun k3 => ?_) (fun k3 => ?_)
          · rw [if_pos k3] at h
            refine lv_iload_n hx hb dX2_allows_36 rfl (lv_at hl 3 rfl) ?_
            refine lv_iconst (v := 2) hx hb dX2_allows_37 (by decide) ?_
            refine lv_ishr hx hb dX2_allows_38 ?_
            refine lv_istore_n (lv' := [(2, .int (x2_4 >>> ((2 : Int32) &&& 31))), (4, .int (x2_4 &&& (3 : Int32))), (0, .ref (q 23)), (1, .int a1), (3, .int x3_4)]) hx hb dX2_allows_39 rfl hl (by decide) rfl (fun ls hl => ?_)
            refine lv_iinc (v := (x3_4 + (1 : Int32))) (lv' := [(3, .int (x3_4 + (1 : Int32))), (2, .int (x2_4 >>> ((2 : Int32) &&& 31))), (4, .int (x2_4 &&& (3 : Int32))), (0, .ref (q 23)), (1, .int a1)]) hx hb dX2_allows_40 hl (k := 4) rfl rfl (by decide) rfl (fun ls hl => ?_)
            refine lv_goto (tgt := 4) hx hb dX2_allows_43 (by decide) ?_
            exact ih _ _ h _ _ _ (lv_sub hl [3, 4, 1, 0] rfl) hP hS
          · rw [if_neg k3] at h
            refine lv_aload_n hx hb dX2_allows_23 rfl (lv_at hl 1 rfl) ?_
            refine lv_iload_n hx hb dX2_allows_24 rfl (lv_at hl 4 rfl) ?_
            refine lv_iload hx hb dX2_allows_25 (lv_at hl 0 rfl) ?_
            refine lv_iload_n hx hb dX2_allows_27 rfl (lv_at hl 2 rfl) ?_
            obtain ⟨v4, hv4, h⟩ := dq h
            refine cVi (As := [.int x3_4, .int (x2_4 &&& (3 : Int32)), .int a1]) (rest := []) ⟨hx, hb, hml, hown, hts⟩ (c_X2_allowsDigit_2 (dT := dT) (rs := rs) (g := g) (bh := bh) (c1 := c1) (c2 := c2) (re := re) (pl := pl) (cl := cl) hD hv4) (cwV 3 hts (good_V sub_z k_392 k_394 ks_2 k_5 k_395) rfl rfl rfl (by decide +kernel) (by decide)) (va_recv hK hP (ci := 2) (q0 := 23) rfl rfl) hK hP hS rfl hl.1 rfl (Nat.le_of_ble_eq_true rfl) dX2_allows_28 (by decide) (fun H locs hP hS => ?_)
            refine lv_if_ne (tgt := 36) hx hb dX2_allows_31 (by decide) (fun k5 => ?_) (fun k5 => ?_)
            · rw [if_neg k5] at h
              refine lv_iload_n hx hb dX2_allows_36 rfl (lv_at hl 3 rfl) ?_
              refine lv_iconst (v := 2) hx hb dX2_allows_37 (by decide) ?_
              refine lv_ishr hx hb dX2_allows_38 ?_
              refine lv_istore_n (lv' := [(2, .int (x2_4 >>> ((2 : Int32) &&& 31))), (4, .int (x2_4 &&& (3 : Int32))), (0, .ref (q 23)), (1, .int a1), (3, .int x3_4)]) hx hb dX2_allows_39 rfl hl (by decide) rfl (fun ls hl => ?_)
              refine lv_iinc (v := (x3_4 + (1 : Int32))) (lv' := [(3, .int (x3_4 + (1 : Int32))), (2, .int (x2_4 >>> ((2 : Int32) &&& 31))), (4, .int (x2_4 &&& (3 : Int32))), (0, .ref (q 23)), (1, .int a1)]) hx hb dX2_allows_40 hl (k := 4) rfl rfl (by decide) rfl (fun ls hl => ?_)
              refine lv_goto (tgt := 4) hx hb dX2_allows_43 (by decide) ?_
              exact ih _ _ h _ _ _ (lv_sub hl [3, 4, 1, 0] rfl) hP hS
            · rw [if_pos k5] at h
              refine lv_iconst (v := 0) hx hb dX2_allows_34 (by decide) ?_
              obtain rfl := Option.some.inj h
              exact rZ (v := (0 : Int32)) hx hb hr hlk rfl hK hP hS dX2_allows_35
  exact hL4_6 _ _ _ h _ _ _ (lv_sub hl [2, 3, 1, 0] rfl) hP hS

set_option maxRecDepth 100000 in
set_option maxHeartbeats 4000000 in
theorem c_X2_turn_1 {l : Launch} {D : va_G} {dT : Nat → ClassId} {q : Nat → Nat} (hD : xD q) {rs : (Nat → tRow)} {g : tG_} {bh : tBH} {c1 : tC} {c2 : tC} {re : tRE} {pl : tPL} {cl : tCL} {a1 : Int32} {v : tC} (h : f_X2_turn g c1 a1 = some v) : MG l yX2_turn cX2_turn 2 none 1 [.ref (q 15), .int a1] D (tyL dT) (wX dT q rs g bh c1 c2 re pl cl) (QV D (tyL dT) (xA q) (wX dT q rs g bh v c2 re pl cl)) (xA q) := by
  refine MG.mk (by decide +kernel) (Nat.le_of_ble_eq_true rfl) ?_
  intro p e s m below meth c hx hb hr hml hown hts hlk hK hP ls hl
  have hown : s.vm.findClass RX2 = some m.cls := hown
  have hS : va_S (xA q) s.heap s.heap [] := va_S.rf
  have hl : lv_has ls 2 [(0, .ref (q 15)), (1, .int a1)] := hl
  rw [f_X2_turn] at h
  refine lv_aload_n hx hb dX2_turn_0 rfl (lv_at hl 0 rfl) ?_
  refine va_get (D := D) (ci := 2) (v := .ref (q 16)) (C := RX2) (T := TX2) (N := 4) hx hb hts (fun w h => sub_z _ (inX2 w h)) hown hK hP 15 rfl rfl 1 (by decide) (hts _ (sub_z _ k_73)) (fun _ h => h) rfl dX2_turn_1 ?_
  refine lv_iload_n hx hb dX2_turn_4 rfl (lv_at hl 1 rfl) ?_
  refine lv_aload_n hx hb dX2_turn_5 rfl (lv_at hl 0 rfl) ?_
  refine va_get (D := D) (ci := 2) (v := .ref (q 10)) (C := RX2) (T := TX2) (N := 4) hx hb hts (fun w h => sub_z _ (inX2 w h)) hown hK hP 15 rfl rfl 0 (by decide) (hts _ (sub_z _ k_72)) (fun _ h => h) rfl dX2_turn_6 ?_
  refine lv_iload_n hx hb dX2_turn_9 rfl (lv_at hl 1 rfl) ?_
  obtain ⟨v1, hv1, h⟩ := dq h
  refine cVi (As := [.int a1]) (rest := [.int a1, .ref (q 16)]) ⟨hx, hb, hml, hown, hts⟩ (c_X3_grains (dT := dT) (rs := rs) (g := g) (bh := bh) (c1 := c1) (c2 := c2) (re := re) (pl := pl) (cl := cl) hD hv1) (cwV 1 hts (good_V sub_z k_438 k_358 k_359 k_3 k_360) rfl rfl rfl (by decide +kernel) (by decide)) (va_recv hK hP (ci := 3) (q0 := 10) rfl rfl) hK hP hS rfl hl.1 rfl (Nat.le_of_ble_eq_true rfl) dX2_turn_10 (by decide) (fun H locs hP hS => ?_)
  refine lv_aload_n hx hb dX2_turn_13 rfl (lv_at hl 0 rfl) ?_
  refine va_get (D := D) (ci := 2) (v := .ref (q 16)) (C := RX2) (T := TX2) (N := 4) hx hb hts (fun w h => sub_z _ (inX2 w h)) hown hK hP 15 rfl rfl 1 (by decide) (hts _ (sub_z _ k_73)) (fun _ h => h) rfl dX2_turn_14 ?_
  refine lv_iload_n hx hb dX2_turn_17 rfl (lv_at hl 1 rfl) ?_
  obtain ⟨k2, h⟩ := dg h
  refine va_iald (f := c1.1) hx hb hK hP 16 0 rfl rfl (inb_vp k2) dX2_turn_18 ?_
  refine lv_isub hx hb dX2_turn_19 ?_
  obtain ⟨k3, h⟩ := dg h
  refine va_iast (f := c1.1) hx hb hK hP (xD.w hD) hS 16 0 rfl rfl (inb_vp k3) dX2_turn_20 (fun H locs hP _ hS => ?_)
  have hP : va_P D vwCl (wX dT q rs g bh ((upd c1.1 a1.toNatClampNeg (v1 - (c1.1 a1.toNatClampNeg))), c1.2.1, c1.2.2) c2 re pl cl) H := hP
  refine lv_aload_n hx hb dX2_turn_21 rfl (lv_at hl 0 rfl) ?_
  refine va_get (D := D) (ci := 2) (v := .ref (q 10)) (C := RX2) (T := TX2) (N := 4) hx hb hts (fun w h => sub_z _ (inX2 w h)) hown hK hP 15 rfl rfl 0 (by decide) (hts _ (sub_z _ k_72)) (fun _ h => h) rfl dX2_turn_22 ?_
  refine lv_iload_n hx hb dX2_turn_25 rfl (lv_at hl 1 rfl) ?_
  obtain ⟨v4, hv4, h⟩ := dq h
  refine cVi (As := [.int a1]) (rest := []) ⟨hx, hb, hml, hown, hts⟩ (c_X3_kind (dT := dT) (rs := rs) (g := g) (bh := bh) (c1 := ((upd c1.1 a1.toNatClampNeg (v1 - (c1.1 a1.toNatClampNeg))), c1.2.1, c1.2.2)) (c2 := c2) (re := re) (pl := pl) (cl := cl) hD hv4) (cwV 1 hts (good_V sub_z k_397 k_354 k_355 k_3 k_356) rfl rfl rfl (by decide +kernel) (by decide)) (va_recv hK hP (ci := 3) (q0 := 10) rfl rfl) hK hP hS rfl hl.1 rfl (Nat.le_of_ble_eq_true rfl) dX2_turn_26 (by decide) (fun H locs hP hS => ?_)
  refine lv_iconst (v := 4) hx hb dX2_turn_29 (by decide) ?_
  refine lv_icmp_ne (tgt := 47) hx hb dX2_turn_30 (by decide) (fun k5 => ?_) (fun k5 => ?_)
  · rw [if_neg k5] at h
    obtain rfl := Option.some.inj h
    exact rV hx hb hr hlk hK hP hS dX2_turn_47
  · rw [if_pos k5] at h
    refine lv_aload_n hx hb dX2_turn_33 rfl (lv_at hl 0 rfl) ?_
    refine va_get (D := D) (ci := 2) (v := .ref (q 18)) (C := RX2) (T := TX2) (N := 4) hx hb hts (fun w h => sub_z _ (inX2 w h)) hown hK hP 15 rfl rfl 3 (by decide) (hts _ (sub_z _ k_75)) (fun _ h => h) rfl dX2_turn_34 ?_
    refine lv_iload_n hx hb dX2_turn_37 rfl (lv_at hl 1 rfl) ?_
    refine lv_aload_n hx hb dX2_turn_38 rfl (lv_at hl 0 rfl) ?_
    refine va_get (D := D) (ci := 2) (v := .ref (q 10)) (C := RX2) (T := TX2) (N := 4) hx hb hts (fun w h => sub_z _ (inX2 w h)) hown hK hP 15 rfl rfl 0 (by decide) (hts _ (sub_z _ k_72)) (fun _ h => h) rfl dX2_turn_39 ?_
    refine lv_iload_n hx hb dX2_turn_42 rfl (lv_at hl 1 rfl) ?_
    obtain ⟨v6, hv6, h⟩ := dq h
    refine cVi (As := [.int a1]) (rest := [.int a1, .ref (q 18)]) ⟨hx, hb, hml, hown, hts⟩ (c_X3_with (dT := dT) (rs := rs) (g := g) (bh := bh) (c1 := ((upd c1.1 a1.toNatClampNeg (v1 - (c1.1 a1.toNatClampNeg))), c1.2.1, c1.2.2)) (c2 := c2) (re := re) (pl := pl) (cl := cl) hD hv6) (cwV 1 hts (good_V sub_z k_402 k_362 k_363 k_3 k_364) rfl rfl rfl (by decide +kernel) (by decide)) (va_recv hK hP (ci := 3) (q0 := 10) rfl rfl) hK hP hS rfl hl.1 rfl (Nat.le_of_ble_eq_true rfl) dX2_turn_43 (by decide) (fun H locs hP hS => ?_)
    obtain ⟨k7, h⟩ := dg h
    refine va_iast (f := c1.2.2) hx hb hK hP (xD.w hD) hS 18 0 rfl rfl (inb_vp k7) dX2_turn_46 (fun H locs hP _ hS => ?_)
    have hP : va_P D vwCl (wX dT q rs g bh ((upd c1.1 a1.toNatClampNeg (v1 - (c1.1 a1.toNatClampNeg))), c1.2.1, (upd c1.2.2 a1.toNatClampNeg v6)) c2 re pl cl) H := hP
    obtain rfl := Option.some.inj h
    exact rV hx hb hr hlk hK hP hS dX2_turn_47

set_option maxRecDepth 100000 in
set_option maxHeartbeats 4000000 in
theorem c_X2_handle_1 {l : Launch} {D : va_G} {dT : Nat → ClassId} {q : Nat → Nat} (hD : xD q) {rs : (Nat → tRow)} {g : tG_} {bh : tBH} {c1 : tC} {c2 : tC} {re : tRE} {pl : tPL} {cl : tCL} {a1 : Int32} {v : tC} (h : f_X2_handle g c1 a1 = some v) : MG l yX2_handle cX2_handle 3 none 2 [.ref (q 15), .int a1] D (tyL dT) (wX dT q rs g bh c1 c2 re pl cl) (QV D (tyL dT) (xA q) (wX dT q rs g bh v c2 re pl cl)) (xA q) := by
  refine MG.mk (by decide +kernel) (Nat.le_of_ble_eq_true rfl) ?_
  intro p e s m below meth c hx hb hr hml hown hts hlk hK hP ls hl
  have hown : s.vm.findClass RX2 = some m.cls := hown
  have hS : va_S (xA q) s.heap s.heap [] := va_S.rf
  have hl : lv_has ls 3 [(0, .ref (q 15)), (1, .int a1)] := hl
  rw [f_X2_handle] at h
  refine lv_iconst (v := 0) hx hb dX2_handle_0 (by decide) ?_
  refine lv_istore_n (lv' := [(2, .int (0 : Int32)), (0, .ref (q 15)), (1, .int a1)]) hx hb dX2_handle_1 rfl hl (by decide) rfl (fun ls hl => ?_)
  have hL2_10 : ∀ (n : Nat) (c1_2 : tC) (x2_2 : Int32) (y : Int32 × tC), f_X2_handle_2 n g c1_2 a1 x2_2 = some y → ∀ (ls : Array Slot) (H : Heap) (locs : List Loc), lv_has ls 3 [(0, .ref (q 15)), (1, .int a1), (2, .int x2_2)] → va_P D vwCl (wX dT q rs g bh c1_2 c2 re pl cl) H → va_S (xA q) s.heap H locs → ∀ Q : State → Prop, (∀ (ls : Array Slot) (H : Heap) (locs : List Loc), lv_has ls 3 [(0, .ref (q 15)), (1, .int a1), (2, .int y.1)] → va_P D vwCl (wX dT q rs g bh y.2 c2 re pl cl) H → va_S (xA q) s.heap H locs → W p l e (rmD 2) s m [.ref (q 15), .int a1].toArray below meth c H locs 0 0 Q (F0 m 78 ls [])) → W p l e (rmD 2) s m [.ref (q 15), .int a1].toArray below meth c H locs 0 0 Q (F0 m 2 ls []) := by
    intro n
    induction n with
    | zero => intro c1_2 x2_2 y h; exact absurd h (by simp [f_X2_handle_2])
    | succ n ih =>
      intro c1_2 x2_2 y h ls H locs hl hP hS Q kk
      rw [f_X2_handle_2] at h
      refine lv_iload_n hx hb dX2_handle_2 rfl (lv_at hl 2 rfl) ?_
      refine lv_aload_n hx hb dX2_handle_3 rfl (lv_at hl 0 rfl) ?_
      refine va_get (D := D) (ci := 2) (v := .ref (q 10)) (C := RX2) (T := TX2) (N := 4) hx hb hts (fun w h => sub_z _ (inX2 w h)) hown hK hP 15 rfl rfl 0 (by decide) (hts _ (sub_z _ k_72)) (fun _ h => h) rfl dX2_handle_4 ?_
      obtain ⟨v1, hv1, h⟩ := dq h
      refine cVi (As := []) (rest := [.int x2_2]) ⟨hx, hb, hml, hown, hts⟩ (c_X3_count (dT := dT) (rs := rs) (g := g) (bh := bh) (c1 := c1_2) (c2 := c2) (re := re) (pl := pl) (cl := cl) hD hv1) (cwV 0 hts (good_V sub_z k_433 k_342 k_343 k_3 k_344) rfl rfl rfl (by decide +kernel) (by decide)) (va_recv hK hP (ci := 3) (q0 := 10) rfl rfl) hK hP hS rfl hl.1 rfl (Nat.le_of_ble_eq_true rfl) dX2_handle_7 (by decide) (fun H locs hP hS => ?_)
      refine lv_icmp_ge (tgt := 78) hx hb dX2_handle_10 (by decide) (fun k2 => ?_) (fun k2 => ?_)
      · rw [if_pos k2] at h
        obtain rfl := Option.some.inj h
        exact kk _ _ _ (lv_sub hl [0, 1, 2] rfl) hP hS
      · rw [if_neg k2] at h
        refine lv_iload_n hx hb dX2_handle_13 rfl (lv_at hl 1 rfl) ?_
        refine lv_iload_n hx hb dX2_handle_14 rfl (lv_at hl 2 rfl) ?_
        obtain ⟨v3, hv3, h⟩ := dq h
        refine cSi (As := [.int a1, .int x2_2]) (rest := []) ⟨hx, hb, hml, hown, hts⟩ (c_X4_digit_x (dT := dT) (rs := rs) (g := g) (bh := bh) (c1 := c1_2) (c2 := c2) (re := re) (pl := pl) (cl := cl) hD hv3) (va_cwS 2 hts (good_S sub_z k_403 k_404 k_11 k_405) rfl rfl rfl (by decide +kernel) (by decide)) hK hP hS rfl hl.1 rfl (Nat.le_of_ble_eq_true rfl) dX2_handle_15 (by decide) (fun H locs hP hS => ?_)
        by_cases k4 : v3 = (1 : Int32)
        · rw [if_pos k4] at h
          refine lv_tableIn (tgt := 44) (off := 26) hx hb dX2_handle_18 (by rw [k4]; decide) (by rw [k4]; decide) (by rw [k4]; rfl) (by decide) ?_
          refine lv_aload_n hx hb dX2_handle_44 rfl (lv_at hl 0 rfl) ?_
          refine lv_iload_n hx hb dX2_handle_45 rfl (lv_at hl 2 rfl) ?_
          obtain ⟨v9, hv9, h⟩ := dq h
          refine cVv (As := [.int x2_2]) (rest := []) ⟨hx, hb, hml, hown, hts⟩ (c_X2_turn_1 (dT := dT) (rs := rs) (g := g) (bh := bh) (c1 := c1_2) (c2 := c2) (re := re) (pl := pl) (cl := cl) hD hv9) (cwV 1 hts (good_V sub_z k_434 k_436 ks_5 k_5 k_437) rfl rfl rfl (by decide +kernel) (by decide)) (va_recv hK hP (ci := 2) (q0 := 15) rfl rfl) hK hP hS rfl hl.1 rfl (Nat.le_of_ble_eq_true rfl) dX2_handle_46 (by decide) (fun H locs hP hS => ?_)
          refine lv_goto (tgt := 72) hx hb dX2_handle_49 (by decide) ?_
          refine lv_iinc (v := (x2_2 + (1 : Int32))) (lv' := [(2, .int (x2_2 + (1 : Int32))), (0, .ref (q 15)), (1, .int a1)]) hx hb dX2_handle_72 hl (k := 2) rfl rfl (by decide) rfl (fun ls hl => ?_)
          refine lv_goto (tgt := 2) hx hb dX2_handle_75 (by decide) ?_
          exact ih _ _ _ h _ _ _ (lv_sub hl [1, 2, 0] rfl) hP hS _ kk
        · rw [if_neg k4] at h
          by_cases k5 : v3 = (2 : Int32)
          · rw [if_pos k5] at h
            refine lv_tableIn (tgt := 52) (off := 34) hx hb dX2_handle_18 (by rw [k5]; decide) (by rw [k5]; decide) (by rw [k5]; rfl) (by decide) ?_
            refine lv_aload_n hx hb dX2_handle_52 rfl (lv_at hl 0 rfl) ?_
            refine va_get (D := D) (ci := 2) (v := .ref (q 17)) (C := RX2) (T := TX2) (N := 4) hx hb hts (fun w h => sub_z _ (inX2 w h)) hown hK hP 15 rfl rfl 2 (by decide) (hts _ (sub_z _ k_74)) (fun _ h => h) rfl dX2_handle_53 ?_
            refine lv_iload_n hx hb dX2_handle_56 rfl (lv_at hl 2 rfl) ?_
            refine lv_iconst (v := 1) hx hb dX2_handle_57 (by decide) ?_
            obtain ⟨k8, h⟩ := dg h
            refine va_zast (f := c1_2.2.1) hx hb hK hP (xD.w hD) hS 17 3 rfl rfl (inb_vp k8) dX2_handle_58 (fun H locs hP _ hS => ?_)
            have hP : va_P D vwCl (wX dT q rs g bh (c1_2.1, (upd c1_2.2.1 x2_2.toNatClampNeg (vp_nar .boolean (1 : Int32))), c1_2.2.2) c2 re pl cl) H := hP
            refine lv_goto (tgt := 72) hx hb dX2_handle_59 (by decide) ?_
            refine lv_iinc (v := (x2_2 + (1 : Int32))) (lv' := [(2, .int (x2_2 + (1 : Int32))), (0, .ref (q 15)), (1, .int a1)]) hx hb dX2_handle_72 hl (k := 2) rfl rfl (by decide) rfl (fun ls hl => ?_)
            refine lv_goto (tgt := 2) hx hb dX2_handle_75 (by decide) ?_
            exact ih _ _ _ h _ _ _ (lv_sub hl [1, 2, 0] rfl) hP hS _ kk
          · rw [if_neg k5] at h
            by_cases k6 : v3 = (3 : Int32)
            · rw [if_pos k6] at h
              refine lv_tableIn (tgt := 62) (off := 44) hx hb dX2_handle_18 (by rw [k6]; decide) (by rw [k6]; decide) (by rw [k6]; rfl) (by decide) ?_
              refine lv_aload_n hx hb dX2_handle_62 rfl (lv_at hl 0 rfl) ?_
              refine va_get (D := D) (ci := 2) (v := .ref (q 17)) (C := RX2) (T := TX2) (N := 4) hx hb hts (fun w h => sub_z _ (inX2 w h)) hown hK hP 15 rfl rfl 2 (by decide) (hts _ (sub_z _ k_74)) (fun _ h => h) rfl dX2_handle_63 ?_
              refine lv_iload_n hx hb dX2_handle_66 rfl (lv_at hl 2 rfl) ?_
              refine lv_iconst (v := 0) hx hb dX2_handle_67 (by decide) ?_
              obtain ⟨k7, h⟩ := dg h
              refine va_zast (f := c1_2.2.1) hx hb hK hP (xD.w hD) hS 17 3 rfl rfl (inb_vp k7) dX2_handle_68 (fun H locs hP _ hS => ?_)
              have hP : va_P D vwCl (wX dT q rs g bh (c1_2.1, (upd c1_2.2.1 x2_2.toNatClampNeg (vp_nar .boolean (0 : Int32))), c1_2.2.2) c2 re pl cl) H := hP
              refine lv_goto (tgt := 72) hx hb dX2_handle_69 (by decide) ?_
              refine lv_iinc (v := (x2_2 + (1 : Int32))) (lv' := [(2, .int (x2_2 + (1 : Int32))), (0, .ref (q 15)), (1, .int a1)]) hx hb dX2_handle_72 hl (k := 2) rfl rfl (by decide) rfl (fun ls hl => ?_)
              refine lv_goto (tgt := 2) hx hb dX2_handle_75 (by decide) ?_
              exact ih _ _ _ h _ _ _ (lv_sub hl [1, 2, 0] rfl) hP hS _ kk
            · rw [if_neg k6] at h
              refine lv_tableOut (tgt := 72) hx hb dX2_handle_18 (by have n0 := lv_neT (a := 1) k4 (by decide); have n1 := lv_neT (a := 2) k5 (by decide); have n2 := lv_neT (a := 3) k6 (by decide); omega) (by decide) ?_
              refine lv_iinc (v := (x2_2 + (1 : Int32))) (lv' := [(2, .int (x2_2 + (1 : Int32))), (0, .ref (q 15)), (1, .int a1)]) hx hb dX2_handle_72 hl (k := 2) rfl rfl (by decide) rfl (fun ls hl => ?_)
              refine lv_goto (tgt := 2) hx hb dX2_handle_75 (by decide) ?_
              exact ih _ _ _ h _ _ _ (lv_sub hl [1, 2, 0] rfl) hP hS _ kk
  obtain ⟨y11, hy11, h⟩ := dq h
  refine hL2_10 _ _ _ _ hy11 _ _ _ (lv_sub hl [1, 2, 0] rfl) hP hS _ (fun ls H locs hl hP hS => ?_)
  obtain rfl := Option.some.inj h
  exact rV hx hb hr hlk hK hP hS dX2_handle_78

set_option maxRecDepth 100000 in
set_option maxHeartbeats 4000000 in
theorem c_X2_turn_2 {l : Launch} {D : va_G} {dT : Nat → ClassId} {q : Nat → Nat} (hD : xD q) {rs : (Nat → tRow)} {g : tG_} {bh : tBH} {c1 : tC} {c2 : tC} {re : tRE} {pl : tPL} {cl : tCL} {a1 : Int32} {v : tC} (h : f_X2_turn g c2 a1 = some v) : MG l yX2_turn cX2_turn 2 none 1 [.ref (q 23), .int a1] D (tyL dT) (wX dT q rs g bh c1 c2 re pl cl) (QV D (tyL dT) (xA q) (wX dT q rs g bh c1 v re pl cl)) (xA q) := by
  refine MG.mk (by decide +kernel) (Nat.le_of_ble_eq_true rfl) ?_
  intro p e s m below meth c hx hb hr hml hown hts hlk hK hP ls hl
  have hown : s.vm.findClass RX2 = some m.cls := hown
  have hS : va_S (xA q) s.heap s.heap [] := va_S.rf
  have hl : lv_has ls 2 [(0, .ref (q 23)), (1, .int a1)] := hl
  rw [f_X2_turn] at h
  refine lv_aload_n hx hb dX2_turn_0 rfl (lv_at hl 0 rfl) ?_
  refine va_get (D := D) (ci := 2) (v := .ref (q 24)) (C := RX2) (T := TX2) (N := 4) hx hb hts (fun w h => sub_z _ (inX2 w h)) hown hK hP 23 rfl rfl 1 (by decide) (hts _ (sub_z _ k_73)) (fun _ h => h) rfl dX2_turn_1 ?_
  refine lv_iload_n hx hb dX2_turn_4 rfl (lv_at hl 1 rfl) ?_
  refine lv_aload_n hx hb dX2_turn_5 rfl (lv_at hl 0 rfl) ?_
  refine va_get (D := D) (ci := 2) (v := .ref (q 10)) (C := RX2) (T := TX2) (N := 4) hx hb hts (fun w h => sub_z _ (inX2 w h)) hown hK hP 23 rfl rfl 0 (by decide) (hts _ (sub_z _ k_72)) (fun _ h => h) rfl dX2_turn_6 ?_
  refine lv_iload_n hx hb dX2_turn_9 rfl (lv_at hl 1 rfl) ?_
  obtain ⟨v1, hv1, h⟩ := dq h
  refine cVi (As := [.int a1]) (rest := [.int a1, .ref (q 24)]) ⟨hx, hb, hml, hown, hts⟩ (c_X3_grains (dT := dT) (rs := rs) (g := g) (bh := bh) (c1 := c1) (c2 := c2) (re := re) (pl := pl) (cl := cl) hD hv1) (cwV 1 hts (good_V sub_z k_438 k_358 k_359 k_3 k_360) rfl rfl rfl (by decide +kernel) (by decide)) (va_recv hK hP (ci := 3) (q0 := 10) rfl rfl) hK hP hS rfl hl.1 rfl (Nat.le_of_ble_eq_true rfl) dX2_turn_10 (by decide) (fun H locs hP hS => ?_)
  refine lv_aload_n hx hb dX2_turn_13 rfl (lv_at hl 0 rfl) ?_
  refine va_get (D := D) (ci := 2) (v := .ref (q 24)) (C := RX2) (T := TX2) (N := 4) hx hb hts (fun w h => sub_z _ (inX2 w h)) hown hK hP 23 rfl rfl 1 (by decide) (hts _ (sub_z _ k_73)) (fun _ h => h) rfl dX2_turn_14 ?_
  refine lv_iload_n hx hb dX2_turn_17 rfl (lv_at hl 1 rfl) ?_
  obtain ⟨k2, h⟩ := dg h
  refine va_iald (f := c2.1) hx hb hK hP 24 0 rfl rfl (inb_vp k2) dX2_turn_18 ?_
  refine lv_isub hx hb dX2_turn_19 ?_
  obtain ⟨k3, h⟩ := dg h
  refine va_iast (f := c2.1) hx hb hK hP (xD.w hD) hS 24 0 rfl rfl (inb_vp k3) dX2_turn_20 (fun H locs hP _ hS => ?_)
  have hP : va_P D vwCl (wX dT q rs g bh c1 ((upd c2.1 a1.toNatClampNeg (v1 - (c2.1 a1.toNatClampNeg))), c2.2.1, c2.2.2) re pl cl) H := hP
  refine lv_aload_n hx hb dX2_turn_21 rfl (lv_at hl 0 rfl) ?_
  refine va_get (D := D) (ci := 2) (v := .ref (q 10)) (C := RX2) (T := TX2) (N := 4) hx hb hts (fun w h => sub_z _ (inX2 w h)) hown hK hP 23 rfl rfl 0 (by decide) (hts _ (sub_z _ k_72)) (fun _ h => h) rfl dX2_turn_22 ?_
  refine lv_iload_n hx hb dX2_turn_25 rfl (lv_at hl 1 rfl) ?_
  obtain ⟨v4, hv4, h⟩ := dq h
  refine cVi (As := [.int a1]) (rest := []) ⟨hx, hb, hml, hown, hts⟩ (c_X3_kind (dT := dT) (rs := rs) (g := g) (bh := bh) (c1 := c1) (c2 := ((upd c2.1 a1.toNatClampNeg (v1 - (c2.1 a1.toNatClampNeg))), c2.2.1, c2.2.2)) (re := re) (pl := pl) (cl := cl) hD hv4) (cwV 1 hts (good_V sub_z k_397 k_354 k_355 k_3 k_356) rfl rfl rfl (by decide +kernel) (by decide)) (va_recv hK hP (ci := 3) (q0 := 10) rfl rfl) hK hP hS rfl hl.1 rfl (Nat.le_of_ble_eq_true rfl) dX2_turn_26 (by decide) (fun H locs hP hS => ?_)
  refine lv_iconst (v := 4) hx hb dX2_turn_29 (by decide) ?_
  refine lv_icmp_ne (tgt := 47) hx hb dX2_turn_30 (by decide) (fun k5 => ?_) (fun k5 => ?_)
  · rw [if_neg k5] at h
    obtain rfl := Option.some.inj h
    exact rV hx hb hr hlk hK hP hS dX2_turn_47
  · rw [if_pos k5] at h
    refine lv_aload_n hx hb dX2_turn_33 rfl (lv_at hl 0 rfl) ?_
    refine va_get (D := D) (ci := 2) (v := .ref (q 26)) (C := RX2) (T := TX2) (N := 4) hx hb hts (fun w h => sub_z _ (inX2 w h)) hown hK hP 23 rfl rfl 3 (by decide) (hts _ (sub_z _ k_75)) (fun _ h => h) rfl dX2_turn_34 ?_
    refine lv_iload_n hx hb dX2_turn_37 rfl (lv_at hl 1 rfl) ?_
    refine lv_aload_n hx hb dX2_turn_38 rfl (lv_at hl 0 rfl) ?_
    refine va_get (D := D) (ci := 2) (v := .ref (q 10)) (C := RX2) (T := TX2) (N := 4) hx hb hts (fun w h => sub_z _ (inX2 w h)) hown hK hP 23 rfl rfl 0 (by decide) (hts _ (sub_z _ k_72)) (fun _ h => h) rfl dX2_turn_39 ?_
    refine lv_iload_n hx hb dX2_turn_42 rfl (lv_at hl 1 rfl) ?_
    obtain ⟨v6, hv6, h⟩ := dq h
    refine cVi (As := [.int a1]) (rest := [.int a1, .ref (q 26)]) ⟨hx, hb, hml, hown, hts⟩ (c_X3_with (dT := dT) (rs := rs) (g := g) (bh := bh) (c1 := c1) (c2 := ((upd c2.1 a1.toNatClampNeg (v1 - (c2.1 a1.toNatClampNeg))), c2.2.1, c2.2.2)) (re := re) (pl := pl) (cl := cl) hD hv6) (cwV 1 hts (good_V sub_z k_402 k_362 k_363 k_3 k_364) rfl rfl rfl (by decide +kernel) (by decide)) (va_recv hK hP (ci := 3) (q0 := 10) rfl rfl) hK hP hS rfl hl.1 rfl (Nat.le_of_ble_eq_true rfl) dX2_turn_43 (by decide) (fun H locs hP hS => ?_)
    obtain ⟨k7, h⟩ := dg h
    refine va_iast (f := c2.2.2) hx hb hK hP (xD.w hD) hS 26 0 rfl rfl (inb_vp k7) dX2_turn_46 (fun H locs hP _ hS => ?_)
    have hP : va_P D vwCl (wX dT q rs g bh c1 ((upd c2.1 a1.toNatClampNeg (v1 - (c2.1 a1.toNatClampNeg))), c2.2.1, (upd c2.2.2 a1.toNatClampNeg v6)) re pl cl) H := hP
    obtain rfl := Option.some.inj h
    exact rV hx hb hr hlk hK hP hS dX2_turn_47

set_option maxRecDepth 100000 in
set_option maxHeartbeats 4000000 in
theorem c_X2_handle_2 {l : Launch} {D : va_G} {dT : Nat → ClassId} {q : Nat → Nat} (hD : xD q) {rs : (Nat → tRow)} {g : tG_} {bh : tBH} {c1 : tC} {c2 : tC} {re : tRE} {pl : tPL} {cl : tCL} {a1 : Int32} {v : tC} (h : f_X2_handle g c2 a1 = some v) : MG l yX2_handle cX2_handle 3 none 2 [.ref (q 23), .int a1] D (tyL dT) (wX dT q rs g bh c1 c2 re pl cl) (QV D (tyL dT) (xA q) (wX dT q rs g bh c1 v re pl cl)) (xA q) := by
  refine MG.mk (by decide +kernel) (Nat.le_of_ble_eq_true rfl) ?_
  intro p e s m below meth c hx hb hr hml hown hts hlk hK hP ls hl
  have hown : s.vm.findClass RX2 = some m.cls := hown
  have hS : va_S (xA q) s.heap s.heap [] := va_S.rf
  have hl : lv_has ls 3 [(0, .ref (q 23)), (1, .int a1)] := hl
  rw [f_X2_handle] at h
  refine lv_iconst (v := 0) hx hb dX2_handle_0 (by decide) ?_
  refine lv_istore_n (lv' := [(2, .int (0 : Int32)), (0, .ref (q 23)), (1, .int a1)]) hx hb dX2_handle_1 rfl hl (by decide) rfl (fun ls hl => ?_)
  have hL2_10 : ∀ (n : Nat) (c2_2 : tC) (x2_2 : Int32) (y : Int32 × tC), f_X2_handle_2 n g c2_2 a1 x2_2 = some y → ∀ (ls : Array Slot) (H : Heap) (locs : List Loc), lv_has ls 3 [(0, .ref (q 23)), (1, .int a1), (2, .int x2_2)] → va_P D vwCl (wX dT q rs g bh c1 c2_2 re pl cl) H → va_S (xA q) s.heap H locs → ∀ Q : State → Prop, (∀ (ls : Array Slot) (H : Heap) (locs : List Loc), lv_has ls 3 [(0, .ref (q 23)), (1, .int a1), (2, .int y.1)] → va_P D vwCl (wX dT q rs g bh c1 y.2 re pl cl) H → va_S (xA q) s.heap H locs → W p l e (rmD 2) s m [.ref (q 23), .int a1].toArray below meth c H locs 0 0 Q (F0 m 78 ls [])) → W p l e (rmD 2) s m [.ref (q 23), .int a1].toArray below meth c H locs 0 0 Q (F0 m 2 ls []) := by
    intro n
    induction n with
    | zero => intro c2_2 x2_2 y h; exact absurd h (by simp [f_X2_handle_2])
    | succ n ih =>
      intro c2_2 x2_2 y h ls H locs hl hP hS Q kk
      rw [f_X2_handle_2] at h
      refine lv_iload_n hx hb dX2_handle_2 rfl (lv_at hl 2 rfl) ?_
      refine lv_aload_n hx hb dX2_handle_3 rfl (lv_at hl 0 rfl) ?_
      refine va_get (D := D) (ci := 2) (v := .ref (q 10)) (C := RX2) (T := TX2) (N := 4) hx hb hts (fun w h => sub_z _ (inX2 w h)) hown hK hP 23 rfl rfl 0 (by decide) (hts _ (sub_z _ k_72)) (fun _ h => h) rfl dX2_handle_4 ?_
      obtain ⟨v1, hv1, h⟩ := dq h
      refine cVi (As := []) (rest := [.int x2_2]) ⟨hx, hb, hml, hown, hts⟩ (c_X3_count (dT := dT) (rs := rs) (g := g) (bh := bh) (c1 := c1) (c2 := c2_2) (re := re) (pl := pl) (cl := cl) hD hv1) (cwV 0 hts (good_V sub_z k_433 k_342 k_343 k_3 k_344) rfl rfl rfl (by decide +kernel) (by decide)) (va_recv hK hP (ci := 3) (q0 := 10) rfl rfl) hK hP hS rfl hl.1 rfl (Nat.le_of_ble_eq_true rfl) dX2_handle_7 (by decide) (fun H locs hP hS => ?_)
      refine lv_icmp_ge (tgt := 78) hx hb dX2_handle_10 (by decide) (fun k2 => ?_) (fun k2 => ?_)
      · rw [if_pos k2] at h
        obtain rfl := Option.some.inj h
        exact kk _ _ _ (lv_sub hl [0, 1, 2] rfl) hP hS
      · rw [if_neg k2] at h
        refine lv_iload_n hx hb dX2_handle_13 rfl (lv_at hl 1 rfl) ?_
        refine lv_iload_n hx hb dX2_handle_14 rfl (lv_at hl 2 rfl) ?_
        obtain ⟨v3, hv3, h⟩ := dq h
        refine cSi (As := [.int a1, .int x2_2]) (rest := []) ⟨hx, hb, hml, hown, hts⟩ (c_X4_digit_x (dT := dT) (rs := rs) (g := g) (bh := bh) (c1 := c1) (c2 := c2_2) (re := re) (pl := pl) (cl := cl) hD hv3) (va_cwS 2 hts (good_S sub_z k_403 k_404 k_11 k_405) rfl rfl rfl (by decide +kernel) (by decide)) hK hP hS rfl hl.1 rfl (Nat.le_of_ble_eq_true rfl) dX2_handle_15 (by decide) (fun H locs hP hS => ?_)
        by_cases k4 : v3 = (1 : Int32)
        · rw [if_pos k4] at h
          refine lv_tableIn (tgt := 44) (off := 26) hx hb dX2_handle_18 (by rw [k4]; decide) (by rw [k4]; decide) (by rw [k4]; rfl) (by decide) ?_
          refine lv_aload_n hx hb dX2_handle_44 rfl (lv_at hl 0 rfl) ?_
          refine lv_iload_n hx hb dX2_handle_45 rfl (lv_at hl 2 rfl) ?_
          obtain ⟨v9, hv9, h⟩ := dq h
          refine cVv (As := [.int x2_2]) (rest := []) ⟨hx, hb, hml, hown, hts⟩ (c_X2_turn_2 (dT := dT) (rs := rs) (g := g) (bh := bh) (c1 := c1) (c2 := c2_2) (re := re) (pl := pl) (cl := cl) hD hv9) (cwV 1 hts (good_V sub_z k_434 k_436 ks_5 k_5 k_437) rfl rfl rfl (by decide +kernel) (by decide)) (va_recv hK hP (ci := 2) (q0 := 23) rfl rfl) hK hP hS rfl hl.1 rfl (Nat.le_of_ble_eq_true rfl) dX2_handle_46 (by decide) (fun H locs hP hS => ?_)
          refine lv_goto (tgt := 72) hx hb dX2_handle_49 (by decide) ?_
          refine lv_iinc (v := (x2_2 + (1 : Int32))) (lv' := [(2, .int (x2_2 + (1 : Int32))), (0, .ref (q 23)), (1, .int a1)]) hx hb dX2_handle_72 hl (k := 2) rfl rfl (by decide) rfl (fun ls hl => ?_)
          refine lv_goto (tgt := 2) hx hb dX2_handle_75 (by decide) ?_
          exact ih _ _ _ h _ _ _ (lv_sub hl [1, 2, 0] rfl) hP hS _ kk
        · rw [if_neg k4] at h
          by_cases k5 : v3 = (2 : Int32)
          · rw [if_pos k5] at h
            refine lv_tableIn (tgt := 52) (off := 34) hx hb dX2_handle_18 (by rw [k5]; decide) (by rw [k5]; decide) (by rw [k5]; rfl) (by decide) ?_
            refine lv_aload_n hx hb dX2_handle_52 rfl (lv_at hl 0 rfl) ?_
            refine va_get (D := D) (ci := 2) (v := .ref (q 25)) (C := RX2) (T := TX2) (N := 4) hx hb hts (fun w h => sub_z _ (inX2 w h)) hown hK hP 23 rfl rfl 2 (by decide) (hts _ (sub_z _ k_74)) (fun _ h => h) rfl dX2_handle_53 ?_
            refine lv_iload_n hx hb dX2_handle_56 rfl (lv_at hl 2 rfl) ?_
            refine lv_iconst (v := 1) hx hb dX2_handle_57 (by decide) ?_
            obtain ⟨k8, h⟩ := dg h
            refine va_zast (f := c2_2.2.1) hx hb hK hP (xD.w hD) hS 25 3 rfl rfl (inb_vp k8) dX2_handle_58 (fun H locs hP _ hS => ?_)
            have hP : va_P D vwCl (wX dT q rs g bh c1 (c2_2.1, (upd c2_2.2.1 x2_2.toNatClampNeg (vp_nar .boolean (1 : Int32))), c2_2.2.2) re pl cl) H := hP
            refine lv_goto (tgt := 72) hx hb dX2_handle_59 (by decide) ?_
            refine lv_iinc (v := (x2_2 + (1 : Int32))) (lv' := [(2, .int (x2_2 + (1 : Int32))), (0, .ref (q 23)), (1, .int a1)]) hx hb dX2_handle_72 hl (k := 2) rfl rfl (by decide) rfl (fun ls hl => ?_)
            refine lv_goto (tgt := 2) hx hb dX2_handle_75 (by decide) ?_
            exact ih _ _ _ h _ _ _ (lv_sub hl [1, 2, 0] rfl) hP hS _ kk
          · rw [if_neg k5] at h
            by_cases k6 : v3 = (3 : Int32)
            · rw [if_pos k6] at h
              refine lv_tableIn (tgt := 62) (off := 44) hx hb dX2_handle_18 (by rw [k6]; decide) (by rw [k6]; decide) (by rw [k6]; rfl) (by decide) ?_
              refine lv_aload_n hx hb dX2_handle_62 rfl (lv_at hl 0 rfl) ?_
              refine va_get (D := D) (ci := 2) (v := .ref (q 25)) (C := RX2) (T := TX2) (N := 4) hx hb hts (fun w h => sub_z _ (inX2 w h)) hown hK hP 23 rfl rfl 2 (by decide) (hts _ (sub_z _ k_74)) (fun _ h => h) rfl dX2_handle_63 ?_
              refine lv_iload_n hx hb dX2_handle_66 rfl (lv_at hl 2 rfl) ?_
              refine lv_iconst (v := 0) hx hb dX2_handle_67 (by decide) ?_
              obtain ⟨k7, h⟩ := dg h
              refine va_zast (f := c2_2.2.1) hx hb hK hP (xD.w hD) hS 25 3 rfl rfl (inb_vp k7) dX2_handle_68 (fun H locs hP _ hS => ?_)
              have hP : va_P D vwCl (wX dT q rs g bh c1 (c2_2.1, (upd c2_2.2.1 x2_2.toNatClampNeg (vp_nar .boolean (0 : Int32))), c2_2.2.2) re pl cl) H := hP
              refine lv_goto (tgt := 72) hx hb dX2_handle_69 (by decide) ?_
              refine lv_iinc (v := (x2_2 + (1 : Int32))) (lv' := [(2, .int (x2_2 + (1 : Int32))), (0, .ref (q 23)), (1, .int a1)]) hx hb dX2_handle_72 hl (k := 2) rfl rfl (by decide) rfl (fun ls hl => ?_)
              refine lv_goto (tgt := 2) hx hb dX2_handle_75 (by decide) ?_
              exact ih _ _ _ h _ _ _ (lv_sub hl [1, 2, 0] rfl) hP hS _ kk
            · rw [if_neg k6] at h
              refine lv_tableOut (tgt := 72) hx hb dX2_handle_18 (by have n0 := lv_neT (a := 1) k4 (by decide); have n1 := lv_neT (a := 2) k5 (by decide); have n2 := lv_neT (a := 3) k6 (by decide); omega) (by decide) ?_
              refine lv_iinc (v := (x2_2 + (1 : Int32))) (lv' := [(2, .int (x2_2 + (1 : Int32))), (0, .ref (q 23)), (1, .int a1)]) hx hb dX2_handle_72 hl (k := 2) rfl rfl (by decide) rfl (fun ls hl => ?_)
              refine lv_goto (tgt := 2) hx hb dX2_handle_75 (by decide) ?_
              exact ih _ _ _ h _ _ _ (lv_sub hl [1, 2, 0] rfl) hP hS _ kk
  obtain ⟨y11, hy11, h⟩ := dq h
  refine hL2_10 _ _ _ _ hy11 _ _ _ (lv_sub hl [1, 2, 0] rfl) hP hS _ (fun ls H locs hl hP hS => ?_)
  obtain rfl := Option.some.inj h
  exact rV hx hb hr hlk hK hP hS dX2_handle_78

set_option maxRecDepth 100000 in
set_option maxHeartbeats 4000000 in
theorem c_X2_untilEvent_1 {l : Launch} {D : va_G} {dT : Nat → ClassId} {q : Nat → Nat} (hD : xD q) {rs : (Nat → tRow)} {g : tG_} {bh : tBH} {c1 : tC} {c2 : tC} {re : tRE} {pl : tPL} {cl : tCL}  {v : Int32} (h : f_X2_untilEvent g c1 = some v) : MG l yX2_untilEvent cX2_untilEvent 4 (some .int) 1 [.ref (q 15)] D (tyL dT) (wX dT q rs g bh c1 c2 re pl cl) (QI D (tyL dT) (xA q) (wX dT q rs g bh c1 c2 re pl cl) v) (xA q) := by
  refine MG.mk (by decide +kernel) (Nat.le_of_ble_eq_true rfl) ?_
  intro p e s m below meth c hx hb hr hml hown hts hlk hK hP ls hl
  have hown : s.vm.findClass RX2 = some m.cls := hown
  have hS : va_S (xA q) s.heap s.heap [] := va_S.rf
  have hl : lv_has ls 4 [(0, .ref (q 15))] := hl
  rw [f_X2_untilEvent] at h
  refine lv_iconst (v := 0) hx hb dX2_untilEvent_0 (by decide) ?_
  refine lv_istore_n (lv' := [(1, .int (0 : Int32)), (0, .ref (q 15))]) hx hb dX2_untilEvent_1 rfl hl (by decide) rfl (fun ls hl => ?_)
  refine lv_iconst (v := 0) hx hb dX2_untilEvent_2 (by decide) ?_
  refine lv_istore_n (lv' := [(2, .int (0 : Int32)), (1, .int (0 : Int32)), (0, .ref (q 15))]) hx hb dX2_untilEvent_3 rfl hl (by decide) rfl (fun ls hl => ?_)
  have hL4_10 : ∀ (n : Nat) (x1_4 : Int32) (x2_4 : Int32) (y : Int32 × Int32), f_X2_untilEvent_4 n g c1 x1_4 x2_4 = some y → ∀ (ls : Array Slot) (H : Heap) (locs : List Loc), lv_has ls 4 [(0, .ref (q 15)), (1, .int x1_4), (2, .int x2_4)] → va_P D vwCl (wX dT q rs g bh c1 c2 re pl cl) H → va_S (xA q) s.heap H locs → ∀ Q : State → Prop, (∀ (ls : Array Slot) (H : Heap) (locs : List Loc), lv_has ls 4 [(0, .ref (q 15)), (1, .int y.1), (2, .int y.2)] → va_P D vwCl (wX dT q rs g bh c1 c2 re pl cl) H → va_S (xA q) s.heap H locs → W p l e (rmD 1) s m [.ref (q 15)].toArray below meth c H locs 0 0 Q (F0 m 67 ls [])) → W p l e (rmD 1) s m [.ref (q 15)].toArray below meth c H locs 0 0 Q (F0 m 4 ls []) := by
    intro n
    induction n with
    | zero => intro x1_4 x2_4 y h; exact absurd h (by simp [f_X2_untilEvent_4])
    | succ n ih =>
      intro x1_4 x2_4 y h ls H locs hl hP hS Q kk
      rw [f_X2_untilEvent_4] at h
      refine lv_iload_n hx hb dX2_untilEvent_4 rfl (lv_at hl 2 rfl) ?_
      refine lv_aload_n hx hb dX2_untilEvent_5 rfl (lv_at hl 0 rfl) ?_
      refine va_get (D := D) (ci := 2) (v := .ref (q 10)) (C := RX2) (T := TX2) (N := 4) hx hb hts (fun w h => sub_z _ (inX2 w h)) hown hK hP 15 rfl rfl 0 (by decide) (hts _ (sub_z _ k_72)) (fun _ h => h) rfl dX2_untilEvent_6 ?_
      obtain ⟨v1, hv1, h⟩ := dq h
      refine cVi (As := []) (rest := [.int x2_4]) ⟨hx, hb, hml, hown, hts⟩ (c_X3_count (dT := dT) (rs := rs) (g := g) (bh := bh) (c1 := c1) (c2 := c2) (re := re) (pl := pl) (cl := cl) hD hv1) (cwV 0 hts (good_V sub_z k_433 k_342 k_343 k_3 k_344) rfl rfl rfl (by decide +kernel) (by decide)) (va_recv hK hP (ci := 3) (q0 := 10) rfl rfl) hK hP hS rfl hl.1 rfl (Nat.le_of_ble_eq_true rfl) dX2_untilEvent_9 (by decide) (fun H locs hP hS => ?_)
      refine lv_icmp_ge (tgt := 67) hx hb dX2_untilEvent_12 (by decide) (fun k2 => ?_) (fun k2 => ?_)
      · rw [if_pos k2] at h
        obtain rfl := Option.some.inj h
        exact kk _ _ _ (lv_sub hl [0, 1, 2] rfl) hP hS
      · rw [if_neg k2] at h
        refine lv_aload_n hx hb dX2_untilEvent_15 rfl (lv_at hl 0 rfl) ?_
        refine va_get (D := D) (ci := 2) (v := .ref (q 17)) (C := RX2) (T := TX2) (N := 4) hx hb hts (fun w h => sub_z _ (inX2 w h)) hown hK hP 15 rfl rfl 2 (by decide) (hts _ (sub_z _ k_74)) (fun _ h => h) rfl dX2_untilEvent_16 ?_
        refine lv_iload_n hx hb dX2_untilEvent_19 rfl (lv_at hl 2 rfl) ?_
        obtain ⟨k3, h⟩ := dg h
        refine va_zald (f := c1.2.1) hx hb hK hP 17 3 rfl rfl (inb_vp k3) dX2_untilEvent_20 ?_
        refine lv_if_ne (tgt := 61) hx hb dX2_untilEvent_21 (by decide) (fun k4 => ?_) (fun k4 => ?_)
        · rw [if_neg k4] at h
          refine lv_iinc (v := (x2_4 + (1 : Int32))) (lv' := [(2, .int (x2_4 + (1 : Int32))), (0, .ref (q 15)), (1, .int x1_4)]) hx hb dX2_untilEvent_61 hl (k := 2) rfl rfl (by decide) rfl (fun ls hl => ?_)
          refine lv_goto (tgt := 4) hx hb dX2_untilEvent_64 (by decide) ?_
          exact ih _ _ _ h _ _ _ (lv_sub hl [1, 2, 0] rfl) hP hS _ kk
        · rw [if_pos k4] at h
          refine lv_aload_n hx hb dX2_untilEvent_24 rfl (lv_at hl 0 rfl) ?_
          refine va_get (D := D) (ci := 2) (v := .ref (q 16)) (C := RX2) (T := TX2) (N := 4) hx hb hts (fun w h => sub_z _ (inX2 w h)) hown hK hP 15 rfl rfl 1 (by decide) (hts _ (sub_z _ k_73)) (fun _ h => h) rfl dX2_untilEvent_25 ?_
          refine lv_iload_n hx hb dX2_untilEvent_28 rfl (lv_at hl 2 rfl) ?_
          obtain ⟨k5, h⟩ := dg h
          refine va_iald (f := c1.1) hx hb hK hP 16 0 rfl rfl (inb_vp k5) dX2_untilEvent_29 ?_
          refine lv_if_le (tgt := 61) hx hb dX2_untilEvent_30 (by decide) (fun k6 => ?_) (fun k6 => ?_)
          · rw [if_pos k6] at h
            refine lv_iinc (v := (x2_4 + (1 : Int32))) (lv' := [(2, .int (x2_4 + (1 : Int32))), (0, .ref (q 15)), (1, .int x1_4)]) hx hb dX2_untilEvent_61 hl (k := 2) rfl rfl (by decide) rfl (fun ls hl => ?_)
            refine lv_goto (tgt := 4) hx hb dX2_untilEvent_64 (by decide) ?_
            exact ih _ _ _ h _ _ _ (lv_sub hl [1, 2, 0] rfl) hP hS _ kk
          · rw [if_neg k6] at h
            refine lv_aload_n hx hb dX2_untilEvent_33 rfl (lv_at hl 0 rfl) ?_
            refine va_get (D := D) (ci := 2) (v := .ref (q 18)) (C := RX2) (T := TX2) (N := 4) hx hb hts (fun w h => sub_z _ (inX2 w h)) hown hK hP 15 rfl rfl 3 (by decide) (hts _ (sub_z _ k_75)) (fun _ h => h) rfl dX2_untilEvent_34 ?_
            refine lv_iload_n hx hb dX2_untilEvent_37 rfl (lv_at hl 2 rfl) ?_
            obtain ⟨k7, h⟩ := dg h
            refine va_iald (f := c1.2.2) hx hb hK hP 18 0 rfl rfl (inb_vp k7) dX2_untilEvent_38 ?_
            refine lv_aload_n hx hb dX2_untilEvent_39 rfl (lv_at hl 0 rfl) ?_
            refine va_get (D := D) (ci := 2) (v := .ref (q 16)) (C := RX2) (T := TX2) (N := 4) hx hb hts (fun w h => sub_z _ (inX2 w h)) hown hK hP 15 rfl rfl 1 (by decide) (hts _ (sub_z _ k_73)) (fun _ h => h) rfl dX2_untilEvent_40 ?_
            refine lv_iload_n hx hb dX2_untilEvent_43 rfl (lv_at hl 2 rfl) ?_
            obtain ⟨k8, h⟩ := dg h
            refine va_iald (f := c1.1) hx hb hK hP 16 0 rfl rfl (inb_vp k8) dX2_untilEvent_44 ?_
            refine lv_iadd hx hb dX2_untilEvent_45 ?_
            refine lv_istore_n (lv' := [(3, .int ((c1.2.2 x2_4.toNatClampNeg) + (c1.1 x2_4.toNatClampNeg))), (0, .ref (q 15)), (1, .int x1_4), (2, .int x2_4)]) hx hb dX2_untilEvent_46 rfl hl (by decide) rfl (fun ls hl => ?_)
            refine lv_iload_n hx hb dX2_untilEvent_47 rfl (lv_at hl 2 rfl) ?_
            refine lv_if_ne (tgt := 55) hx hb dX2_untilEvent_48 (by decide) (fun k9 => ?_) (fun k9 => ?_)
            · rw [if_neg k9] at h
              refine lv_iload_n hx hb dX2_untilEvent_55 rfl (lv_at hl 2 rfl) ?_
              refine lv_iload_n hx hb dX2_untilEvent_56 rfl (lv_at hl 0 rfl) ?_
              refine va_mmin hx hb (hml.trans hl.1.symm) hown (hts _ (sub_z _ k_460)) (hts _ (sub_z _ k_427)) (hts _ (sub_z _ k_12)) (hts _ (sub_z _ k_mmin)) (by decide) (Nat.le_of_ble_eq_true rfl) (Nat.le_refl _) (Nat.le_refl _) dX2_untilEvent_57 ?_
              refine lv_istore_n (lv' := [(1, .int (if ((c1.2.2 x2_4.toNatClampNeg) + (c1.1 x2_4.toNatClampNeg)) < x1_4 then ((c1.2.2 x2_4.toNatClampNeg) + (c1.1 x2_4.toNatClampNeg)) else x1_4)), (3, .int ((c1.2.2 x2_4.toNatClampNeg) + (c1.1 x2_4.toNatClampNeg))), (0, .ref (q 15)), (2, .int x2_4)]) hx hb dX2_untilEvent_60 rfl hl (by decide) rfl (fun ls hl => ?_)
              refine lv_iinc (v := (x2_4 + (1 : Int32))) (lv' := [(2, .int (x2_4 + (1 : Int32))), (1, .int (if ((c1.2.2 x2_4.toNatClampNeg) + (c1.1 x2_4.toNatClampNeg)) < x1_4 then ((c1.2.2 x2_4.toNatClampNeg) + (c1.1 x2_4.toNatClampNeg)) else x1_4)), (3, .int ((c1.2.2 x2_4.toNatClampNeg) + (c1.1 x2_4.toNatClampNeg))), (0, .ref (q 15))]) hx hb dX2_untilEvent_61 hl (k := 3) rfl rfl (by decide) rfl (fun ls hl => ?_)
              refine lv_goto (tgt := 4) hx hb dX2_untilEvent_64 (by decide) ?_
              exact ih _ _ _ h _ _ _ (lv_sub hl [3, 1, 0] rfl) hP hS _ kk
            · rw [if_pos k9] at h
              refine lv_iload_n hx hb dX2_untilEvent_51 rfl (lv_at hl 0 rfl) ?_
              refine lv_goto (tgt := 60) hx hb dX2_untilEvent_52 (by decide) ?_
              refine lv_istore_n (lv' := [(1, .int ((c1.2.2 x2_4.toNatClampNeg) + (c1.1 x2_4.toNatClampNeg))), (3, .int ((c1.2.2 x2_4.toNatClampNeg) + (c1.1 x2_4.toNatClampNeg))), (0, .ref (q 15)), (2, .int x2_4)]) hx hb dX2_untilEvent_60 rfl hl (by decide) rfl (fun ls hl => ?_)
              refine lv_iinc (v := (x2_4 + (1 : Int32))) (lv' := [(2, .int (x2_4 + (1 : Int32))), (1, .int ((c1.2.2 x2_4.toNatClampNeg) + (c1.1 x2_4.toNatClampNeg))), (3, .int ((c1.2.2 x2_4.toNatClampNeg) + (c1.1 x2_4.toNatClampNeg))), (0, .ref (q 15))]) hx hb dX2_untilEvent_61 hl (k := 3) rfl rfl (by decide) rfl (fun ls hl => ?_)
              refine lv_goto (tgt := 4) hx hb dX2_untilEvent_64 (by decide) ?_
              exact ih _ _ _ h _ _ _ (lv_sub hl [3, 1, 0] rfl) hP hS _ kk
  obtain ⟨y11, hy11, h⟩ := dq h
  refine hL4_10 _ _ _ _ hy11 _ _ _ (lv_sub hl [2, 1, 0] rfl) hP hS _ (fun ls H locs hl hP hS => ?_)
  refine lv_iload_n hx hb dX2_untilEvent_67 rfl (lv_at hl 1 rfl) ?_
  obtain rfl := Option.some.inj h
  exact rI hx hb hr hlk hK hP hS dX2_untilEvent_68

set_option maxRecDepth 100000 in
set_option maxHeartbeats 4000000 in
theorem c_X2_untilEvent_2 {l : Launch} {D : va_G} {dT : Nat → ClassId} {q : Nat → Nat} (hD : xD q) {rs : (Nat → tRow)} {g : tG_} {bh : tBH} {c1 : tC} {c2 : tC} {re : tRE} {pl : tPL} {cl : tCL}  {v : Int32} (h : f_X2_untilEvent g c2 = some v) : MG l yX2_untilEvent cX2_untilEvent 4 (some .int) 1 [.ref (q 23)] D (tyL dT) (wX dT q rs g bh c1 c2 re pl cl) (QI D (tyL dT) (xA q) (wX dT q rs g bh c1 c2 re pl cl) v) (xA q) := by
  refine MG.mk (by decide +kernel) (Nat.le_of_ble_eq_true rfl) ?_
  intro p e s m below meth c hx hb hr hml hown hts hlk hK hP ls hl
  have hown : s.vm.findClass RX2 = some m.cls := hown
  have hS : va_S (xA q) s.heap s.heap [] := va_S.rf
  have hl : lv_has ls 4 [(0, .ref (q 23))] := hl
  rw [f_X2_untilEvent] at h
  refine lv_iconst (v := 0) hx hb dX2_untilEvent_0 (by decide) ?_
  refine lv_istore_n (lv' := [(1, .int (0 : Int32)), (0, .ref (q 23))]) hx hb dX2_untilEvent_1 rfl hl (by decide) rfl (fun ls hl => ?_)
  refine lv_iconst (v := 0) hx hb dX2_untilEvent_2 (by decide) ?_
  refine lv_istore_n (lv' := [(2, .int (0 : Int32)), (1, .int (0 : Int32)), (0, .ref (q 23))]) hx hb dX2_untilEvent_3 rfl hl (by decide) rfl (fun ls hl => ?_)
  have hL4_10 : ∀ (n : Nat) (x1_4 : Int32) (x2_4 : Int32) (y : Int32 × Int32), f_X2_untilEvent_4 n g c2 x1_4 x2_4 = some y → ∀ (ls : Array Slot) (H : Heap) (locs : List Loc), lv_has ls 4 [(0, .ref (q 23)), (1, .int x1_4), (2, .int x2_4)] → va_P D vwCl (wX dT q rs g bh c1 c2 re pl cl) H → va_S (xA q) s.heap H locs → ∀ Q : State → Prop, (∀ (ls : Array Slot) (H : Heap) (locs : List Loc), lv_has ls 4 [(0, .ref (q 23)), (1, .int y.1), (2, .int y.2)] → va_P D vwCl (wX dT q rs g bh c1 c2 re pl cl) H → va_S (xA q) s.heap H locs → W p l e (rmD 1) s m [.ref (q 23)].toArray below meth c H locs 0 0 Q (F0 m 67 ls [])) → W p l e (rmD 1) s m [.ref (q 23)].toArray below meth c H locs 0 0 Q (F0 m 4 ls []) := by
    intro n
    induction n with
    | zero => intro x1_4 x2_4 y h; exact absurd h (by simp [f_X2_untilEvent_4])
    | succ n ih =>
      intro x1_4 x2_4 y h ls H locs hl hP hS Q kk
      rw [f_X2_untilEvent_4] at h
      refine lv_iload_n hx hb dX2_untilEvent_4 rfl (lv_at hl 2 rfl) ?_
      refine lv_aload_n hx hb dX2_untilEvent_5 rfl (lv_at hl 0 rfl) ?_
      refine va_get (D := D) (ci := 2) (v := .ref (q 10)) (C := RX2) (T := TX2) (N := 4) hx hb hts (fun w h => sub_z _ (inX2 w h)) hown hK hP 23 rfl rfl 0 (by decide) (hts _ (sub_z _ k_72)) (fun _ h => h) rfl dX2_untilEvent_6 ?_
      obtain ⟨v1, hv1, h⟩ := dq h
      refine cVi (As := []) (rest := [.int x2_4]) ⟨hx, hb, hml, hown, hts⟩ (c_X3_count (dT := dT) (rs := rs) (g := g) (bh := bh) (c1 := c1) (c2 := c2) (re := re) (pl := pl) (cl := cl) hD hv1) (cwV 0 hts (good_V sub_z k_433 k_342 k_343 k_3 k_344) rfl rfl rfl (by decide +kernel) (by decide)) (va_recv hK hP (ci := 3) (q0 := 10) rfl rfl) hK hP hS rfl hl.1 rfl (Nat.le_of_ble_eq_true rfl) dX2_untilEvent_9 (by decide) (fun H locs hP hS => ?_)
      refine lv_icmp_ge (tgt := 67) hx hb dX2_untilEvent_12 (by decide) (fun k2 => ?_) (fun k2 => ?_)
      · rw [if_pos k2] at h
        obtain rfl := Option.some.inj h
        exact kk _ _ _ (lv_sub hl [0, 1, 2] rfl) hP hS
      · rw [if_neg k2] at h
        refine lv_aload_n hx hb dX2_untilEvent_15 rfl (lv_at hl 0 rfl) ?_
        refine va_get (D := D) (ci := 2) (v := .ref (q 25)) (C := RX2) (T := TX2) (N := 4) hx hb hts (fun w h => sub_z _ (inX2 w h)) hown hK hP 23 rfl rfl 2 (by decide) (hts _ (sub_z _ k_74)) (fun _ h => h) rfl dX2_untilEvent_16 ?_
        refine lv_iload_n hx hb dX2_untilEvent_19 rfl (lv_at hl 2 rfl) ?_
        obtain ⟨k3, h⟩ := dg h
        refine va_zald (f := c2.2.1) hx hb hK hP 25 3 rfl rfl (inb_vp k3) dX2_untilEvent_20 ?_
        refine lv_if_ne (tgt := 61) hx hb dX2_untilEvent_21 (by decide) (fun k4 => ?_) (fun k4 => ?_)
        · rw [if_neg k4] at h
          refine lv_iinc (v := (x2_4 + (1 : Int32))) (lv' := [(2, .int (x2_4 + (1 : Int32))), (0, .ref (q 23)), (1, .int x1_4)]) hx hb dX2_untilEvent_61 hl (k := 2) rfl rfl (by decide) rfl (fun ls hl => ?_)
          refine lv_goto (tgt := 4) hx hb dX2_untilEvent_64 (by decide) ?_
          exact ih _ _ _ h _ _ _ (lv_sub hl [1, 2, 0] rfl) hP hS _ kk
        · rw [if_pos k4] at h
          refine lv_aload_n hx hb dX2_untilEvent_24 rfl (lv_at hl 0 rfl) ?_
          refine va_get (D := D) (ci := 2) (v := .ref (q 24)) (C := RX2) (T := TX2) (N := 4) hx hb hts (fun w h => sub_z _ (inX2 w h)) hown hK hP 23 rfl rfl 1 (by decide) (hts _ (sub_z _ k_73)) (fun _ h => h) rfl dX2_untilEvent_25 ?_
          refine lv_iload_n hx hb dX2_untilEvent_28 rfl (lv_at hl 2 rfl) ?_
          obtain ⟨k5, h⟩ := dg h
          refine va_iald (f := c2.1) hx hb hK hP 24 0 rfl rfl (inb_vp k5) dX2_untilEvent_29 ?_
          refine lv_if_le (tgt := 61) hx hb dX2_untilEvent_30 (by decide) (fun k6 => ?_) (fun k6 => ?_)
          · rw [if_pos k6] at h
            refine lv_iinc (v := (x2_4 + (1 : Int32))) (lv' := [(2, .int (x2_4 + (1 : Int32))), (0, .ref (q 23)), (1, .int x1_4)]) hx hb dX2_untilEvent_61 hl (k := 2) rfl rfl (by decide) rfl (fun ls hl => ?_)
            refine lv_goto (tgt := 4) hx hb dX2_untilEvent_64 (by decide) ?_
            exact ih _ _ _ h _ _ _ (lv_sub hl [1, 2, 0] rfl) hP hS _ kk
          · rw [if_neg k6] at h
            refine lv_aload_n hx hb dX2_untilEvent_33 rfl (lv_at hl 0 rfl) ?_
            refine va_get (D := D) (ci := 2) (v := .ref (q 26)) (C := RX2) (T := TX2) (N := 4) hx hb hts (fun w h => sub_z _ (inX2 w h)) hown hK hP 23 rfl rfl 3 (by decide) (hts _ (sub_z _ k_75)) (fun _ h => h) rfl dX2_untilEvent_34 ?_
            refine lv_iload_n hx hb dX2_untilEvent_37 rfl (lv_at hl 2 rfl) ?_
            obtain ⟨k7, h⟩ := dg h
            refine va_iald (f := c2.2.2) hx hb hK hP 26 0 rfl rfl (inb_vp k7) dX2_untilEvent_38 ?_
            refine lv_aload_n hx hb dX2_untilEvent_39 rfl (lv_at hl 0 rfl) ?_
            refine va_get (D := D) (ci := 2) (v := .ref (q 24)) (C := RX2) (T := TX2) (N := 4) hx hb hts (fun w h => sub_z _ (inX2 w h)) hown hK hP 23 rfl rfl 1 (by decide) (hts _ (sub_z _ k_73)) (fun _ h => h) rfl dX2_untilEvent_40 ?_
            refine lv_iload_n hx hb dX2_untilEvent_43 rfl (lv_at hl 2 rfl) ?_
            obtain ⟨k8, h⟩ := dg h
            refine va_iald (f := c2.1) hx hb hK hP 24 0 rfl rfl (inb_vp k8) dX2_untilEvent_44 ?_
            refine lv_iadd hx hb dX2_untilEvent_45 ?_
            refine lv_istore_n (lv' := [(3, .int ((c2.2.2 x2_4.toNatClampNeg) + (c2.1 x2_4.toNatClampNeg))), (0, .ref (q 23)), (1, .int x1_4), (2, .int x2_4)]) hx hb dX2_untilEvent_46 rfl hl (by decide) rfl (fun ls hl => ?_)
            refine lv_iload_n hx hb dX2_untilEvent_47 rfl (lv_at hl 2 rfl) ?_
            refine lv_if_ne (tgt := 55) hx hb dX2_untilEvent_48 (by decide) (fun k9 => ?_) (fun k9 => ?_)
            · rw [if_neg k9] at h
              refine lv_iload_n hx hb dX2_untilEvent_55 rfl (lv_at hl 2 rfl) ?_
              refine lv_iload_n hx hb dX2_untilEvent_56 rfl (lv_at hl 0 rfl) ?_
              refine va_mmin hx hb (hml.trans hl.1.symm) hown (hts _ (sub_z _ k_460)) (hts _ (sub_z _ k_427)) (hts _ (sub_z _ k_12)) (hts _ (sub_z _ k_mmin)) (by decide) (Nat.le_of_ble_eq_true rfl) (Nat.le_refl _) (Nat.le_refl _) dX2_untilEvent_57 ?_
              refine lv_istore_n (lv' := [(1, .int (if ((c2.2.2 x2_4.toNatClampNeg) + (c2.1 x2_4.toNatClampNeg)) < x1_4 then ((c2.2.2 x2_4.toNatClampNeg) + (c2.1 x2_4.toNatClampNeg)) else x1_4)), (3, .int ((c2.2.2 x2_4.toNatClampNeg) + (c2.1 x2_4.toNatClampNeg))), (0, .ref (q 23)), (2, .int x2_4)]) hx hb dX2_untilEvent_60 rfl hl (by decide) rfl (fun ls hl => ?_)
              refine lv_iinc (v := (x2_4 + (1 : Int32))) (lv' := [(2, .int (x2_4 + (1 : Int32))), (1, .int (if ((c2.2.2 x2_4.toNatClampNeg) + (c2.1 x2_4.toNatClampNeg)) < x1_4 then ((c2.2.2 x2_4.toNatClampNeg) + (c2.1 x2_4.toNatClampNeg)) else x1_4)), (3, .int ((c2.2.2 x2_4.toNatClampNeg) + (c2.1 x2_4.toNatClampNeg))), (0, .ref (q 23))]) hx hb dX2_untilEvent_61 hl (k := 3) rfl rfl (by decide) rfl (fun ls hl => ?_)
              refine lv_goto (tgt := 4) hx hb dX2_untilEvent_64 (by decide) ?_
              exact ih _ _ _ h _ _ _ (lv_sub hl [3, 1, 0] rfl) hP hS _ kk
            · rw [if_pos k9] at h
              refine lv_iload_n hx hb dX2_untilEvent_51 rfl (lv_at hl 0 rfl) ?_
              refine lv_goto (tgt := 60) hx hb dX2_untilEvent_52 (by decide) ?_
              refine lv_istore_n (lv' := [(1, .int ((c2.2.2 x2_4.toNatClampNeg) + (c2.1 x2_4.toNatClampNeg))), (3, .int ((c2.2.2 x2_4.toNatClampNeg) + (c2.1 x2_4.toNatClampNeg))), (0, .ref (q 23)), (2, .int x2_4)]) hx hb dX2_untilEvent_60 rfl hl (by decide) rfl (fun ls hl => ?_)
              refine lv_iinc (v := (x2_4 + (1 : Int32))) (lv' := [(2, .int (x2_4 + (1 : Int32))), (1, .int ((c2.2.2 x2_4.toNatClampNeg) + (c2.1 x2_4.toNatClampNeg))), (3, .int ((c2.2.2 x2_4.toNatClampNeg) + (c2.1 x2_4.toNatClampNeg))), (0, .ref (q 23))]) hx hb dX2_untilEvent_61 hl (k := 3) rfl rfl (by decide) rfl (fun ls hl => ?_)
              refine lv_goto (tgt := 4) hx hb dX2_untilEvent_64 (by decide) ?_
              exact ih _ _ _ h _ _ _ (lv_sub hl [3, 1, 0] rfl) hP hS _ kk
  obtain ⟨y11, hy11, h⟩ := dq h
  refine hL4_10 _ _ _ _ hy11 _ _ _ (lv_sub hl [2, 1, 0] rfl) hP hS _ (fun ls H locs hl hP hS => ?_)
  refine lv_iload_n hx hb dX2_untilEvent_67 rfl (lv_at hl 1 rfl) ?_
  obtain rfl := Option.some.inj h
  exact rI hx hb hr hlk hK hP hS dX2_untilEvent_68

set_option maxRecDepth 100000 in
set_option maxHeartbeats 4000000 in
theorem c_X2_letPass_1 {l : Launch} {D : va_G} {dT : Nat → ClassId} {q : Nat → Nat} (hD : xD q) {rs : (Nat → tRow)} {g : tG_} {bh : tBH} {c1 : tC} {c2 : tC} {re : tRE} {pl : tPL} {cl : tCL} {a1 : Int32} {v : tC} (h : f_X2_letPass g c1 a1 = some v) : MG l yX2_letPass cX2_letPass 4 none 1 [.ref (q 15), .int a1] D (tyL dT) (wX dT q rs g bh c1 c2 re pl cl) (QV D (tyL dT) (xA q) (wX dT q rs g bh v c2 re pl cl)) (xA q) := by
  refine MG.mk (by decide +kernel) (Nat.le_of_ble_eq_true rfl) ?_
  intro p e s m below meth c hx hb hr hml hown hts hlk hK hP ls hl
  have hown : s.vm.findClass RX2 = some m.cls := hown
  have hS : va_S (xA q) s.heap s.heap [] := va_S.rf
  have hl : lv_has ls 4 [(0, .ref (q 15)), (1, .int a1)] := hl
  rw [f_X2_letPass] at h
  refine lv_iconst (v := 0) hx hb dX2_letPass_0 (by decide) ?_
  refine lv_istore_n (lv' := [(2, .int (0 : Int32)), (0, .ref (q 15)), (1, .int a1)]) hx hb dX2_letPass_1 rfl hl (by decide) rfl (fun ls hl => ?_)
  have hL2_10 : ∀ (n : Nat) (c1_2 : tC) (x2_2 : Int32) (y : Int32 × tC), f_X2_letPass_2 n g c1_2 a1 x2_2 = some y → ∀ (ls : Array Slot) (H : Heap) (locs : List Loc), lv_has ls 4 [(0, .ref (q 15)), (1, .int a1), (2, .int x2_2)] → va_P D vwCl (wX dT q rs g bh c1_2 c2 re pl cl) H → va_S (xA q) s.heap H locs → ∀ Q : State → Prop, (∀ (ls : Array Slot) (H : Heap) (locs : List Loc), lv_has ls 4 [(0, .ref (q 15)), (1, .int a1), (2, .int y.1)] → va_P D vwCl (wX dT q rs g bh y.2 c2 re pl cl) H → va_S (xA q) s.heap H locs → W p l e (rmD 1) s m [.ref (q 15), .int a1].toArray below meth c H locs 0 0 Q (F0 m 69 ls [])) → W p l e (rmD 1) s m [.ref (q 15), .int a1].toArray below meth c H locs 0 0 Q (F0 m 2 ls []) := by
    intro n
    induction n with
    | zero => intro c1_2 x2_2 y h; exact absurd h (by simp [f_X2_letPass_2])
    | succ n ih =>
      intro c1_2 x2_2 y h ls H locs hl hP hS Q kk
      rw [f_X2_letPass_2] at h
      refine lv_iload_n hx hb dX2_letPass_2 rfl (lv_at hl 2 rfl) ?_
      refine lv_aload_n hx hb dX2_letPass_3 rfl (lv_at hl 0 rfl) ?_
      refine va_get (D := D) (ci := 2) (v := .ref (q 10)) (C := RX2) (T := TX2) (N := 4) hx hb hts (fun w h => sub_z _ (inX2 w h)) hown hK hP 15 rfl rfl 0 (by decide) (hts _ (sub_z _ k_72)) (fun _ h => h) rfl dX2_letPass_4 ?_
      obtain ⟨v1, hv1, h⟩ := dq h
      refine cVi (As := []) (rest := [.int x2_2]) ⟨hx, hb, hml, hown, hts⟩ (c_X3_count (dT := dT) (rs := rs) (g := g) (bh := bh) (c1 := c1_2) (c2 := c2) (re := re) (pl := pl) (cl := cl) hD hv1) (cwV 0 hts (good_V sub_z k_433 k_342 k_343 k_3 k_344) rfl rfl rfl (by decide +kernel) (by decide)) (va_recv hK hP (ci := 3) (q0 := 10) rfl rfl) hK hP hS rfl hl.1 rfl (Nat.le_of_ble_eq_true rfl) dX2_letPass_7 (by decide) (fun H locs hP hS => ?_)
      refine lv_icmp_ge (tgt := 69) hx hb dX2_letPass_10 (by decide) (fun k2 => ?_) (fun k2 => ?_)
      · rw [if_pos k2] at h
        obtain rfl := Option.some.inj h
        exact kk _ _ _ (lv_sub hl [0, 1, 2] rfl) hP hS
      · rw [if_neg k2] at h
        refine lv_aload_n hx hb dX2_letPass_13 rfl (lv_at hl 0 rfl) ?_
        refine va_get (D := D) (ci := 2) (v := .ref (q 17)) (C := RX2) (T := TX2) (N := 4) hx hb hts (fun w h => sub_z _ (inX2 w h)) hown hK hP 15 rfl rfl 2 (by decide) (hts _ (sub_z _ k_74)) (fun _ h => h) rfl dX2_letPass_14 ?_
        refine lv_iload_n hx hb dX2_letPass_17 rfl (lv_at hl 2 rfl) ?_
        obtain ⟨k3, h⟩ := dg h
        refine va_zald (f := c1_2.2.1) hx hb hK hP 17 3 rfl rfl (inb_vp k3) dX2_letPass_18 ?_
        refine lv_if_ne (tgt := 63) hx hb dX2_letPass_19 (by decide) (fun k4 => ?_) (fun k4 => ?_)
        · rw [if_neg k4] at h
          refine lv_iinc (v := (x2_2 + (1 : Int32))) (lv' := [(2, .int (x2_2 + (1 : Int32))), (0, .ref (q 15)), (1, .int a1)]) hx hb dX2_letPass_63 hl (k := 2) rfl rfl (by decide) rfl (fun ls hl => ?_)
          refine lv_goto (tgt := 2) hx hb dX2_letPass_66 (by decide) ?_
          exact ih _ _ _ h _ _ _ (lv_sub hl [1, 2, 0] rfl) hP hS _ kk
        · rw [if_pos k4] at h
          refine lv_aload_n hx hb dX2_letPass_22 rfl (lv_at hl 0 rfl) ?_
          refine va_get (D := D) (ci := 2) (v := .ref (q 18)) (C := RX2) (T := TX2) (N := 4) hx hb hts (fun w h => sub_z _ (inX2 w h)) hown hK hP 15 rfl rfl 3 (by decide) (hts _ (sub_z _ k_75)) (fun _ h => h) rfl dX2_letPass_23 ?_
          refine lv_iload_n hx hb dX2_letPass_26 rfl (lv_at hl 2 rfl) ?_
          obtain ⟨k5, h⟩ := dg h
          refine va_iald (f := c1_2.2.2) hx hb hK hP 18 0 rfl rfl (inb_vp k5) dX2_letPass_27 ?_
          refine lv_iload_n hx hb dX2_letPass_28 rfl (lv_at hl 1 rfl) ?_
          refine va_mmin hx hb (hml.trans hl.1.symm) hown (hts _ (sub_z _ k_460)) (hts _ (sub_z _ k_427)) (hts _ (sub_z _ k_12)) (hts _ (sub_z _ k_mmin)) (by decide) (Nat.le_of_ble_eq_true rfl) (Nat.le_refl _) (Nat.le_refl _) dX2_letPass_29 ?_
          refine lv_istore_n (lv' := [(3, .int (if a1 < (c1_2.2.2 x2_2.toNatClampNeg) then a1 else (c1_2.2.2 x2_2.toNatClampNeg))), (0, .ref (q 15)), (1, .int a1), (2, .int x2_2)]) hx hb dX2_letPass_32 rfl hl (by decide) rfl (fun ls hl => ?_)
          refine lv_aload_n hx hb dX2_letPass_33 rfl (lv_at hl 1 rfl) ?_
          refine va_get (D := D) (ci := 2) (v := .ref (q 18)) (C := RX2) (T := TX2) (N := 4) hx hb hts (fun w h => sub_z _ (inX2 w h)) hown hK hP 15 rfl rfl 3 (by decide) (hts _ (sub_z _ k_75)) (fun _ h => h) rfl dX2_letPass_34 ?_
          refine lv_iload_n hx hb dX2_letPass_37 rfl (lv_at hl 3 rfl) ?_
          refine lv_dup2_11 hx hb dX2_letPass_38 rfl rfl ?_
          obtain ⟨k6, h⟩ := dg h
          refine va_iald (f := c1_2.2.2) hx hb hK hP 18 0 rfl rfl (inb_vp k6) dX2_letPass_39 ?_
          refine lv_iload_n hx hb dX2_letPass_40 rfl (lv_at hl 0 rfl) ?_
          refine lv_isub hx hb dX2_letPass_41 ?_
          obtain ⟨k7, h⟩ := dg h
          refine va_iast (f := c1_2.2.2) hx hb hK hP (xD.w hD) hS 18 0 rfl rfl (inb_vp k7) dX2_letPass_42 (fun H locs hP _ hS => ?_)
          have hP : va_P D vwCl (wX dT q rs g bh (c1_2.1, c1_2.2.1, (upd c1_2.2.2 x2_2.toNatClampNeg ((c1_2.2.2 x2_2.toNatClampNeg) - (if a1 < (c1_2.2.2 x2_2.toNatClampNeg) then a1 else (c1_2.2.2 x2_2.toNatClampNeg))))) c2 re pl cl) H := hP
          refine lv_aload_n hx hb dX2_letPass_43 rfl (lv_at hl 1 rfl) ?_
          refine va_get (D := D) (ci := 2) (v := .ref (q 16)) (C := RX2) (T := TX2) (N := 4) hx hb hts (fun w h => sub_z _ (inX2 w h)) hown hK hP 15 rfl rfl 1 (by decide) (hts _ (sub_z _ k_73)) (fun _ h => h) rfl dX2_letPass_44 ?_
          refine lv_iload_n hx hb dX2_letPass_47 rfl (lv_at hl 3 rfl) ?_
          refine lv_iconst (v := 0) hx hb dX2_letPass_48 (by decide) ?_
          refine lv_aload_n hx hb dX2_letPass_49 rfl (lv_at hl 1 rfl) ?_
          refine va_get (D := D) (ci := 2) (v := .ref (q 16)) (C := RX2) (T := TX2) (N := 4) hx hb hts (fun w h => sub_z _ (inX2 w h)) hown hK hP 15 rfl rfl 1 (by decide) (hts _ (sub_z _ k_73)) (fun _ h => h) rfl dX2_letPass_50 ?_
          refine lv_iload_n hx hb dX2_letPass_53 rfl (lv_at hl 3 rfl) ?_
          obtain ⟨k8, h⟩ := dg h
          refine va_iald (f := c1_2.1) hx hb hK hP 16 0 rfl rfl (inb_vp k8) dX2_letPass_54 ?_
          refine lv_iload_n hx hb dX2_letPass_55 rfl (lv_at hl 2 rfl) ?_
          refine lv_iload_n hx hb dX2_letPass_56 rfl (lv_at hl 0 rfl) ?_
          refine lv_isub hx hb dX2_letPass_57 ?_
          refine lv_isub hx hb dX2_letPass_58 ?_
          refine va_mmax hx hb (hml.trans hl.1.symm) hown (hts _ (sub_z _ k_465)) (hts _ (sub_z _ k_466)) (hts _ (sub_z _ k_12)) (hts _ (sub_z _ k_mmax)) (by decide) (Nat.le_of_ble_eq_true rfl) (Nat.le_refl _) (Nat.le_refl _) dX2_letPass_59 ?_
          obtain ⟨k9, h⟩ := dg h
          refine va_iast (f := c1_2.1) hx hb hK hP (xD.w hD) hS 16 0 rfl rfl (inb_vp k9) dX2_letPass_62 (fun H locs hP _ hS => ?_)
          have hP : va_P D vwCl (wX dT q rs g bh ((upd c1_2.1 x2_2.toNatClampNeg (if (0 : Int32) < ((c1_2.1 x2_2.toNatClampNeg) - (a1 - (if a1 < (c1_2.2.2 x2_2.toNatClampNeg) then a1 else (c1_2.2.2 x2_2.toNatClampNeg)))) then ((c1_2.1 x2_2.toNatClampNeg) - (a1 - (if a1 < (c1_2.2.2 x2_2.toNatClampNeg) then a1 else (c1_2.2.2 x2_2.toNatClampNeg)))) else (0 : Int32))), c1_2.2.1, (upd c1_2.2.2 x2_2.toNatClampNeg ((c1_2.2.2 x2_2.toNatClampNeg) - (if a1 < (c1_2.2.2 x2_2.toNatClampNeg) then a1 else (c1_2.2.2 x2_2.toNatClampNeg))))) c2 re pl cl) H := hP
          refine lv_iinc (v := (x2_2 + (1 : Int32))) (lv' := [(2, .int (x2_2 + (1 : Int32))), (3, .int (if a1 < (c1_2.2.2 x2_2.toNatClampNeg) then a1 else (c1_2.2.2 x2_2.toNatClampNeg))), (0, .ref (q 15)), (1, .int a1)]) hx hb dX2_letPass_63 hl (k := 3) rfl rfl (by decide) rfl (fun ls hl => ?_)
          refine lv_goto (tgt := 2) hx hb dX2_letPass_66 (by decide) ?_
          exact ih _ _ _ h _ _ _ (lv_sub hl [2, 3, 0] rfl) hP hS _ kk
  obtain ⟨y11, hy11, h⟩ := dq h
  refine hL2_10 _ _ _ _ hy11 _ _ _ (lv_sub hl [1, 2, 0] rfl) hP hS _ (fun ls H locs hl hP hS => ?_)
  obtain rfl := Option.some.inj h
  exact rV hx hb hr hlk hK hP hS dX2_letPass_69

set_option maxRecDepth 100000 in
set_option maxHeartbeats 4000000 in
theorem c_X2_letPass_2 {l : Launch} {D : va_G} {dT : Nat → ClassId} {q : Nat → Nat} (hD : xD q) {rs : (Nat → tRow)} {g : tG_} {bh : tBH} {c1 : tC} {c2 : tC} {re : tRE} {pl : tPL} {cl : tCL} {a1 : Int32} {v : tC} (h : f_X2_letPass g c2 a1 = some v) : MG l yX2_letPass cX2_letPass 4 none 1 [.ref (q 23), .int a1] D (tyL dT) (wX dT q rs g bh c1 c2 re pl cl) (QV D (tyL dT) (xA q) (wX dT q rs g bh c1 v re pl cl)) (xA q) := by
  refine MG.mk (by decide +kernel) (Nat.le_of_ble_eq_true rfl) ?_
  intro p e s m below meth c hx hb hr hml hown hts hlk hK hP ls hl
  have hown : s.vm.findClass RX2 = some m.cls := hown
  have hS : va_S (xA q) s.heap s.heap [] := va_S.rf
  have hl : lv_has ls 4 [(0, .ref (q 23)), (1, .int a1)] := hl
  rw [f_X2_letPass] at h
  refine lv_iconst (v := 0) hx hb dX2_letPass_0 (by decide) ?_
  refine lv_istore_n (lv' := [(2, .int (0 : Int32)), (0, .ref (q 23)), (1, .int a1)]) hx hb dX2_letPass_1 rfl hl (by decide) rfl (fun ls hl => ?_)
  have hL2_10 : ∀ (n : Nat) (c2_2 : tC) (x2_2 : Int32) (y : Int32 × tC), f_X2_letPass_2 n g c2_2 a1 x2_2 = some y → ∀ (ls : Array Slot) (H : Heap) (locs : List Loc), lv_has ls 4 [(0, .ref (q 23)), (1, .int a1), (2, .int x2_2)] → va_P D vwCl (wX dT q rs g bh c1 c2_2 re pl cl) H → va_S (xA q) s.heap H locs → ∀ Q : State → Prop, (∀ (ls : Array Slot) (H : Heap) (locs : List Loc), lv_has ls 4 [(0, .ref (q 23)), (1, .int a1), (2, .int y.1)] → va_P D vwCl (wX dT q rs g bh c1 y.2 re pl cl) H → va_S (xA q) s.heap H locs → W p l e (rmD 1) s m [.ref (q 23), .int a1].toArray below meth c H locs 0 0 Q (F0 m 69 ls [])) → W p l e (rmD 1) s m [.ref (q 23), .int a1].toArray below meth c H locs 0 0 Q (F0 m 2 ls []) := by
    intro n
    induction n with
    | zero => intro c2_2 x2_2 y h; exact absurd h (by simp [f_X2_letPass_2])
    | succ n ih =>
      intro c2_2 x2_2 y h ls H locs hl hP hS Q kk
      rw [f_X2_letPass_2] at h
      refine lv_iload_n hx hb dX2_letPass_2 rfl (lv_at hl 2 rfl) ?_
      refine lv_aload_n hx hb dX2_letPass_3 rfl (lv_at hl 0 rfl) ?_
      refine va_get (D := D) (ci := 2) (v := .ref (q 10)) (C := RX2) (T := TX2) (N := 4) hx hb hts (fun w h => sub_z _ (inX2 w h)) hown hK hP 23 rfl rfl 0 (by decide) (hts _ (sub_z _ k_72)) (fun _ h => h) rfl dX2_letPass_4 ?_
      obtain ⟨v1, hv1, h⟩ := dq h
      refine cVi (As := []) (rest := [.int x2_2]) ⟨hx, hb, hml, hown, hts⟩ (c_X3_count (dT := dT) (rs := rs) (g := g) (bh := bh) (c1 := c1) (c2 := c2_2) (re := re) (pl := pl) (cl := cl) hD hv1) (cwV 0 hts (good_V sub_z k_433 k_342 k_343 k_3 k_344) rfl rfl rfl (by decide +kernel) (by decide)) (va_recv hK hP (ci := 3) (q0 := 10) rfl rfl) hK hP hS rfl hl.1 rfl (Nat.le_of_ble_eq_true rfl) dX2_letPass_7 (by decide) (fun H locs hP hS => ?_)
      refine lv_icmp_ge (tgt := 69) hx hb dX2_letPass_10 (by decide) (fun k2 => ?_) (fun k2 => ?_)
      · rw [if_pos k2] at h
        obtain rfl := Option.some.inj h
        exact kk _ _ _ (lv_sub hl [0, 1, 2] rfl) hP hS
      · rw [if_neg k2] at h
        refine lv_aload_n hx hb dX2_letPass_13 rfl (lv_at hl 0 rfl) ?_
        refine va_get (D := D) (ci := 2) (v := .ref (q 25)) (C := RX2) (T := TX2) (N := 4) hx hb hts (fun w h => sub_z _ (inX2 w h)) hown hK hP 23 rfl rfl 2 (by decide) (hts _ (sub_z _ k_74)) (fun _ h => h) rfl dX2_letPass_14 ?_
        refine lv_iload_n hx hb dX2_letPass_17 rfl (lv_at hl 2 rfl) ?_
        obtain ⟨k3, h⟩ := dg h
        refine va_zald (f := c2_2.2.1) hx hb hK hP 25 3 rfl rfl (inb_vp k3) dX2_letPass_18 ?_
        refine lv_if_ne (tgt := 63) hx hb dX2_letPass_19 (by decide) (fun k4 => ?_) (fun k4 => ?_)
        · rw [if_neg k4] at h
          refine lv_iinc (v := (x2_2 + (1 : Int32))) (lv' := [(2, .int (x2_2 + (1 : Int32))), (0, .ref (q 23)), (1, .int a1)]) hx hb dX2_letPass_63 hl (k := 2) rfl rfl (by decide) rfl (fun ls hl => ?_)
          refine lv_goto (tgt := 2) hx hb dX2_letPass_66 (by decide) ?_
          exact ih _ _ _ h _ _ _ (lv_sub hl [1, 2, 0] rfl) hP hS _ kk
        · rw [if_pos k4] at h
          refine lv_aload_n hx hb dX2_letPass_22 rfl (lv_at hl 0 rfl) ?_
          refine va_get (D := D) (ci := 2) (v := .ref (q 26)) (C := RX2) (T := TX2) (N := 4) hx hb hts (fun w h => sub_z _ (inX2 w h)) hown hK hP 23 rfl rfl 3 (by decide) (hts _ (sub_z _ k_75)) (fun _ h => h) rfl dX2_letPass_23 ?_
          refine lv_iload_n hx hb dX2_letPass_26 rfl (lv_at hl 2 rfl) ?_
          obtain ⟨k5, h⟩ := dg h
          refine va_iald (f := c2_2.2.2) hx hb hK hP 26 0 rfl rfl (inb_vp k5) dX2_letPass_27 ?_
          refine lv_iload_n hx hb dX2_letPass_28 rfl (lv_at hl 1 rfl) ?_
          refine va_mmin hx hb (hml.trans hl.1.symm) hown (hts _ (sub_z _ k_460)) (hts _ (sub_z _ k_427)) (hts _ (sub_z _ k_12)) (hts _ (sub_z _ k_mmin)) (by decide) (Nat.le_of_ble_eq_true rfl) (Nat.le_refl _) (Nat.le_refl _) dX2_letPass_29 ?_
          refine lv_istore_n (lv' := [(3, .int (if a1 < (c2_2.2.2 x2_2.toNatClampNeg) then a1 else (c2_2.2.2 x2_2.toNatClampNeg))), (0, .ref (q 23)), (1, .int a1), (2, .int x2_2)]) hx hb dX2_letPass_32 rfl hl (by decide) rfl (fun ls hl => ?_)
          refine lv_aload_n hx hb dX2_letPass_33 rfl (lv_at hl 1 rfl) ?_
          refine va_get (D := D) (ci := 2) (v := .ref (q 26)) (C := RX2) (T := TX2) (N := 4) hx hb hts (fun w h => sub_z _ (inX2 w h)) hown hK hP 23 rfl rfl 3 (by decide) (hts _ (sub_z _ k_75)) (fun _ h => h) rfl dX2_letPass_34 ?_
          refine lv_iload_n hx hb dX2_letPass_37 rfl (lv_at hl 3 rfl) ?_
          refine lv_dup2_11 hx hb dX2_letPass_38 rfl rfl ?_
          obtain ⟨k6, h⟩ := dg h
          refine va_iald (f := c2_2.2.2) hx hb hK hP 26 0 rfl rfl (inb_vp k6) dX2_letPass_39 ?_
          refine lv_iload_n hx hb dX2_letPass_40 rfl (lv_at hl 0 rfl) ?_
          refine lv_isub hx hb dX2_letPass_41 ?_
          obtain ⟨k7, h⟩ := dg h
          refine va_iast (f := c2_2.2.2) hx hb hK hP (xD.w hD) hS 26 0 rfl rfl (inb_vp k7) dX2_letPass_42 (fun H locs hP _ hS => ?_)
          have hP : va_P D vwCl (wX dT q rs g bh c1 (c2_2.1, c2_2.2.1, (upd c2_2.2.2 x2_2.toNatClampNeg ((c2_2.2.2 x2_2.toNatClampNeg) - (if a1 < (c2_2.2.2 x2_2.toNatClampNeg) then a1 else (c2_2.2.2 x2_2.toNatClampNeg))))) re pl cl) H := hP
          refine lv_aload_n hx hb dX2_letPass_43 rfl (lv_at hl 1 rfl) ?_
          refine va_get (D := D) (ci := 2) (v := .ref (q 24)) (C := RX2) (T := TX2) (N := 4) hx hb hts (fun w h => sub_z _ (inX2 w h)) hown hK hP 23 rfl rfl 1 (by decide) (hts _ (sub_z _ k_73)) (fun _ h => h) rfl dX2_letPass_44 ?_
          refine lv_iload_n hx hb dX2_letPass_47 rfl (lv_at hl 3 rfl) ?_
          refine lv_iconst (v := 0) hx hb dX2_letPass_48 (by decide) ?_
          refine lv_aload_n hx hb dX2_letPass_49 rfl (lv_at hl 1 rfl) ?_
          refine va_get (D := D) (ci := 2) (v := .ref (q 24)) (C := RX2) (T := TX2) (N := 4) hx hb hts (fun w h => sub_z _ (inX2 w h)) hown hK hP 23 rfl rfl 1 (by decide) (hts _ (sub_z _ k_73)) (fun _ h => h) rfl dX2_letPass_50 ?_
          refine lv_iload_n hx hb dX2_letPass_53 rfl (lv_at hl 3 rfl) ?_
          obtain ⟨k8, h⟩ := dg h
          refine va_iald (f := c2_2.1) hx hb hK hP 24 0 rfl rfl (inb_vp k8) dX2_letPass_54 ?_
          refine lv_iload_n hx hb dX2_letPass_55 rfl (lv_at hl 2 rfl) ?_
          refine lv_iload_n hx hb dX2_letPass_56 rfl (lv_at hl 0 rfl) ?_
          refine lv_isub hx hb dX2_letPass_57 ?_
          refine lv_isub hx hb dX2_letPass_58 ?_
          refine va_mmax hx hb (hml.trans hl.1.symm) hown (hts _ (sub_z _ k_465)) (hts _ (sub_z _ k_466)) (hts _ (sub_z _ k_12)) (hts _ (sub_z _ k_mmax)) (by decide) (Nat.le_of_ble_eq_true rfl) (Nat.le_refl _) (Nat.le_refl _) dX2_letPass_59 ?_
          obtain ⟨k9, h⟩ := dg h
          refine va_iast (f := c2_2.1) hx hb hK hP (xD.w hD) hS 24 0 rfl rfl (inb_vp k9) dX2_letPass_62 (fun H locs hP _ hS => ?_)
          have hP : va_P D vwCl (wX dT q rs g bh c1 ((upd c2_2.1 x2_2.toNatClampNeg (if (0 : Int32) < ((c2_2.1 x2_2.toNatClampNeg) - (a1 - (if a1 < (c2_2.2.2 x2_2.toNatClampNeg) then a1 else (c2_2.2.2 x2_2.toNatClampNeg)))) then ((c2_2.1 x2_2.toNatClampNeg) - (a1 - (if a1 < (c2_2.2.2 x2_2.toNatClampNeg) then a1 else (c2_2.2.2 x2_2.toNatClampNeg)))) else (0 : Int32))), c2_2.2.1, (upd c2_2.2.2 x2_2.toNatClampNeg ((c2_2.2.2 x2_2.toNatClampNeg) - (if a1 < (c2_2.2.2 x2_2.toNatClampNeg) then a1 else (c2_2.2.2 x2_2.toNatClampNeg))))) re pl cl) H := hP
          refine lv_iinc (v := (x2_2 + (1 : Int32))) (lv' := [(2, .int (x2_2 + (1 : Int32))), (3, .int (if a1 < (c2_2.2.2 x2_2.toNatClampNeg) then a1 else (c2_2.2.2 x2_2.toNatClampNeg))), (0, .ref (q 23)), (1, .int a1)]) hx hb dX2_letPass_63 hl (k := 3) rfl rfl (by decide) rfl (fun ls hl => ?_)
          refine lv_goto (tgt := 2) hx hb dX2_letPass_66 (by decide) ?_
          exact ih _ _ _ h _ _ _ (lv_sub hl [2, 3, 0] rfl) hP hS _ kk
  obtain ⟨y11, hy11, h⟩ := dq h
  refine hL2_10 _ _ _ _ hy11 _ _ _ (lv_sub hl [1, 2, 0] rfl) hP hS _ (fun ls H locs hl hP hS => ?_)
  obtain rfl := Option.some.inj h
  exact rV hx hb hr hlk hK hP hS dX2_letPass_69
