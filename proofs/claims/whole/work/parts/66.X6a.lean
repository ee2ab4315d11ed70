set_option maxRecDepth 100000 in
set_option maxHeartbeats 4000000 in
theorem c_X6_forget {l : Launch} {D : va_G} {dT : Nat → ClassId} {q : Nat → Nat} (hD : xD q) {rs : (Nat → tRow)} {g : tG_} {bh : tBH} {c1 : tC} {c2 : tC} {re : tRE} {pl : tPL} {cl : tCL}  {v : tRE} (h : f_X6_forget re = some v) : MG l yX6_forget cX6_forget 1 none 0 [.ref (q 27)] D (tyL dT) (wX dT q rs g bh c1 c2 re pl cl) (QV D (tyL dT) (xA q) (wX dT q rs g bh c1 c2 v pl cl)) (xA q) := by
  refine MG.mk (by decide +kernel) (Nat.le_of_ble_eq_true rfl) ?_
  intro p e s m below meth c hx hb hr hml hown hts hlk hK hP ls hl
  have hown : s.vm.findClass RX6 = some m.cls := hown
  have hS : va_S (xA q) s.heap s.heap [] := va_S.rf
  have hl : lv_has ls 1 [(0, .ref (q 27))] := hl
  rw [f_X6_forget] at h
  refine lv_aload_n hx hb dX6_forget_0 rfl (lv_at hl 0 rfl) ?_
  refine lv_iconst (v := 0) hx hb dX6_forget_1 (by decide) ?_
  refine va_put (D := D) (ci := 5) (v := .int (0 : Int32)) (ty := .boolean) (C := RX6) (T := TX6) (N := 13) hx hb hts (fun w h => sub_z _ (inX6 w h)) tyX6 tyX6_ok nmX6 hown hK hP (xD.w hD) hS 27 rfl rfl 11 (by decide) (hts _ (sub_z _ k_137)) (fun _ h => h) rfl (by decide +kernel) rfl rfl (Nat.le_of_ble_eq_true rfl) dX6_forget_2 (fun H locs hP _ hS => ?_)
  have hP : va_P D vwCl (wX dT q rs g bh c1 c2 (re.1, re.2.1, re.2.2.1, re.2.2.2.1, re.2.2.2.2.1, re.2.2.2.2.2.1, re.2.2.2.2.2.2.1, re.2.2.2.2.2.2.2.1, re.2.2.2.2.2.2.2.2.1, (0 : Int32), re.2.2.2.2.2.2.2.2.2.2) pl cl) H := hP
  obtain rfl := Option.some.inj h
  exact rV hx hb hr hlk hK hP hS dX6_forget_5

set_option maxRecDepth 100000 in
set_option maxHeartbeats 4000000 in
theorem c_X6_placeOf {l : Launch} {D : va_G} {dT : Nat → ClassId} {q : Nat → Nat} (hD : xD q) {rs : (Nat → tRow)} {g : tG_} {bh : tBH} {c1 : tC} {c2 : tC} {re : tRE} {pl : tPL} {cl : tCL} {a1 : Int64} {v : Int32} (h : f_X6_placeOf re a1 = some v) : MG l yX6_placeOf cX6_placeOf 5 (some .int) 0 [.ref (q 27), .long a1] D (tyL dT) (wX dT q rs g bh c1 c2 re pl cl) (QI D (tyL dT) (xA q) (wX dT q rs g bh c1 c2 re pl cl) v) (xA q) := by
  refine MG.mk (by decide +kernel) (Nat.le_of_ble_eq_true rfl) ?_
  intro p e s m below meth c hx hb hr hml hown hts hlk hK hP ls hl
  have hown : s.vm.findClass RX6 = some m.cls := hown
  have hS : va_S (xA q) s.heap s.heap [] := va_S.rf
  have hl : lv_has ls 5 [(0, .ref (q 27)), (1, .long a1)] := hl
  rw [f_X6_placeOf] at h
  refine lv_iconst (v := 0) hx hb dX6_placeOf_0 (by decide) ?_
  refine lv_istore_n (lv' := [(3, .int (0 : Int32)), (0, .ref (q 27)), (1, .long a1)]) hx hb dX6_placeOf_1 rfl hl (by decide) rfl (fun ls hl => ?_)
  refine lv_sipush (v := 512) hx hb dX6_placeOf_2 (by decide) ?_
  refine lv_istore (lv' := [(4, .int (512 : Int32)), (3, .int (0 : Int32)), (0, .ref (q 27)), (1, .long a1)]) hx hb dX6_placeOf_5 hl (by decide) rfl (fun ls hl => ?_)
  have hL7_6 : ∀ (n : Nat) (x3_7 : Int32) (x4_7 : Int32) (y : Int32 × Int32), f_X6_placeOf_7 n re a1 x3_7 x4_7 = some y → ∀ (ls : Array Slot) (H : Heap) (locs : List Loc), lv_has ls 5 [(0, .ref (q 27)), (1, .long a1), (3, .int x3_7), (4, .int x4_7)] → va_P D vwCl (wX dT q rs g bh c1 c2 re pl cl) H → va_S (xA q) s.heap H locs → ∀ Q : State → Prop, (∀ (ls : Array Slot) (H : Heap) (locs : List Loc), lv_has ls 5 [(0, .ref (q 27)), (1, .long a1), (3, .int y.1), (4, .int y.2)] → va_P D vwCl (wX dT q rs g bh c1 c2 re pl cl) H → va_S (xA q) s.heap H locs → W p l e (rmD 0) s m [.ref (q 27), .long a1].toArray below meth c H locs 0 0 Q (F0 m 58 ls [])) → W p l e (rmD 0) s m [.ref (q 27), .long a1].toArray below meth c H locs 0 0 Q (F0 m 7 ls []) := by
    intro n
    induction n with
    | zero => intro x3_7 x4_7 y h; exact absurd h (by simp [f_X6_placeOf_7])
    | succ n ih =>
      intro x3_7 x4_7 y h ls H locs hl hP hS Q kk
      rw [f_X6_placeOf_7] at h
      refine lv_iload hx hb dX6_placeOf_7 (lv_at hl 3 rfl) ?_
      refine lv_if_le (tgt := 58) hx hb dX6_placeOf_9 (by decide) (fun k1 => ?_) (fun k1 => ?_)
      · rw [if_pos k1] at h
        obtain rfl := Option.some.inj h
        exact kk _ _ _ (lv_sub hl [0, 1, 2, 3] rfl) hP hS
      · rw [if_neg k1] at h
        refine lv_iload_n hx hb dX6_placeOf_12 rfl (lv_at hl 2 rfl) ?_
        refine lv_iload hx hb dX6_placeOf_13 (lv_at hl 3 rfl) ?_
        refine lv_iadd hx hb dX6_placeOf_15 ?_
        refine lv_aload_n hx hb dX6_placeOf_16 rfl (lv_at hl 0 rfl) ?_
        refine va_get (D := D) (ci := 5) (v := .int re.2.2.2.2.2.2.2.1) (C := RX6) (T := TX6) (N := 13) hx hb hts (fun w h => sub_z _ (inX6 w h)) hown hK hP 27 rfl rfl 9 (by decide) (hts _ (sub_z _ k_135)) (fun _ h => h) rfl dX6_placeOf_17 ?_
        refine lv_icmp_gt (tgt := 49) hx hb dX6_placeOf_20 (by decide) (fun k2 => ?_) (fun k2 => ?_)
        · rw [if_pos k2] at h
          refine lv_iload hx hb dX6_placeOf_49 (lv_at hl 3 rfl) ?_
          refine lv_iconst (v := 2) hx hb dX6_placeOf_51 (by decide) ?_
          refine lv_idiv hx hb dX6_placeOf_52 (by decide) ?_
          refine lv_istore (lv' := [(4, .int (x4_7 / (2 : Int32))), (0, .ref (q 27)), (1, .long a1), (3, .int x3_7)]) hx hb dX6_placeOf_53 hl (by decide) rfl (fun ls hl => ?_)
          refine lv_goto (tgt := 7) hx hb dX6_placeOf_55 (by decide) ?_
          exact ih _ _ _ h _ _ _ (lv_sub hl [1, 2, 3, 0] rfl) hP hS _ kk
        · rw [if_neg k2] at h
          refine lv_aload_n hx hb dX6_placeOf_23 rfl (lv_at hl 0 rfl) ?_
          refine va_get (D := D) (ci := 5) (v := .ref (q 28)) (C := RX6) (T := TX6) (N := 13) hx hb hts (fun w h => sub_z _ (inX6 w h)) hown hK hP 27 rfl rfl 2 (by decide) (hts _ (sub_z _ k_128)) (fun _ h => h) rfl dX6_placeOf_24 ?_
          refine lv_aload_n hx hb dX6_placeOf_27 rfl (lv_at hl 0 rfl) ?_
          refine va_get (D := D) (ci := 5) (v := .ref (q 29)) (C := RX6) (T := TX6) (N := 13) hx hb hts (fun w h => sub_z _ (inX6 w h)) hown hK hP 27 rfl rfl 3 (by decide) (hts _ (sub_z _ k_129)) (fun _ h => h) rfl dX6_placeOf_28 ?_
          refine lv_iload_n hx hb dX6_placeOf_31 rfl (lv_at hl 2 rfl) ?_
          refine lv_iload hx hb dX6_placeOf_32 (lv_at hl 3 rfl) ?_
          refine lv_iadd hx hb dX6_placeOf_34 ?_
          refine lv_iconst (v := 1) hx hb dX6_placeOf_35 (by decide) ?_
          refine lv_isub hx hb dX6_placeOf_36 ?_
          obtain ⟨k3, h⟩ := dg h
          refine va_iald (f := re.2.1) hx hb hK hP 29 0 rfl rfl (inb_vp k3) dX6_placeOf_37 ?_
          obtain ⟨k4, h⟩ := dg h
          refine va_lald (f := re.1) hx hb hK hP 28 1 rfl rfl (inb_vp k4) dX6_placeOf_38 ?_
          refine lv_lload_n hx hb dX6_placeOf_39 rfl (lv_at hl 1 rfl) ?_
          refine W.lcmp hx hb dX6_placeOf_40 ?_
          refine lv_if_ge (tgt := 49) hx hb dX6_placeOf_41 (by decide) (fun k5 => ?_) (fun k5 => ?_)
          · rw [if_pos k5] at h
            refine lv_iload hx hb dX6_placeOf_49 (lv_at hl 3 rfl) ?_
            refine lv_iconst (v := 2) hx hb dX6_placeOf_51 (by decide) ?_
            refine lv_idiv hx hb dX6_placeOf_52 (by decide) ?_
            refine lv_istore (lv' := [(4, .int (x4_7 / (2 : Int32))), (0, .ref (q 27)), (1, .long a1), (3, .int x3_7)]) hx hb dX6_placeOf_53 hl (by decide) rfl (fun ls hl => ?_)
            refine lv_goto (tgt := 7) hx hb dX6_placeOf_55 (by decide) ?_
            exact ih _ _ _ h _ _ _ (lv_sub hl [1, 2, 3, 0] rfl) hP hS _ kk
          · rw [if_neg k5] at h
            refine lv_iload_n hx hb dX6_placeOf_44 rfl (lv_at hl 2 rfl) ?_
            refine lv_iload hx hb dX6_placeOf_45 (lv_at hl 3 rfl) ?_
            refine lv_iadd hx hb dX6_placeOf_47 ?_
            refine lv_istore_n (lv' := [(3, .int (x3_7 + x4_7)), (0, .ref (q 27)), (1, .long a1), (4, .int x4_7)]) hx hb dX6_placeOf_48 rfl hl (by decide) rfl (fun ls hl => ?_)
            refine lv_iload hx hb dX6_placeOf_49 (lv_at hl 3 rfl) ?_
            refine lv_iconst (v := 2) hx hb dX6_placeOf_51 (by decide) ?_
            refine lv_idiv hx hb dX6_placeOf_52 (by decide) ?_
            refine lv_istore (lv' := [(4, .int (x4_7 / (2 : Int32))), (3, .int (x3_7 + x4_7)), (0, .ref (q 27)), (1, .long a1)]) hx hb dX6_placeOf_53 hl (by decide) rfl (fun ls hl => ?_)
            refine lv_goto (tgt := 7) hx hb dX6_placeOf_55 (by decide) ?_
            exact ih _ _ _ h _ _ _ (lv_sub hl [2, 3, 1, 0] rfl) hP hS _ kk
  obtain ⟨y7, hy7, h⟩ := dq h
  refine hL7_6 _ _ _ _ hy7 _ _ _ (lv_sub hl [2, 3, 1, 0] rfl) hP hS _ (fun ls H locs hl hP hS => ?_)
  refine lv_iload_n hx hb dX6_placeOf_58 rfl (lv_at hl 2 rfl) ?_
  obtain rfl := Option.some.inj h
  exact rI hx hb hr hlk hK hP hS dX6_placeOf_59

set_option maxRecDepth 100000 in
set_option maxHeartbeats 4000000 in
theorem c_X6_numberOf {l : Launch} {D : va_G} {dT : Nat → ClassId} {q : Nat → Nat} (hD : xD q) {rs : (Nat → tRow)} {g : tG_} {bh : tBH} {c1 : tC} {c2 : tC} {re : tRE} {pl : tPL} {cl : tCL} {a1 : Int64} {a3 : Int32} {v : Int32 × tRE} (h : f_X6_numberOf re a1 a3 = some v) : MG l yX6_numberOf cX6_numberOf 6 (some .int) 1 [.ref (q 27), .long a1, .int a3] D (tyL dT) (wX dT q rs g bh c1 c2 re pl cl) (QI D (tyL dT) (xA q) (wX dT q rs g bh c1 c2 v.2 pl cl) v.1) (xA q) := by
  refine MG.mk (by decide +kernel) (Nat.le_of_ble_eq_true rfl) ?_
  intro p e s m below meth c hx hb hr hml hown hts hlk hK hP ls hl
  have hown : s.vm.findClass RX6 = some m.cls := hown
  have hS : va_S (xA q) s.heap s.heap [] := va_S.rf
  have hl : lv_has ls 6 [(0, .ref (q 27)), (1, .long a1), (3, .int a3)] := hl
  rw [f_X6_numberOf] at h
  refine lv_aload_n hx hb dX6_numberOf_0 rfl (lv_at hl 0 rfl) ?_
  refine lv_lload_n hx hb dX6_numberOf_1 rfl (lv_at hl 1 rfl) ?_
  obtain ⟨v1, hv1, h⟩ := dq h
  refine cVi (As := [.long a1]) (rest := []) ⟨hx, hb, hml, hown, hts⟩ (c_X6_placeOf (dT := dT) (rs := rs) (g := g) (bh := bh) (c1 := c1) (c2 := c2) (re := re) (pl := pl) (cl := cl) hD hv1) (cwV 1 hts (good_V sub_z k_509 k_511 ks_7 k_6 k_512) rfl rfl rfl (by decide +kernel) (by decide)) (va_recv hK hP (ci := 5) (q0 := 27) rfl rfl) hK hP hS rfl hl.1 rfl (Nat.le_of_ble_eq_true rfl) dX6_numberOf_2 (by decide) (fun H locs hP hS => ?_)
  refine lv_istore (lv' := [(4, .int v1), (0, .ref (q 27)), (1, .long a1), (3, .int a3)]) hx hb dX6_numberOf_5 hl (by decide) rfl (fun ls hl => ?_)
  refine lv_iload hx hb dX6_numberOf_7 (lv_at hl 0 rfl) ?_
  refine lv_aload_n hx hb dX6_numberOf_9 rfl (lv_at hl 1 rfl) ?_
  refine va_get (D := D) (ci := 5) (v := .int re.2.2.2.2.2.2.2.1) (C := RX6) (T := TX6) (N := 13) hx hb hts (fun w h => sub_z _ (inX6 w h)) hown hK hP 27 rfl rfl 9 (by decide) (hts _ (sub_z _ k_135)) (fun _ h => h) rfl dX6_numberOf_10 ?_
  refine lv_icmp_ge (tgt := 63) hx hb dX6_numberOf_13 (by decide) (fun k2 => ?_) (fun k2 => ?_)
  · rw [if_pos k2] at h
    refine lv_aload_n hx hb dX6_numberOf_63 rfl (lv_at hl 1 rfl) ?_
    refine va_get (D := D) (ci := 5) (v := .int re.2.2.2.2.2.2.2.1) (C := RX6) (T := TX6) (N := 13) hx hb hts (fun w h => sub_z _ (inX6 w h)) hown hK hP 27 rfl rfl 9 (by decide) (hts _ (sub_z _ k_135)) (fun _ h => h) rfl dX6_numberOf_64 ?_
    refine lv_sipush (v := 600) hx hb dX6_numberOf_67 (by decide) ?_
    refine lv_icmp_lt (tgt := 75) hx hb dX6_numberOf_70 (by decide) (fun k3 => ?_) (fun k3 => ?_)
    · rw [if_pos k3] at h
      refine lv_aload_n hx hb dX6_numberOf_75 rfl (lv_at hl 1 rfl) ?_
      refine va_get (D := D) (ci := 5) (v := .ref (q 29)) (C := RX6) (T := TX6) (N := 13) hx hb hts (fun w h => sub_z _ (inX6 w h)) hown hK hP 27 rfl rfl 3 (by decide) (hts _ (sub_z _ k_129)) (fun _ h => h) rfl dX6_numberOf_76 ?_
      refine lv_iload hx hb dX6_numberOf_79 (lv_at hl 0 rfl) ?_
      refine lv_aload_n hx hb dX6_numberOf_81 rfl (lv_at hl 1 rfl) ?_
      refine va_get (D := D) (ci := 5) (v := .ref (q 29)) (C := RX6) (T := TX6) (N := 13) hx hb hts (fun w h => sub_z _ (inX6 w h)) hown hK hP 27 rfl rfl 3 (by decide) (hts _ (sub_z _ k_129)) (fun _ h => h) rfl dX6_numberOf_82 ?_
      refine lv_iload hx hb dX6_numberOf_85 (lv_at hl 0 rfl) ?_
      refine lv_iconst (v := 1) hx hb dX6_numberOf_87 (by decide) ?_
      refine lv_iadd hx hb dX6_numberOf_88 ?_
      refine lv_aload_n hx hb dX6_numberOf_89 rfl (lv_at hl 1 rfl) ?_
      refine va_get (D := D) (ci := 5) (v := .int re.2.2.2.2.2.2.2.1) (C := RX6) (T := TX6) (N := 13) hx hb hts (fun w h => sub_z _ (inX6 w h)) hown hK hP 27 rfl rfl 9 (by decide) (hts _ (sub_z _ k_135)) (fun _ h => h) rfl dX6_numberOf_90 ?_
      refine lv_iload hx hb dX6_numberOf_93 (lv_at hl 0 rfl) ?_
      refine lv_isub hx hb dX6_numberOf_95 ?_
      obtain ⟨k4, h⟩ := dg h
      obtain ⟨k4a, k4b, k4c, k4d, k4e⟩ := acok_s k4
      refine va_copyi (f := re.2.1) (g := re.2.1) (ty := .int) hx hb (hml.trans hl.1.symm) hown (hts _ (sub_z _ k_514)) (hts _ (sub_z _ k_516)) (hts _ (sub_z _ k_515)) (hts _ (sub_z _ k_14)) hK hP (xD.w hD) hS 29 29 0 0 rfl rfl rfl rfl rfl k4a k4b k4c k4d k4e (fun _ _ => rfl) (by decide) (Nat.le_of_ble_eq_true rfl) dX6_numberOf_96 (fun H locs hP _ hS => ?_)
      have hP : va_P D vwCl (wX dT q rs g bh c1 c2 (re.1, (va_cpy re.2.1 re.2.1 v1.toNatClampNeg (v1 + (1 : Int32)).toNatClampNeg (re.2.2.2.2.2.2.2.1 - v1).toNatClampNeg), re.2.2.1, re.2.2.2.1, re.2.2.2.2.1, re.2.2.2.2.2.1, re.2.2.2.2.2.2.1, re.2.2.2.2.2.2.2.1, re.2.2.2.2.2.2.2.2.1, re.2.2.2.2.2.2.2.2.2.1, re.2.2.2.2.2.2.2.2.2.2) pl cl) H := hP
      refine lv_aload_n hx hb dX6_numberOf_99 rfl (lv_at hl 1 rfl) ?_
      refine va_get (D := D) (ci := 5) (v := .ref (q 29)) (C := RX6) (T := TX6) (N := 13) hx hb hts (fun w h => sub_z _ (inX6 w h)) hown hK hP 27 rfl rfl 3 (by decide) (hts _ (sub_z _ k_129)) (fun _ h => h) rfl dX6_numberOf_100 ?_
      refine lv_iload hx hb dX6_numberOf_103 (lv_at hl 0 rfl) ?_
      refine lv_aload_n hx hb dX6_numberOf_105 rfl (lv_at hl 1 rfl) ?_
      refine va_get (D := D) (ci := 5) (v := .int re.2.2.2.2.2.2.2.1) (C := RX6) (T := TX6) (N := 13) hx hb hts (fun w h => sub_z _ (inX6 w h)) hown hK hP 27 rfl rfl 9 (by decide) (hts _ (sub_z _ k_135)) (fun _ h => h) rfl dX6_numberOf_106 ?_
      obtain ⟨k5, h⟩ := dg h
      refine va_iast (f := (va_cpy re.2.1 re.2.1 v1.toNatClampNeg (v1 + (1 : Int32)).toNatClampNeg (re.2.2.2.2.2.2.2.1 - v1).toNatClampNeg)) hx hb hK hP (xD.w hD) hS 29 0 rfl rfl (inb_vp k5) dX6_numberOf_109 (fun H locs hP _ hS => ?_)
      have hP : va_P D vwCl (wX dT q rs g bh c1 c2 (re.1, (upd (va_cpy re.2.1 re.2.1 v1.toNatClampNeg (v1 + (1 : Int32)).toNatClampNeg (re.2.2.2.2.2.2.2.1 - v1).toNatClampNeg) v1.toNatClampNeg re.2.2.2.2.2.2.2.1), re.2.2.1, re.2.2.2.1, re.2.2.2.2.1, re.2.2.2.2.2.1, re.2.2.2.2.2.2.1, re.2.2.2.2.2.2.2.1, re.2.2.2.2.2.2.2.2.1, re.2.2.2.2.2.2.2.2.2.1, re.2.2.2.2.2.2.2.2.2.2) pl cl) H := hP
      refine lv_aload_n hx hb dX6_numberOf_110 rfl (lv_at hl 1 rfl) ?_
      refine va_get (D := D) (ci := 5) (v := .ref (q 28)) (C := RX6) (T := TX6) (N := 13) hx hb hts (fun w h => sub_z _ (inX6 w h)) hown hK hP 27 rfl rfl 2 (by decide) (hts _ (sub_z _ k_128)) (fun _ h => h) rfl dX6_numberOf_111 ?_
      refine lv_aload_n hx hb dX6_numberOf_114 rfl (lv_at hl 1 rfl) ?_
      refine va_get (D := D) (ci := 5) (v := .int re.2.2.2.2.2.2.2.1) (C := RX6) (T := TX6) (N := 13) hx hb hts (fun w h => sub_z _ (inX6 w h)) hown hK hP 27 rfl rfl 9 (by decide) (hts _ (sub_z _ k_135)) (fun _ h => h) rfl dX6_numberOf_115 ?_
      refine lv_lload_n hx hb dX6_numberOf_118 rfl (lv_at hl 2 rfl) ?_
      obtain ⟨k6, h⟩ := dg h
      refine va_last (f := re.1) hx hb hK hP (xD.w hD) hS 28 1 rfl rfl (inb_vp k6) dX6_numberOf_119 (fun H locs hP _ hS => ?_)
      have hP : va_P D vwCl (wX dT q rs g bh c1 c2 ((vp_updL re.1 re.2.2.2.2.2.2.2.1.toNatClampNeg a1), (upd (va_cpy re.2.1 re.2.1 v1.toNatClampNeg (v1 + (1 : Int32)).toNatClampNeg (re.2.2.2.2.2.2.2.1 - v1).toNatClampNeg) v1.toNatClampNeg re.2.2.2.2.2.2.2.1), re.2.2.1, re.2.2.2.1, re.2.2.2.2.1, re.2.2.2.2.2.1, re.2.2.2.2.2.2.1, re.2.2.2.2.2.2.2.1, re.2.2.2.2.2.2.2.2.1, re.2.2.2.2.2.2.2.2.2.1, re.2.2.2.2.2.2.2.2.2.2) pl cl) H := hP
      refine lv_aload_n hx hb dX6_numberOf_120 rfl (lv_at hl 1 rfl) ?_
      refine va_get (D := D) (ci := 5) (v := .ref (q 30)) (C := RX6) (T := TX6) (N := 13) hx hb hts (fun w h => sub_z _ (inX6 w h)) hown hK hP 27 rfl rfl 4 (by decide) (hts _ (sub_z _ k_130)) (fun _ h => h) rfl dX6_numberOf_121 ?_
      refine lv_aload_n hx hb dX6_numberOf_124 rfl (lv_at hl 1 rfl) ?_
      refine va_get (D := D) (ci := 5) (v := .int re.2.2.2.2.2.2.2.1) (C := RX6) (T := TX6) (N := 13) hx hb hts (fun w h => sub_z _ (inX6 w h)) hown hK hP 27 rfl rfl 9 (by decide) (hts _ (sub_z _ k_135)) (fun _ h => h) rfl dX6_numberOf_125 ?_
      refine lv_iload_n hx hb dX6_numberOf_128 rfl (lv_at hl 3 rfl) ?_
      obtain ⟨k7, h⟩ := dg h
      refine va_iast (f := re.2.2.1) hx hb hK hP (xD.w hD) hS 30 0 rfl rfl (inb_vp k7) dX6_numberOf_129 (fun H locs hP _ hS => ?_)
      have hP : va_P D vwCl (wX dT q rs g bh c1 c2 ((vp_updL re.1 re.2.2.2.2.2.2.2.1.toNatClampNeg a1), (upd (va_cpy re.2.1 re.2.1 v1.toNatClampNeg (v1 + (1 : Int32)).toNatClampNeg (re.2.2.2.2.2.2.2.1 - v1).toNatClampNeg) v1.toNatClampNeg re.2.2.2.2.2.2.2.1), (upd re.2.2.1 re.2.2.2.2.2.2.2.1.toNatClampNeg a3), re.2.2.2.1, re.2.2.2.2.1, re.2.2.2.2.2.1, re.2.2.2.2.2.2.1, re.2.2.2.2.2.2.2.1, re.2.2.2.2.2.2.2.2.1, re.2.2.2.2.2.2.2.2.2.1, re.2.2.2.2.2.2.2.2.2.2) pl cl) H := hP
      refine lv_aload_n hx hb dX6_numberOf_130 rfl (lv_at hl 1 rfl) ?_
      refine va_get (D := D) (ci := 5) (v := .ref (q 31)) (C := RX6) (T := TX6) (N := 13) hx hb hts (fun w h => sub_z _ (inX6 w h)) hown hK hP 27 rfl rfl 5 (by decide) (hts _ (sub_z _ k_131)) (fun _ h => h) rfl dX6_numberOf_131 ?_
      refine lv_aload_n hx hb dX6_numberOf_134 rfl (lv_at hl 1 rfl) ?_
      refine va_get (D := D) (ci := 5) (v := .int re.2.2.2.2.2.2.2.1) (C := RX6) (T := TX6) (N := 13) hx hb hts (fun w h => sub_z _ (inX6 w h)) hown hK hP 27 rfl rfl 9 (by decide) (hts _ (sub_z _ k_135)) (fun _ h => h) rfl dX6_numberOf_135 ?_
      refine lv_iconst (v := 0) hx hb dX6_numberOf_138 (by decide) ?_
      obtain ⟨k8, h⟩ := dg h
      refine va_zast (f := re.2.2.2.1) hx hb hK hP (xD.w hD) hS 31 3 rfl rfl (inb_vp k8) dX6_numberOf_139 (fun H locs hP _ hS => ?_)
      have hP : va_P D vwCl (wX dT q rs g bh c1 c2 ((vp_updL re.1 re.2.2.2.2.2.2.2.1.toNatClampNeg a1), (upd (va_cpy re.2.1 re.2.1 v1.toNatClampNeg (v1 + (1 : Int32)).toNatClampNeg (re.2.2.2.2.2.2.2.1 - v1).toNatClampNeg) v1.toNatClampNeg re.2.2.2.2.2.2.2.1), (upd re.2.2.1 re.2.2.2.2.2.2.2.1.toNatClampNeg a3), (upd re.2.2.2.1 re.2.2.2.2.2.2.2.1.toNatClampNeg (vp_nar .boolean (0 : Int32))), re.2.2.2.2.1, re.2.2.2.2.2.1, re.2.2.2.2.2.2.1, re.2.2.2.2.2.2.2.1, re.2.2.2.2.2.2.2.2.1, re.2.2.2.2.2.2.2.2.2.1, re.2.2.2.2.2.2.2.2.2.2) pl cl) H := hP
      refine lv_aload_n hx hb dX6_numberOf_140 rfl (lv_at hl 1 rfl) ?_
      refine lv_dup hx hb dX6_numberOf_141 rfl ?_
      refine va_get (D := D) (ci := 5) (v := .int re.2.2.2.2.2.2.2.1) (C := RX6) (T := TX6) (N := 13) hx hb hts (fun w h => sub_z _ (inX6 w h)) hown hK hP 27 rfl rfl 9 (by decide) (hts _ (sub_z _ k_135)) (fun _ h => h) rfl dX6_numberOf_142 ?_
      refine lv_iconst (v := 1) hx hb dX6_numberOf_145 (by decide) ?_
      refine lv_iadd hx hb dX6_numberOf_146 ?_
      refine va_put (D := D) (ci := 5) (v := .int (re.2.2.2.2.2.2.2.1 + (1 : Int32))) (ty := .int) (C := RX6) (T := TX6) (N := 13) hx hb hts (fun w h => sub_z _ (inX6 w h)) tyX6 tyX6_ok nmX6 hown hK hP (xD.w hD) hS 27 rfl rfl 9 (by decide) (hts _ (sub_z _ k_135)) (fun _ h => h) rfl (by decide +kernel) rfl rfl (Nat.le_of_ble_eq_true rfl) dX6_numberOf_147 (fun H locs hP _ hS => ?_)
      have hP : va_P D vwCl (wX dT q rs g bh c1 c2 ((vp_updL re.1 re.2.2.2.2.2.2.2.1.toNatClampNeg a1), (upd (va_cpy re.2.1 re.2.1 v1.toNatClampNeg (v1 + (1 : Int32)).toNatClampNeg (re.2.2.2.2.2.2.2.1 - v1).toNatClampNeg) v1.toNatClampNeg re.2.2.2.2.2.2.2.1), (upd re.2.2.1 re.2.2.2.2.2.2.2.1.toNatClampNeg a3), (upd re.2.2.2.1 re.2.2.2.2.2.2.2.1.toNatClampNeg (vp_nar .boolean (0 : Int32))), re.2.2.2.2.1, re.2.2.2.2.2.1, re.2.2.2.2.2.2.1, (re.2.2.2.2.2.2.2.1 + (1 : Int32)), re.2.2.2.2.2.2.2.2.1, re.2.2.2.2.2.2.2.2.2.1, re.2.2.2.2.2.2.2.2.2.2) pl cl) H := hP
      refine lv_aload_n hx hb dX6_numberOf_150 rfl (lv_at hl 1 rfl) ?_
      refine va_get (D := D) (ci := 5) (v := .int (re.2.2.2.2.2.2.2.1 + (1 : Int32))) (C := RX6) (T := TX6) (N := 13) hx hb hts (fun w h => sub_z _ (inX6 w h)) hown hK hP 27 rfl rfl 9 (by decide) (hts _ (sub_z _ k_135)) (fun _ h => h) rfl dX6_numberOf_151 ?_
      refine lv_iconst (v := 1) hx hb dX6_numberOf_154 (by decide) ?_
      refine lv_isub hx hb dX6_numberOf_155 ?_
      obtain rfl := Option.some.inj h
      exact rI hx hb hr hlk hK hP hS dX6_numberOf_156
    · rw [if_neg k3] at h
      refine lv_iconst (v := -1) hx hb dX6_numberOf_73 (by decide) ?_
      obtain rfl := Option.some.inj h
      exact rI hx hb hr hlk hK hP hS dX6_numberOf_74
  · rw [if_neg k2] at h
    refine lv_aload_n hx hb dX6_numberOf_16 rfl (lv_at hl 1 rfl) ?_
    refine va_get (D := D) (ci := 5) (v := .ref (q 28)) (C := RX6) (T := TX6) (N := 13) hx hb hts (fun w h => sub_z _ (inX6 w h)) hown hK hP 27 rfl rfl 2 (by decide) (hts _ (sub_z _ k_128)) (fun _ h => h) rfl dX6_numberOf_17 ?_
    refine lv_aload_n hx hb dX6_numberOf_20 rfl (lv_at hl 1 rfl) ?_
    refine va_get (D := D) (ci := 5) (v := .ref (q 29)) (C := RX6) (T := TX6) (N := 13) hx hb hts (fun w h => sub_z _ (inX6 w h)) hown hK hP 27 rfl rfl 3 (by decide) (hts _ (sub_z _ k_129)) (fun _ h => h) rfl dX6_numberOf_21 ?_
    refine lv_iload hx hb dX6_numberOf_24 (lv_at hl 0 rfl) ?_
    obtain ⟨k9, h⟩ := dg h
    refine va_iald (f := re.2.1) hx hb hK hP 29 0 rfl rfl (inb_vp k9) dX6_numberOf_26 ?_
    obtain ⟨k10, h⟩ := dg h
    refine va_lald (f := re.1) hx hb hK hP 28 1 rfl rfl (inb_vp k10) dX6_numberOf_27 ?_
    refine lv_lload_n hx hb dX6_numberOf_28 rfl (lv_at hl 2 rfl) ?_
    refine W.lcmp hx hb dX6_numberOf_29 ?_
    refine lv_if_ne (tgt := 63) hx hb dX6_numberOf_30 (by decide) (fun k11 => ?_) (fun k11 => ?_)
    · rw [if_neg k11] at h
      refine lv_aload_n hx hb dX6_numberOf_63 rfl (lv_at hl 1 rfl) ?_
      refine va_get (D := D) (ci := 5) (v := .int re.2.2.2.2.2.2.2.1) (C := RX6) (T := TX6) (N := 13) hx hb hts (fun w h => sub_z _ (inX6 w h)) hown hK hP 27 rfl rfl 9 (by decide) (hts _ (sub_z _ k_135)) (fun _ h => h) rfl dX6_numberOf_64 ?_
      refine lv_sipush (v := 600) hx hb dX6_numberOf_67 (by decide) ?_
      refine lv_icmp_lt (tgt := 75) hx hb dX6_numberOf_70 (by decide) (fun k12 => ?_) (fun k12 => ?_)
      · rw [if_pos k12] at h
        refine lv_aload_n hx hb dX6_numberOf_75 rfl (lv_at hl 1 rfl) ?_
        refine va_get (D := D) (ci := 5) (v := .ref (q 29)) (C := RX6) (T := TX6) (N := 13) hx hb hts (fun w h => sub_z _ (inX6 w h)) hown hK hP 27 rfl rfl 3 (by decide) (hts _ (sub_z _ k_129)) (fun _ h => h) rfl dX6_numberOf_76 ?_
        refine lv_iload hx hb dX6_numberOf_79 (lv_at hl 0 rfl) ?_
        refine lv_aload_n hx hb dX6_numberOf_81 rfl (lv_at hl 1 rfl) ?_
        refine va_get (D := D) (ci := 5) (v := .ref (q 29)) (C := RX6) (T := TX6) (N := 13) hx hb hts (fun w h => sub_z _ (inX6 w h)) hown hK hP 27 rfl rfl 3 (by decide) (hts _ (sub_z _ k_129)) (fun _ h => h) rfl dX6_numberOf_82 ?_
        refine lv_iload hx hb dX6_numberOf_85 (lv_at hl 0 rfl) ?_
        refine lv_iconst (v := 1) hx hb dX6_numberOf_87 (by decide) ?_
        refine lv_iadd hx hb dX6_numberOf_88 ?_
        refine lv_aload_n hx hb dX6_numberOf_89 rfl (lv_at hl 1 rfl) ?_
        refine va_get (D := D) (ci := 5) (v := .int re.2.2.2.2.2.2.2.1) (C := RX6) (T := TX6) (N := 13) hx hb hts (fun w h => sub_z _ (inX6 w h)) hown hK hP 27 rfl rfl 9 (by decide) (hts _ (sub_z _ k_135)) (fun _ h => h) rfl dX6_numberOf_90 ?_
        refine lv_iload hx hb dX6_numberOf_93 (lv_at hl 0 rfl) ?_
        refine lv_isub hx hb dX6_numberOf_95 ?_
        obtain ⟨k13, h⟩ := dg h
        obtain ⟨k13a, k13b, k13c, k13d, k13e⟩ := acok_s k13
        refine va_copyi (f := re.2.1) (g := re.2.1) (ty := .int) hx hb (hml.trans hl.1.symm) hown (hts _ (sub_z _ k_514)) (hts _ (sub_z _ k_516)) (hts _ (sub_z _ k_515)) (hts _ (sub_z _ k_14)) hK hP (xD.w hD) hS 29 29 0 0 rfl rfl rfl rfl rfl k13a k13b k13c k13d k13e (fun _ _ => rfl) (by decide) (Nat.le_of_ble_eq_true rfl) dX6_numberOf_96 (fun H locs hP _ hS => ?_)
        have hP : va_P D vwCl (wX dT q rs g bh c1 c2 (re.1, (va_cpy re.2.1 re.2.1 v1.toNatClampNeg (v1 + (1 : Int32)).toNatClampNeg (re.2.2.2.2.2.2.2.1 - v1).toNatClampNeg), re.2.2.1, re.2.2.2.1, re.2.2.2.2.1, re.2.2.2.2.2.1, re.2.2.2.2.2.2.1, re.2.2.2.2.2.2.2.1, re.2.2.2.2.2.2.2.2.1, re.2.2.2.2.2.2.2.2.2.1, re.2.2.2.2.2.2.2.2.2.2) pl cl) H := hP
        refine lv_aload_n hx hb dX6_numberOf_99 rfl (lv_at hl 1 rfl) ?_
        refine va_get (D := D) (ci := 5) (v := .ref (q 29)) (C := RX6) (T := TX6) (N := 13) hx hb hts (fun w h => sub_z _ (inX6 w h)) hown hK hP 27 rfl rfl 3 (by decide) (hts _ (sub_z _ k_129)) (fun _ h => h) rfl dX6_numberOf_100 ?_
        refine lv_iload hx hb dX6_numberOf_103 (lv_at hl 0 rfl) ?_
        refine lv_aload_n hx hb dX6_numberOf_105 rfl (lv_at hl 1 rfl) ?_
        refine va_get (D := D) (ci := 5) (v := .int re.2.2.2.2.2.2.2.1) (C := RX6) (T := TX6) (N := 13) hx hb hts (fun w h => sub_z _ (inX6 w h)) hown hK hP 27 rfl rfl 9 (by decide) (hts _ (sub_z _ k_135)) (fun _ h => h) rfl dX6_numberOf_106 ?_
        obtain ⟨k14, h⟩ := dg h
        refine va_iast (f := (va_cpy re.2.1 re.2.1 v1.toNatClampNeg (v1 + (1 : Int32)).toNatClampNeg (re.2.2.2.2.2.2.2.1 - v1).toNatClampNeg)) hx hb hK hP (xD.w hD) hS 29 0 rfl rfl (inb_vp k14) dX6_numberOf_109 (fun H locs hP _ hS => ?_)
        have hP : va_P D vwCl (wX dT q rs g bh c1 c2 (re.1, (upd (va_cpy re.2.1 re.2.1 v1.toNatClampNeg (v1 + (1 : Int32)).toNatClampNeg (re.2.2.2.2.2.2.2.1 - v1).toNatClampNeg) v1.toNatClampNeg re.2.2.2.2.2.2.2.1), re.2.2.1, re.2.2.2.1, re.2.2.2.2.1, re.2.2.2.2.2.1, re.2.2.2.2.2.2.1, re.2.2.2.2.2.2.2.1, re.2.2.2.2.2.2.2.2.1, re.2.2.2.2.2.2.2.2.2.1, re.2.2.2.2.2.2.2.2.2.2) pl cl) H := hP
        refine lv_aload_n hx hb dX6_numberOf_110 rfl (lv_at hl 1 rfl) ?_
        refine va_get (D := D) (ci := 5) (v := .ref (q 28)) (C := RX6) (T := TX6) (N := 13) hx hb hts (fun w h => sub_z _ (inX6 w h)) hown hK hP 27 rfl rfl 2 (by decide) (hts _ (sub_z _ k_128)) (fun _ h => h) rfl dX6_numberOf_111 ?_
        refine lv_aload_n hx hb dX6_numberOf_114 rfl (lv_at hl 1 rfl) ?_
        refine va_get (D := D) (ci := 5) (v := .int re.2.2.2.2.2.2.2.1) (C := RX6) (T := TX6) (N := 13) hx hb hts (fun w h => sub_z _ (inX6 w h)) hown hK hP 27 rfl rfl 9 (by decide) (hts _ (sub_z _ k_135)) (fun _ h => h) rfl dX6_numberOf_115 ?_
        refine lv_lload_n hx hb dX6_numberOf_118 rfl (lv_at hl 2 rfl) ?_
        obtain ⟨k15, h⟩ := dg h
        refine va_last (f := re.1) hx hb hK hP (xD.w hD) hS 28 1 rfl rfl (inb_vp k15) dX6_numberOf_119 (fun H locs hP _ hS => ?_)
        have hP : va_P D vwCl (wX dT q rs g bh c1 c2 ((vp_updL re.1 re.2.2.2.2.2.2.2.1.toNatClampNeg a1), (upd (va_cpy re.2.1 re.2.1 v1.toNatClampNeg (v1 + (1 : Int32)).toNatClampNeg (re.2.2.2.2.2.2.2.1 - v1).toNatClampNeg) v1.toNatClampNeg re.2.2.2.2.2.2.2.1), re.2.2.1, re.2.2.2.1, re.2.2.2.2.1, re.2.2.2.2.2.1, re.2.2.2.2.2.2.1, re.2.2.2.2.2.2.2.1, re.2.2.2.2.2.2.2.2.1, re.2.2.2.2.2.2.2.2.2.1, re.2.2.2.2.2.2.2.2.2.2) pl cl) H := hP
        refine lv_aload_n hx hb dX6_numberOf_120 rfl (lv_at hl 1 rfl) ?_
        refine va_get (D := D) (ci := 5) (v := .ref (q 30)) (C := RX6) (T := TX6) (N := 13) hx hb hts (fun w h => sub_z _ (inX6 w h)) hown hK hP 27 rfl rfl 4 (by decide) (hts _ (sub_z _ k_130)) (fun _ h => h) rfl dX6_numberOf_121 ?_
        refine lv_aload_n hx hb dX6_numberOf_124 rfl (lv_at hl 1 rfl) ?_
        refine va_get (D := D) (ci := 5) (v := .int re.2.2.2.2.2.2.2.1) (C := RX6) (T := TX6) (N := 13) hx hb hts (fun w h => sub_z _ (inX6 w h)) hown hK hP 27 rfl rfl 9 (by decide) (hts _ (sub_z _ k_135)) (fun _ h => h) rfl dX6_numberOf_125 ?_
        refine lv_iload_n hx hb dX6_numberOf_128 rfl (lv_at hl 3 rfl) ?_
        obtain ⟨k16, h⟩ := dg h
        refine va_iast (f := re.2.2.1) hx hb hK hP (xD.w hD) hS 30 0 rfl rfl (inb_vp k16) dX6_numberOf_129 (fun H locs hP _ hS => ?_)
        have hP : va_P D vwCl (wX dT q rs g bh c1 c2 ((vp_updL re.1 re.2.2.2.2.2.2.2.1.toNatClampNeg a1), (upd (va_cpy re.2.1 re.2.1 v1.toNatClampNeg (v1 + (1 : Int32)).toNatClampNeg (re.2.2.2.2.2.2.2.1 - v1).toNatClampNeg) v1.toNatClampNeg re.2.2.2.2.2.2.2.1), (upd re.2.2.1 re.2.2.2.2.2.2.2.1.toNatClampNeg a3), re.2.2.2.1, re.2.2.2.2.1, re.2.2.2.2.2.1, re.2.2.2.2.2.2.1, re.2.2.2.2.2.2.2.1, re.2.2.2.2.2.2.2.2.1, re.2.2.2.2.2.2.2.2.2.1, re.2.2.2.2.2.2.2.2.2.2) pl cl) H := hP
        refine lv_aload_n hx hb dX6_numberOf_130 rfl (lv_at hl 1 rfl) ?_
        refine va_get (D := D) (ci := 5) (v := .ref (q 31)) (C := RX6) (T := TX6) (N := 13) hx hb hts (fun w h => sub_z _ (inX6 w h)) hown hK hP 27 rfl rfl 5 (by decide) (hts _ (sub_z _ k_131)) (fun _ h => h) rfl dX6_numberOf_131 ?_
        refine lv_aload_n hx hb dX6_numberOf_134 rfl (lv_at hl 1 rfl) ?_
        refine va_get (D := D) (ci := 5) (v := .int re.2.2.2.2.2.2.2.1) (C := RX6) (T := TX6) (N := 13) hx hb hts (fun w h => sub_z _ (inX6 w h)) hown hK hP 27 rfl rfl 9 (by decide) (hts _ (sub_z _ k_135)) (fun _ h => h) rfl dX6_numberOf_135 ?_
        refine lv_iconst (v := 0) hx hb dX6_numberOf_138 (by decide) ?_
        obtain ⟨k17, h⟩ := dg h
        refine va_zast (f := re.2.2.2.1) hx hb hK hP (xD.w hD) hS 31 3 rfl rfl (inb_vp k17) dX6_numberOf_139 (fun H locs hP _ hS => ?_)
        have hP : va_P D vwCl (wX dT q rs g bh c1 c2 ((vp_updL re.1 re.2.2.2.2.2.2.2.1.toNatClampNeg a1), (upd (va_cpy re.2.1 re.2.1 v1.toNatClampNeg (v1 + (1 : Int32)).toNatClampNeg (re.2.2.2.2.2.2.2.1 - v1).toNatClampNeg) v1.toNatClampNeg re.2.2.2.2.2.2.2.1), (upd re.2.2.1 re.2.2.2.2.2.2.2.1.toNatClampNeg a3), (upd re.2.2.2.1 re.2.2.2.2.2.2.2.1.toNatClampNeg (vp_nar .boolean (0 : Int32))), re.2.2.2.2.1, re.2.2.2.2.2.1, re.2.2.2.2.2.2.1, re.2.2.2.2.2.2.2.1, re.2.2.2.2.2.2.2.2.1, re.2.2.2.2.2.2.2.2.2.1, re.2.2.2.2.2.2.2.2.2.2) pl cl) H := hP
        refine lv_aload_n hx hb dX6_numberOf_140 rfl (lv_at hl 1 rfl) ?_
        refine lv_dup hx hb dX6_numberOf_141 rfl ?_
        refine va_get (D := D) (ci := 5) (v := .int re.2.2.2.2.2.2.2.1) (C := RX6) (T := TX6) (N := 13) hx hb hts (fun w h => sub_z _ (inX6 w h)) hown hK hP 27 rfl rfl 9 (by decide) (hts _ (sub_z _ k_135)) (fun _ h => h) rfl dX6_numberOf_142 ?_
        refine lv_iconst (v := 1) hx hb dX6_numberOf_145 (by decide) ?_
        refine lv_iadd hx hb dX6_numberOf_146 ?_
        refine va_put (D := D) (ci := 5) (v := .int (re.2.2.2.2.2.2.2.1 + (1 : Int32))) (ty := .int) (C := RX6) (T := TX6) (N := 13) hx hb hts (fun w h => sub_z _ (inX6 w h)) tyX6 tyX6_ok nmX6 hown hK hP (xD.w hD) hS 27 rfl rfl 9 (by decide) (hts _ (sub_z _ k_135)) (fun _ h => h) rfl (by decide +kernel) rfl rfl (Nat.le_of_ble_eq_true rfl) dX6_numberOf_147 (fun H locs hP _ hS => ?_)
        have hP : va_P D vwCl (wX dT q rs g bh c1 c2 ((vp_updL re.1 re.2.2.2.2.2.2.2.1.toNatClampNeg a1), (upd (va_cpy re.2.1 re.2.1 v1.toNatClampNeg (v1 + (1 : Int32)).toNatClampNeg (re.2.2.2.2.2.2.2.1 - v1).toNatClampNeg) v1.toNatClampNeg re.2.2.2.2.2.2.2.1), (upd re.2.2.1 re.2.2.2.2.2.2.2.1.toNatClampNeg a3), (upd re.2.2.2.1 re.2.2.2.2.2.2.2.1.toNatClampNeg (vp_nar .boolean (0 : Int32))), re.2.2.2.2.1, re.2.2.2.2.2.1, re.2.2.2.2.2.2.1, (re.2.2.2.2.2.2.2.1 + (1 : Int32)), re.2.2.2.2.2.2.2.2.1, re.2.2.2.2.2.2.2.2.2.1, re.2.2.2.2.2.2.2.2.2.2) pl cl) H := hP
        refine lv_aload_n hx hb dX6_numberOf_150 rfl (lv_at hl 1 rfl) ?_
        refine va_get (D := D) (ci := 5) (v := .int (re.2.2.2.2.2.2.2.1 + (1 : Int32))) (C := RX6) (T := TX6) (N := 13) hx hb hts (fun w h => sub_z _ (inX6 w h)) hown hK hP 27 rfl rfl 9 (by decide) (hts _ (sub_z _ k_135)) (fun _ h => h) rfl dX6_numberOf_151 ?_
        refine lv_iconst (v := 1) hx hb dX6_numberOf_154 (by decide) ?_
        refine lv_isub hx hb dX6_numberOf_155 ?_
        obtain rfl := Option.some.inj h
        exact rI hx hb hr hlk hK hP hS dX6_numberOf_156
      · rw [if_neg k12] at h
        refine lv_iconst (v := -1) hx hb dX6_numberOf_73 (by decide) ?_
        obtain rfl := Option.some.inj h
        exact rI hx hb hr hlk hK hP hS dX6_numberOf_74
    · rw [if_pos k11] at h
      refine lv_aload_n hx hb dX6_numberOf_33 rfl (lv_at hl 1 rfl) ?_
      refine va_get (D := D) (ci := 5) (v := .ref (q 29)) (C := RX6) (T := TX6) (N := 13) hx hb hts (fun w h => sub_z _ (inX6 w h)) hown hK hP 27 rfl rfl 3 (by decide) (hts _ (sub_z _ k_129)) (fun _ h => h) rfl dX6_numberOf_34 ?_
      refine lv_iload hx hb dX6_numberOf_37 (lv_at hl 0 rfl) ?_
      obtain ⟨k18, h⟩ := dg h
      refine va_iald (f := re.2.1) hx hb hK hP 29 0 rfl rfl (inb_vp k18) dX6_numberOf_39 ?_
      refine lv_istore (lv' := [(5, .int (re.2.1 v1.toNatClampNeg)), (4, .int v1), (0, .ref (q 27)), (1, .long a1), (3, .int a3)]) hx hb dX6_numberOf_40 hl (by decide) rfl (fun ls hl => ?_)
      refine lv_aload_n hx hb dX6_numberOf_42 rfl (lv_at hl 2 rfl) ?_
      refine va_get (D := D) (ci := 5) (v := .ref (q 30)) (C := RX6) (T := TX6) (N := 13) hx hb hts (fun w h => sub_z _ (inX6 w h)) hown hK hP 27 rfl rfl 4 (by decide) (hts _ (sub_z _ k_130)) (fun _ h => h) rfl dX6_numberOf_43 ?_
      refine lv_iload hx hb dX6_numberOf_46 (lv_at hl 0 rfl) ?_
      refine lv_aload_n hx hb dX6_numberOf_48 rfl (lv_at hl 2 rfl) ?_
      refine va_get (D := D) (ci := 5) (v := .ref (q 30)) (C := RX6) (T := TX6) (N := 13) hx hb hts (fun w h => sub_z _ (inX6 w h)) hown hK hP 27 rfl rfl 4 (by decide) (hts _ (sub_z _ k_130)) (fun _ h => h) rfl dX6_numberOf_49 ?_
      refine lv_iload hx hb dX6_numberOf_52 (lv_at hl 0 rfl) ?_
      obtain ⟨k19, h⟩ := dg h
      refine va_iald (f := re.2.2.1) hx hb hK hP 30 0 rfl rfl (inb_vp k19) dX6_numberOf_54 ?_
      refine lv_iload_n hx hb dX6_numberOf_55 rfl (lv_at hl 4 rfl) ?_
      refine va_mmin hx hb (hml.trans hl.1.symm) hown (hts _ (sub_z _ k_513)) (hts _ (sub_z _ k_427)) (hts _ (sub_z _ k_12)) (hts _ (sub_z _ k_mmin)) (by decide) (Nat.le_of_ble_eq_true rfl) (Nat.le_refl _) (Nat.le_refl _) dX6_numberOf_56 ?_
      obtain ⟨k20, h⟩ := dg h
      refine va_iast (f := re.2.2.1) hx hb hK hP (xD.w hD) hS 30 0 rfl rfl (inb_vp k20) dX6_numberOf_59 (fun H locs hP _ hS => ?_)
      have hP : va_P D vwCl (wX dT q rs g bh c1 c2 (re.1, re.2.1, (upd re.2.2.1 (re.2.1 v1.toNatClampNeg).toNatClampNeg (if a3 < (re.2.2.1 (re.2.1 v1.toNatClampNeg).toNatClampNeg) then a3 else (re.2.2.1 (re.2.1 v1.toNatClampNeg).toNatClampNeg))), re.2.2.2.1, re.2.2.2.2.1, re.2.2.2.2.2.1, re.2.2.2.2.2.2.1, re.2.2.2.2.2.2.2.1, re.2.2.2.2.2.2.2.2.1, re.2.2.2.2.2.2.2.2.2.1, re.2.2.2.2.2.2.2.2.2.2) pl cl) H := hP
      refine lv_iload hx hb dX6_numberOf_60 (lv_at hl 0 rfl) ?_
      obtain rfl := Option.some.inj h
      exact rI hx hb hr hlk hK hP hS dX6_numberOf_62

set_option maxRecDepth 100000 in
set_option maxHeartbeats 4000000 in
theorem c_X6_goBy {l : Launch} {D : va_G} {dT : Nat → ClassId} {q : Nat → Nat} (hD : xD q) {rs : (Nat → tRow)} {g : tG_} {bh : tBH} {c1 : tC} {c2 : tC} {re : tRE} {pl : tPL} {cl : tCL} {a1 : Int32} {a2 : Int32} {v : tC × tRE} (h : f_X6_goBy g c2 re a1 a2 = some v) : MG l yX6_goBy cX6_goBy 5 none 3 [.ref (q 27), .int a1, .int a2] D (tyL dT) (wX dT q rs g bh c1 c2 re pl cl) (QV D (tyL dT) (xA q) (wX dT q rs g bh c1 v.1 v.2 pl cl)) (xA q) := by
  refine MG.mk (by decide +kernel) (Nat.le_of_ble_eq_true rfl) ?_
  intro p e s m below meth c hx hb hr hml hown hts hlk hK hP ls hl
  have hown : s.vm.findClass RX6 = some m.cls := hown
  have hS : va_S (xA q) s.heap s.heap [] := va_S.rf
  have hl : lv_has ls 5 [(0, .ref (q 27)), (1, .int a1), (2, .int a2)] := hl
  rw [f_X6_goBy] at h
  refine lv_aload_n hx hb dX6_goBy_0 rfl (lv_at hl 0 rfl) ?_
  refine va_get (D := D) (ci := 5) (v := .ref (q 23)) (C := RX6) (T := TX6) (N := 13) hx hb hts (fun w h => sub_z _ (inX6 w h)) hown hK hP 27 rfl rfl 1 (by decide) (hts _ (sub_z _ k_127)) (fun _ h => h) rfl dX6_goBy_1 ?_
  refine lv_iload_n hx hb dX6_goBy_4 rfl (lv_at hl 2 rfl) ?_
  obtain ⟨v1, hv1, h⟩ := dq h
  refine cVv (As := [.int a2]) (rest := []) ⟨hx, hb, hml, hown, hts⟩ (c_X2_handle_2 (dT := dT) (rs := rs) (g := g) (bh := bh) (c1 := c1) (c2 := c2) (re := re) (pl := pl) (cl := cl) hD hv1) (cwV 1 hts (good_V sub_z k_528 k_430 k_431 k_5 k_432) rfl rfl rfl (by decide +kernel) (by decide)) (va_recv hK hP (ci := 2) (q0 := 23) rfl rfl) hK hP hS rfl hl.1 rfl (Nat.le_of_ble_eq_true rfl) dX6_goBy_5 (by decide) (fun H locs hP hS => ?_)
  refine lv_aload_n hx hb dX6_goBy_8 rfl (lv_at hl 0 rfl) ?_
  refine va_get (D := D) (ci := 5) (v := .ref (q 23)) (C := RX6) (T := TX6) (N := 13) hx hb hts (fun w h => sub_z _ (inX6 w h)) hown hK hP 27 rfl rfl 1 (by decide) (hts _ (sub_z _ k_127)) (fun _ h => h) rfl dX6_goBy_9 ?_
  obtain ⟨v2, hv2, h⟩ := dq h
  refine cVi (As := []) (rest := []) ⟨hx, hb, hml, hown, hts⟩ (c_X2_untilEvent_2 (dT := dT) (rs := rs) (g := g) (bh := bh) (c1 := c1) (c2 := v1) (re := re) (pl := pl) (cl := cl) hD hv2) (cwV 0 hts (good_V sub_z k_529 k_457 k_458 k_5 k_459) rfl rfl rfl (by decide +kernel) (by decide)) (va_recv hK hP (ci := 2) (q0 := 23) rfl rfl) hK hP hS rfl hl.1 rfl (Nat.le_of_ble_eq_true rfl) dX6_goBy_12 (by decide) (fun H locs hP hS => ?_)
  refine lv_istore_n (lv' := [(3, .int v2), (0, .ref (q 27)), (1, .int a1), (2, .int a2)]) hx hb dX6_goBy_15 rfl hl (by decide) rfl (fun ls hl => ?_)
  refine lv_iload_n hx hb dX6_goBy_16 rfl (lv_at hl 0 rfl) ?_
  refine lv_if_ne (tgt := 21) hx hb dX6_goBy_17 (by decide) (fun k3 => ?_) (fun k3 => ?_)
  · rw [if_neg k3] at h
    refine lv_aload_n hx hb dX6_goBy_21 rfl (lv_at hl 1 rfl) ?_
    refine va_get (D := D) (ci := 5) (v := .ref (q 23)) (C := RX6) (T := TX6) (N := 13) hx hb hts (fun w h => sub_z _ (inX6 w h)) hown hK hP 27 rfl rfl 1 (by decide) (hts _ (sub_z _ k_127)) (fun _ h => h) rfl dX6_goBy_22 ?_
    refine lv_iload_n hx hb dX6_goBy_25 rfl (lv_at hl 0 rfl) ?_
    obtain ⟨v4, hv4, h⟩ := dq h
    refine cVv (As := [.int v2]) (rest := []) ⟨hx, hb, hml, hown, hts⟩ (c_X2_letPass_2 (dT := dT) (rs := rs) (g := g) (bh := bh) (c1 := c1) (c2 := v1) (re := re) (pl := pl) (cl := cl) hD hv4) (cwV 1 hts (good_V sub_z k_530 k_462 k_463 k_5 k_464) rfl rfl rfl (by decide +kernel) (by decide)) (va_recv hK hP (ci := 2) (q0 := 23) rfl rfl) hK hP hS rfl hl.1 rfl (Nat.le_of_ble_eq_true rfl) dX6_goBy_26 (by decide) (fun H locs hP hS => ?_)
    refine lv_aload_n hx hb dX6_goBy_29 rfl (lv_at hl 1 rfl) ?_
    refine lv_aload_n hx hb dX6_goBy_30 rfl (lv_at hl 1 rfl) ?_
    refine va_get (D := D) (ci := 5) (v := .ref (q 23)) (C := RX6) (T := TX6) (N := 13) hx hb hts (fun w h => sub_z _ (inX6 w h)) hown hK hP 27 rfl rfl 1 (by decide) (hts _ (sub_z _ k_127)) (fun _ h => h) rfl dX6_goBy_31 ?_
    obtain ⟨v5, hv5, h⟩ := dq h
    refine cVl (As := []) (rest := [.ref (q 27)]) ⟨hx, hb, hml, hown, hts⟩ (c_X2_key_2 (dT := dT) (rs := rs) (g := g) (bh := bh) (c1 := c1) (c2 := v4) (re := re) (pl := pl) (cl := cl) hD hv5) (cwV 0 hts (good_V sub_z k_531 k_423 k_424 k_5 k_425) rfl rfl rfl (by decide +kernel) (by decide)) (va_recv hK hP (ci := 2) (q0 := 23) rfl rfl) hK hP hS rfl hl.1 rfl (Nat.le_of_ble_eq_true rfl) dX6_goBy_34 (by decide) (fun H locs hP hS => ?_)
    refine lv_aload_n hx hb dX6_goBy_37 rfl (lv_at hl 1 rfl) ?_
    refine va_get (D := D) (ci := 5) (v := .ref (q 30)) (C := RX6) (T := TX6) (N := 13) hx hb hts (fun w h => sub_z _ (inX6 w h)) hown hK hP 27 rfl rfl 4 (by decide) (hts _ (sub_z _ k_130)) (fun _ h => h) rfl dX6_goBy_38 ?_
    refine lv_iload_n hx hb dX6_goBy_41 rfl (lv_at hl 2 rfl) ?_
    obtain ⟨k6, h⟩ := dg h
    refine va_iald (f := re.2.2.1) hx hb hK hP 30 0 rfl rfl (inb_vp k6) dX6_goBy_42 ?_
    refine lv_iload_n hx hb dX6_goBy_43 rfl (lv_at hl 0 rfl) ?_
    refine lv_iadd hx hb dX6_goBy_44 ?_
    obtain ⟨v7, hv7, h⟩ := dq h
    refine cVi (As := [.long v5, .int ((re.2.2.1 a1.toNatClampNeg) + v2)]) (rest := []) ⟨hx, hb, hml, hown, hts⟩ (c_X6_numberOf (dT := dT) (rs := rs) (g := g) (bh := bh) (c1 := c1) (c2 := v4) (re := re) (pl := pl) (cl := cl) hD hv7) (cwV 2 hts (good_V sub_z k_505 k_507 ks_6 k_6 k_508) rfl rfl rfl (by decide +kernel) (by decide)) (va_recv hK hP (ci := 5) (q0 := 27) rfl rfl) hK hP hS rfl hl.1 rfl (Nat.le_of_ble_eq_true rfl) dX6_goBy_45 (by decide) (fun H locs hP hS => ?_)
    refine lv_istore (lv' := [(4, .int v7.1), (3, .int v2), (0, .ref (q 27)), (1, .int a1), (2, .int a2)]) hx hb dX6_goBy_48 hl (by decide) rfl (fun ls hl => ?_)
    refine lv_iload hx hb dX6_goBy_50 (lv_at hl 0 rfl) ?_
    refine lv_if_lt (tgt := 64) hx hb dX6_goBy_52 (by decide) (fun k8 => ?_) (fun k8 => ?_)
    · rw [if_pos k8] at h
      refine lv_aload_n hx hb dX6_goBy_64 rfl (lv_at hl 2 rfl) ?_
      refine lv_iconst (v := 1) hx hb dX6_goBy_65 (by decide) ?_
      refine va_put (D := D) (ci := 5) (v := .int (1 : Int32)) (ty := .boolean) (C := RX6) (T := TX6) (N := 13) hx hb hts (fun w h => sub_z _ (inX6 w h)) tyX6 tyX6_ok nmX6 hown hK hP (xD.w hD) hS 27 rfl rfl 12 (by decide) (hts _ (sub_z _ k_138)) (fun _ h => h) rfl (by decide +kernel) rfl rfl (Nat.le_of_ble_eq_true rfl) dX6_goBy_66 (fun H locs hP _ hS => ?_)
      have hP : va_P D vwCl (wX dT q rs g bh c1 v4 (v7.2.1, v7.2.2.1, v7.2.2.2.1, v7.2.2.2.2.1, v7.2.2.2.2.2.1, v7.2.2.2.2.2.2.1, v7.2.2.2.2.2.2.2.1, v7.2.2.2.2.2.2.2.2.1, v7.2.2.2.2.2.2.2.2.2.1, v7.2.2.2.2.2.2.2.2.2.2.1, (1 : Int32)) pl cl) H := hP
      obtain rfl := Option.some.inj h
      exact rV hx hb hr hlk hK hP hS dX6_goBy_69
    · rw [if_neg k8] at h
      refine lv_aload_n hx hb dX6_goBy_55 rfl (lv_at hl 2 rfl) ?_
      refine va_get (D := D) (ci := 5) (v := .int v7.2.2.2.2.2.2.2.2.2.1) (C := RX6) (T := TX6) (N := 13) hx hb hts (fun w h => sub_z _ (inX6 w h)) hown hK hP 27 rfl rfl 10 (by decide) (hts _ (sub_z _ k_136)) (fun _ h => h) rfl dX6_goBy_56 ?_
      refine lv_ldc (v := 48600) hx hb hown (hts _ (sub_z _ k_125)) dX6_goBy_59 ?_
      refine lv_icmp_lt (tgt := 70) hx hb dX6_goBy_61 (by decide) (fun k9 => ?_) (fun k9 => ?_)
      · rw [if_pos k9] at h
        refine lv_aload_n hx hb dX6_goBy_70 rfl (lv_at hl 2 rfl) ?_
        refine va_get (D := D) (ci := 5) (v := .ref (q 34)) (C := RX6) (T := TX6) (N := 13) hx hb hts (fun w h => sub_z _ (inX6 w h)) hown hK hP 27 rfl rfl 8 (by decide) (hts _ (sub_z _ k_134)) (fun _ h => h) rfl dX6_goBy_71 ?_
        refine lv_aload_n hx hb dX6_goBy_74 rfl (lv_at hl 2 rfl) ?_
        refine va_get (D := D) (ci := 5) (v := .int v7.2.2.2.2.2.2.2.2.2.1) (C := RX6) (T := TX6) (N := 13) hx hb hts (fun w h => sub_z _ (inX6 w h)) hown hK hP 27 rfl rfl 10 (by decide) (hts _ (sub_z _ k_136)) (fun _ h => h) rfl dX6_goBy_75 ?_
        refine lv_iload_n hx hb dX6_goBy_78 rfl (lv_at hl 4 rfl) ?_
        obtain ⟨v10, hv10, h⟩ := dq h
        refine cSi (As := [.int a2]) (rest := [.int v7.2.2.2.2.2.2.2.2.2.1, .ref (q 34)]) ⟨hx, hb, hml, hown, hts⟩ (c_X4_countOf_x (dT := dT) (rs := rs) (g := g) (bh := bh) (c1 := c1) (c2 := v4) (re := v7.2) (pl := pl) (cl := cl) hD hv10) (va_cwS 1 hts (good_S sub_z k_532 k_440 k_11 k_441) rfl rfl rfl (by decide +kernel) (by decide)) hK hP hS rfl hl.1 rfl (Nat.le_of_ble_eq_true rfl) dX6_goBy_79 (by decide) (fun H locs hP hS => ?_)
        refine lv_bipush (v := 24) hx hb dX6_goBy_82 (by decide) ?_
        refine lv_ishl hx hb dX6_goBy_84 ?_
        refine lv_iload_n hx hb dX6_goBy_85 rfl (lv_at hl 4 rfl) ?_
        refine lv_bipush (v := 16) hx hb dX6_goBy_86 (by decide) ?_
        refine lv_ishl hx hb dX6_goBy_88 ?_
        refine lv_ior hx hb dX6_goBy_89 ?_
        refine lv_iload_n hx hb dX6_goBy_90 rfl (lv_at hl 1 rfl) ?_
        refine lv_bipush (v := 10) hx hb dX6_goBy_91 (by decide) ?_
        refine lv_ishl hx hb dX6_goBy_93 ?_
        refine lv_ior hx hb dX6_goBy_94 ?_
        refine lv_iload hx hb dX6_goBy_95 (lv_at hl 0 rfl) ?_
        refine lv_ior hx hb dX6_goBy_97 ?_
        obtain ⟨k11, h⟩ := dg h
        refine va_iast (f := v7.2.2.2.2.2.2.2.1) hx hb hK hP (xD.w hD) hS 34 0 rfl rfl (inb_vp k11) dX6_goBy_98 (fun H locs hP _ hS => ?_)
        have hP : va_P D vwCl (wX dT q rs g bh c1 v4 (v7.2.1, v7.2.2.1, v7.2.2.2.1, v7.2.2.2.2.1, v7.2.2.2.2.2.1, v7.2.2.2.2.2.2.1, (upd v7.2.2.2.2.2.2.2.1 v7.2.2.2.2.2.2.2.2.2.1.toNatClampNeg ((((v10 <<< ((24 : Int32) &&& 31)) ||| (a2 <<< ((16 : Int32) &&& 31))) ||| (v2 <<< ((10 : Int32) &&& 31))) ||| v7.1)), v7.2.2.2.2.2.2.2.2.1, v7.2.2.2.2.2.2.2.2.2.1, v7.2.2.2.2.2.2.2.2.2.2.1, v7.2.2.2.2.2.2.2.2.2.2.2) pl cl) H := hP
        refine lv_aload_n hx hb dX6_goBy_99 rfl (lv_at hl 2 rfl) ?_
        refine lv_dup hx hb dX6_goBy_100 rfl ?_
        refine va_get (D := D) (ci := 5) (v := .int v7.2.2.2.2.2.2.2.2.2.1) (C := RX6) (T := TX6) (N := 13) hx hb hts (fun w h => sub_z _ (inX6 w h)) hown hK hP 27 rfl rfl 10 (by decide) (hts _ (sub_z _ k_136)) (fun _ h => h) rfl dX6_goBy_101 ?_
        refine lv_iconst (v := 1) hx hb dX6_goBy_104 (by decide) ?_
        refine lv_iadd hx hb dX6_goBy_105 ?_
        refine va_put (D := D) (ci := 5) (v := .int (v7.2.2.2.2.2.2.2.2.2.1 + (1 : Int32))) (ty := .int) (C := RX6) (T := TX6) (N := 13) hx hb hts (fun w h => sub_z _ (inX6 w h)) tyX6 tyX6_ok nmX6 hown hK hP (xD.w hD) hS 27 rfl rfl 10 (by decide) (hts _ (sub_z _ k_136)) (fun _ h => h) rfl (by decide +kernel) rfl rfl (Nat.le_of_ble_eq_true rfl) dX6_goBy_106 (fun H locs hP _ hS => ?_)
        have hP : va_P D vwCl (wX dT q rs g bh c1 v4 (v7.2.1, v7.2.2.1, v7.2.2.2.1, v7.2.2.2.2.1, v7.2.2.2.2.2.1, v7.2.2.2.2.2.2.1, (upd v7.2.2.2.2.2.2.2.1 v7.2.2.2.2.2.2.2.2.2.1.toNatClampNeg ((((v10 <<< ((24 : Int32) &&& 31)) ||| (a2 <<< ((16 : Int32) &&& 31))) ||| (v2 <<< ((10 : Int32) &&& 31))) ||| v7.1)), v7.2.2.2.2.2.2.2.2.1, (v7.2.2.2.2.2.2.2.2.2.1 + (1 : Int32)), v7.2.2.2.2.2.2.2.2.2.2.1, v7.2.2.2.2.2.2.2.2.2.2.2) pl cl) H := hP
        obtain rfl := Option.some.inj h
        exact rV hx hb hr hlk hK hP hS dX6_goBy_109
      · rw [if_neg k9] at h
        refine lv_aload_n hx hb dX6_goBy_64 rfl (lv_at hl 2 rfl) ?_
        refine lv_iconst (v := 1) hx hb dX6_goBy_65 (by decide) ?_
        refine va_put (D := D) (ci := 5) (v := .int (1 : Int32)) (ty := .boolean) (C := RX6) (T := TX6) (N := 13) hx hb hts (fun w h => sub_z _ (inX6 w h)) tyX6 tyX6_ok nmX6 hown hK hP (xD.w hD) hS 27 rfl rfl 12 (by decide) (hts _ (sub_z _ k_138)) (fun _ h => h) rfl (by decide +kernel) rfl rfl (Nat.le_of_ble_eq_true rfl) dX6_goBy_66 (fun H locs hP _ hS => ?_)
        have hP : va_P D vwCl (wX dT q rs g bh c1 v4 (v7.2.1, v7.2.2.1, v7.2.2.2.1, v7.2.2.2.2.1, v7.2.2.2.2.2.1, v7.2.2.2.2.2.2.1, v7.2.2.2.2.2.2.2.1, v7.2.2.2.2.2.2.2.2.1, v7.2.2.2.2.2.2.2.2.2.1, v7.2.2.2.2.2.2.2.2.2.2.1, (1 : Int32)) pl cl) H := hP
        obtain rfl := Option.some.inj h
        exact rV hx hb hr hlk hK hP hS dX6_goBy_69
  · rw [if_pos k3] at h
    obtain rfl := Option.some.inj h
    exact rV hx hb hr hlk hK hP hS dX6_goBy_20

set_option maxRecDepth 100000 in
set_option maxHeartbeats 4000000 in
theorem c_X6_goFrom {l : Launch} {D : va_G} {dT : Nat → ClassId} {q : Nat → Nat} (hD : xD q) {rs : (Nat → tRow)} {g : tG_} {bh : tBH} {c1 : tC} {c2 : tC} {re : tRE} {pl : tPL} {cl : tCL} {a1 : Int32} {v : tC × tRE} (h : f_X6_goFrom g c2 re a1 = some v) : MG l yX6_goFrom cX6_goFrom 4 none 4 [.ref (q 27), .int a1] D (tyL dT) (wX dT q rs g bh c1 c2 re pl cl) (QV D (tyL dT) (xA q) (wX dT q rs g bh c1 v.1 v.2 pl cl)) (xA q) := by
  refine MG.mk (by decide +kernel) (Nat.le_of_ble_eq_true rfl) ?_
  intro p e s m below meth c hx hb hr hml hown hts hlk hK hP ls hl
  have hown : s.vm.findClass RX6 = some m.cls := hown
  have hS : va_S (xA q) s.heap s.heap [] := va_S.rf
  have hl : lv_has ls 4 [(0, .ref (q 27)), (1, .int a1)] := hl
  rw [f_X6_goFrom] at h
  refine lv_aload_n hx hb dX6_goFrom_0 rfl (lv_at hl 0 rfl) ?_
  refine va_get (D := D) (ci := 5) (v := .ref (q 31)) (C := RX6) (T := TX6) (N := 13) hx hb hts (fun w h => sub_z _ (inX6 w h)) hown hK hP 27 rfl rfl 5 (by decide) (hts _ (sub_z _ k_131)) (fun _ h => h) rfl dX6_goFrom_1 ?_
  refine lv_iload_n hx hb dX6_goFrom_4 rfl (lv_at hl 1 rfl) ?_
  refine lv_iconst (v := 1) hx hb dX6_goFrom_5 (by decide) ?_
  obtain ⟨k1, h⟩ := dg h
  refine va_zast (f := re.2.2.2.1) hx hb hK hP (xD.w hD) hS 31 3 rfl rfl (inb_vp k1) dX6_goFrom_6 (fun H locs hP _ hS => ?_)
  have hP : va_P D vwCl (wX dT q rs g bh c1 c2 (re.1, re.2.1, re.2.2.1, (upd re.2.2.2.1 a1.toNatClampNeg (vp_nar .boolean (1 : Int32))), re.2.2.2.2.1, re.2.2.2.2.2.1, re.2.2.2.2.2.2.1, re.2.2.2.2.2.2.2.1, re.2.2.2.2.2.2.2.2.1, re.2.2.2.2.2.2.2.2.2.1, re.2.2.2.2.2.2.2.2.2.2) pl cl) H := hP
  refine lv_aload_n hx hb dX6_goFrom_7 rfl (lv_at hl 0 rfl) ?_
  refine va_get (D := D) (ci := 5) (v := .ref (q 32)) (C := RX6) (T := TX6) (N := 13) hx hb hts (fun w h => sub_z _ (inX6 w h)) hown hK hP 27 rfl rfl 6 (by decide) (hts _ (sub_z _ k_132)) (fun _ h => h) rfl dX6_goFrom_8 ?_
  refine lv_iload_n hx hb dX6_goFrom_11 rfl (lv_at hl 1 rfl) ?_
  refine lv_aload_n hx hb dX6_goFrom_12 rfl (lv_at hl 0 rfl) ?_
  refine va_get (D := D) (ci := 5) (v := .int re.2.2.2.2.2.2.2.2.1) (C := RX6) (T := TX6) (N := 13) hx hb hts (fun w h => sub_z _ (inX6 w h)) hown hK hP 27 rfl rfl 10 (by decide) (hts _ (sub_z _ k_136)) (fun _ h => h) rfl dX6_goFrom_13 ?_
  obtain ⟨k2, h⟩ := dg h
  refine va_iast (f := re.2.2.2.2.1) hx hb hK hP (xD.w hD) hS 32 0 rfl rfl (inb_vp k2) dX6_goFrom_16 (fun H locs hP _ hS => ?_)
  have hP : va_P D vwCl (wX dT q rs g bh c1 c2 (re.1, re.2.1, re.2.2.1, (upd re.2.2.2.1 a1.toNatClampNeg (vp_nar .boolean (1 : Int32))), (upd re.2.2.2.2.1 a1.toNatClampNeg re.2.2.2.2.2.2.2.2.1), re.2.2.2.2.2.1, re.2.2.2.2.2.2.1, re.2.2.2.2.2.2.2.1, re.2.2.2.2.2.2.2.2.1, re.2.2.2.2.2.2.2.2.2.1, re.2.2.2.2.2.2.2.2.2.2) pl cl) H := hP
  refine lv_iconst (v := 1) hx hb dX6_goFrom_17 (by decide) ?_
  refine lv_iconst (v := 2) hx hb dX6_goFrom_18 (by decide) ?_
  refine lv_aload_n hx hb dX6_goFrom_19 rfl (lv_at hl 0 rfl) ?_
  refine va_get (D := D) (ci := 5) (v := .ref (q 10)) (C := RX6) (T := TX6) (N := 13) hx hb hts (fun w h => sub_z _ (inX6 w h)) hown hK hP 27 rfl rfl 0 (by decide) (hts _ (sub_z _ k_126)) (fun _ h => h) rfl dX6_goFrom_20 ?_
  obtain ⟨v3, hv3, h⟩ := dq h
  refine cVi (As := []) (rest := [.int (2 : Int32), .int (1 : Int32)]) ⟨hx, hb, hml, hown, hts⟩ (c_X3_count (dT := dT) (rs := rs) (g := g) (bh := bh) (c1 := c1) (c2 := c2) (re := (re.1, re.2.1, re.2.2.1, (upd re.2.2.2.1 a1.toNatClampNeg (vp_nar .boolean (1 : Int32))), (upd re.2.2.2.2.1 a1.toNatClampNeg re.2.2.2.2.2.2.2.2.1), re.2.2.2.2.2.1, re.2.2.2.2.2.2.1, re.2.2.2.2.2.2.2.1, re.2.2.2.2.2.2.2.2.1, re.2.2.2.2.2.2.2.2.2.1, re.2.2.2.2.2.2.2.2.2.2)) (pl := pl) (cl := cl) hD hv3) (cwV 0 hts (good_V sub_z k_521 k_342 k_343 k_3 k_344) rfl rfl rfl (by decide +kernel) (by decide)) (va_recv hK hP (ci := 3) (q0 := 10) rfl rfl) hK hP hS rfl hl.1 rfl (Nat.le_of_ble_eq_true rfl) dX6_goFrom_23 (by decide) (fun H locs hP hS => ?_)
  refine lv_imul hx hb dX6_goFrom_26 ?_
  refine lv_ishl hx hb dX6_goFrom_27 ?_
  refine lv_istore_n (lv' := [(2, .int ((1 : Int32) <<< (((2 : Int32) * v3) &&& 31))), (0, .ref (q 27)), (1, .int a1)]) hx hb dX6_goFrom_28 rfl hl (by decide) rfl (fun ls hl => ?_)
  refine lv_aload_n hx hb dX6_goFrom_29 rfl (lv_at hl 1 rfl) ?_
  refine va_get (D := D) (ci := 5) (v := .ref (q 23)) (C := RX6) (T := TX6) (N := 13) hx hb hts (fun w h => sub_z _ (inX6 w h)) hown hK hP 27 rfl rfl 1 (by decide) (hts _ (sub_z _ k_127)) (fun _ h => h) rfl dX6_goFrom_30 ?_
  refine lv_aload_n hx hb dX6_goFrom_33 rfl (lv_at hl 1 rfl) ?_
  refine va_get (D := D) (ci := 5) (v := .ref (q 28)) (C := RX6) (T := TX6) (N := 13) hx hb hts (fun w h => sub_z _ (inX6 w h)) hown hK hP 27 rfl rfl 2 (by decide) (hts _ (sub_z _ k_128)) (fun _ h => h) rfl dX6_goFrom_34 ?_
  refine lv_iload_n hx hb dX6_goFrom_37 rfl (lv_at hl 2 rfl) ?_
  obtain ⟨k4, h⟩ := dg h
  refine va_lald (f := re.1) hx hb hK hP 28 1 rfl rfl (inb_vp k4) dX6_goFrom_38 ?_
  obtain ⟨v5, hv5, h⟩ := dq h
  refine cVv (As := [.long (re.1 a1.toNatClampNeg)]) (rest := []) ⟨hx, hb, hml, hown, hts⟩ (c_X2_take_2 (dT := dT) (rs := rs) (g := g) (bh := bh) (c1 := c1) (c2 := c2) (re := (re.1, re.2.1, re.2.2.1, (upd re.2.2.2.1 a1.toNatClampNeg (vp_nar .boolean (1 : Int32))), (upd re.2.2.2.2.1 a1.toNatClampNeg re.2.2.2.2.2.2.2.2.1), re.2.2.2.2.2.1, re.2.2.2.2.2.2.1, re.2.2.2.2.2.2.2.1, re.2.2.2.2.2.2.2.2.1, re.2.2.2.2.2.2.2.2.2.1, re.2.2.2.2.2.2.2.2.2.2)) (pl := pl) (cl := cl) hD hv5) (cwV 1 hts (good_V sub_z k_522 k_317 k_318 k_5 k_319) rfl rfl rfl (by decide +kernel) (by decide)) (va_recv hK hP (ci := 2) (q0 := 23) rfl rfl) hK hP hS rfl hl.1 rfl (Nat.le_of_ble_eq_true rfl) dX6_goFrom_39 (by decide) (fun H locs hP hS => ?_)
  refine lv_iconst (v := 0) hx hb dX6_goFrom_42 (by decide) ?_
  refine lv_istore_n (lv' := [(3, .int (0 : Int32)), (2, .int ((1 : Int32) <<< (((2 : Int32) * v3) &&& 31))), (0, .ref (q 27)), (1, .int a1)]) hx hb dX6_goFrom_43 rfl hl (by decide) rfl (fun ls hl => ?_)
  have hL44_13 : ∀ (n : Nat) (c2_44 : tC) (re_44 : tRE) (x3_44 : Int32) (y : Int32 × tC × tRE), f_X6_goFrom_44 n g c2_44 re_44 a1 ((1 : Int32) <<< (((2 : Int32) * v3) &&& 31)) x3_44 = some y → ∀ (ls : Array Slot) (H : Heap) (locs : List Loc), lv_has ls 4 [(0, .ref (q 27)), (1, .int a1), (2, .int ((1 : Int32) <<< (((2 : Int32) * v3) &&& 31))), (3, .int x3_44)] → va_P D vwCl (wX dT q rs g bh c1 c2_44 re_44 pl cl) H → va_S (xA q) s.heap H locs → ∀ Q : State → Prop, (∀ (ls : Array Slot) (H : Heap) (locs : List Loc), lv_has ls 4 [(0, .ref (q 27)), (1, .int a1), (2, .int ((1 : Int32) <<< (((2 : Int32) * v3) &&& 31))), (3, .int y.1)] → va_P D vwCl (wX dT q rs g bh c1 y.2.1 y.2.2 pl cl) H → va_S (xA q) s.heap H locs → W p l e (rmD 4) s m [.ref (q 27), .int a1].toArray below meth c H locs 0 0 Q (F0 m 92 ls [])) → W p l e (rmD 4) s m [.ref (q 27), .int a1].toArray below meth c H locs 0 0 Q (F0 m 44 ls []) := by
    intro n
    induction n with
    | zero => intro c2_44 re_44 x3_44 y h; exact absurd h (by simp [f_X6_goFrom_44])
    | succ n ih =>
      intro c2_44 re_44 x3_44 y h ls H locs hl hP hS Q kk
      rw [f_X6_goFrom_44] at h
      refine lv_iload_n hx hb dX6_goFrom_44 rfl (lv_at hl 3 rfl) ?_
      refine lv_iload_n hx hb dX6_goFrom_45 rfl (lv_at hl 2 rfl) ?_
      refine lv_icmp_ge (tgt := 92) hx hb dX6_goFrom_46 (by decide) (fun k6 => ?_) (fun k6 => ?_)
      · rw [if_pos k6] at h
        obtain rfl := Option.some.inj h
        exact kk _ _ _ (lv_sub hl [0, 1, 2, 3] rfl) hP hS
      · rw [if_neg k6] at h
        refine lv_aload_n hx hb dX6_goFrom_49 rfl (lv_at hl 0 rfl) ?_
        refine va_get (D := D) (ci := 5) (v := .int re_44.2.2.2.2.2.2.2.2.2.2) (C := RX6) (T := TX6) (N := 13) hx hb hts (fun w h => sub_z _ (inX6 w h)) hown hK hP 27 rfl rfl 12 (by decide) (hts _ (sub_z _ k_138)) (fun _ h => h) rfl dX6_goFrom_50 ?_
        refine lv_if_ne (tgt := 92) hx hb dX6_goFrom_53 (by decide) (fun k7 => ?_) (fun k7 => ?_)
        · rw [if_neg k7] at h
          obtain rfl := Option.some.inj h
          exact kk _ _ _ (lv_sub hl [0, 1, 2, 3] rfl) hP hS
        · rw [if_pos k7] at h
          refine lv_aload_n hx hb dX6_goFrom_56 rfl (lv_at hl 0 rfl) ?_
          refine va_get (D := D) (ci := 5) (v := .ref (q 23)) (C := RX6) (T := TX6) (N := 13) hx hb hts (fun w h => sub_z _ (inX6 w h)) hown hK hP 27 rfl rfl 1 (by decide) (hts _ (sub_z _ k_127)) (fun _ h => h) rfl dX6_goFrom_57 ?_
          refine lv_iload_n hx hb dX6_goFrom_60 rfl (lv_at hl 3 rfl) ?_
          obtain ⟨v8, hv8, h⟩ := dq h
          refine cVi (As := [.int x3_44]) (rest := []) ⟨hx, hb, hml, hown, hts⟩ (c_X2_allows_2 (dT := dT) (rs := rs) (g := g) (bh := bh) (c1 := c1) (c2 := c2_44) (re := re_44) (pl := pl) (cl := cl) hD hv8) (cwV 1 hts (good_V sub_z k_523 k_389 k_390 k_5 k_391) rfl rfl rfl (by decide +kernel) (by decide)) (va_recv hK hP (ci := 2) (q0 := 23) rfl rfl) hK hP hS rfl hl.1 rfl (Nat.le_of_ble_eq_true rfl) dX6_goFrom_61 (by decide) (fun H locs hP hS => ?_)
          refine lv_if_eq (tgt := 86) hx hb dX6_goFrom_64 (by decide) (fun k9 => ?_) (fun k9 => ?_)
          · rw [if_pos k9] at h
            refine lv_iinc (v := (x3_44 + (1 : Int32))) (lv' := [(3, .int (x3_44 + (1 : Int32))), (0, .ref (q 27)), (1, .int a1), (2, .int ((1 : Int32) <<< (((2 : Int32) * v3) &&& 31)))]) hx hb dX6_goFrom_86 hl (k := 3) rfl rfl (by decide) rfl (fun ls hl => ?_)
            refine lv_goto (tgt := 44) hx hb dX6_goFrom_89 (by decide) ?_
            exact ih _ _ _ _ h _ _ _ (lv_sub hl [1, 2, 3, 0] rfl) hP hS _ kk
          · rw [if_neg k9] at h
            refine lv_aload_n hx hb dX6_goFrom_67 rfl (lv_at hl 0 rfl) ?_
            refine lv_iload_n hx hb dX6_goFrom_68 rfl (lv_at hl 1 rfl) ?_
            refine lv_iload_n hx hb dX6_goFrom_69 rfl (lv_at hl 3 rfl) ?_
            obtain ⟨v10, hv10, h⟩ := dq h
            refine cVv (As := [.int a1, .int x3_44]) (rest := []) ⟨hx, hb, hml, hown, hts⟩ (c_X6_goBy (dT := dT) (rs := rs) (g := g) (bh := bh) (c1 := c1) (c2 := c2_44) (re := re_44) (pl := pl) (cl := cl) hD hv10) (cwV 2 hts (good_V sub_z k_524 k_526 ks_9 k_6 k_527) rfl rfl rfl (by decide +kernel) (by decide)) (va_recv hK hP (ci := 5) (q0 := 27) rfl rfl) hK hP hS rfl hl.1 rfl (Nat.le_of_ble_eq_true rfl) dX6_goFrom_70 (by decide) (fun H locs hP hS => ?_)
            refine lv_aload_n hx hb dX6_goFrom_73 rfl (lv_at hl 0 rfl) ?_
            refine va_get (D := D) (ci := 5) (v := .ref (q 23)) (C := RX6) (T := TX6) (N := 13) hx hb hts (fun w h => sub_z _ (inX6 w h)) hown hK hP 27 rfl rfl 1 (by decide) (hts _ (sub_z _ k_127)) (fun _ h => h) rfl dX6_goFrom_74 ?_
            refine lv_aload_n hx hb dX6_goFrom_77 rfl (lv_at hl 0 rfl) ?_
            refine va_get (D := D) (ci := 5) (v := .ref (q 28)) (C := RX6) (T := TX6) (N := 13) hx hb hts (fun w h => sub_z _ (inX6 w h)) hown hK hP 27 rfl rfl 2 (by decide) (hts _ (sub_z _ k_128)) (fun _ h => h) rfl dX6_goFrom_78 ?_
            refine lv_iload_n hx hb dX6_goFrom_81 rfl (lv_at hl 1 rfl) ?_
            obtain ⟨k11, h⟩ := dg h
            refine va_lald (f := v10.2.1) hx hb hK hP 28 1 rfl rfl (inb_vp k11) dX6_goFrom_82 ?_
            obtain ⟨v12, hv12, h⟩ := dq h
            refine cVv (As := [.long (v10.2.1 a1.toNatClampNeg)]) (rest := []) ⟨hx, hb, hml, hown, hts⟩ (c_X2_take_2 (dT := dT) (rs := rs) (g := g) (bh := bh) (c1 := c1) (c2 := v10.1) (re := v10.2) (pl := pl) (cl := cl) hD hv12) (cwV 1 hts (good_V sub_z k_522 k_317 k_318 k_5 k_319) rfl rfl rfl (by decide +kernel) (by decide)) (va_recv hK hP (ci := 2) (q0 := 23) rfl rfl) hK hP hS rfl hl.1 rfl (Nat.le_of_ble_eq_true rfl) dX6_goFrom_83 (by decide) (fun H locs hP hS => ?_)
            refine lv_iinc (v := (x3_44 + (1 : Int32))) (lv' := [(3, .int (x3_44 + (1 : Int32))), (0, .ref (q 27)), (1, .int a1), (2, .int ((1 : Int32) <<< (((2 : Int32) * v3) &&& 31)))]) hx hb dX6_goFrom_86 hl (k := 3) rfl rfl (by decide) rfl (fun ls hl => ?_)
            refine lv_goto (tgt := 44) hx hb dX6_goFrom_89 (by decide) ?_
            exact ih _ _ _ _ h _ _ _ (lv_sub hl [1, 2, 3, 0] rfl) hP hS _ kk
  obtain ⟨y14, hy14, h⟩ := dq h
  refine hL44_13 _ _ _ _ _ hy14 _ _ _ (lv_sub hl [2, 3, 1, 0] rfl) hP hS _ (fun ls H locs hl hP hS => ?_)
  refine lv_aload_n hx hb dX6_goFrom_92 rfl (lv_at hl 0 rfl) ?_
  refine va_get (D := D) (ci := 5) (v := .ref (q 33)) (C := RX6) (T := TX6) (N := 13) hx hb hts (fun w h => sub_z _ (inX6 w h)) hown hK hP 27 rfl rfl 7 (by decide) (hts _ (sub_z _ k_133)) (fun _ h => h) rfl dX6_goFrom_93 ?_
  refine lv_iload_n hx hb dX6_goFrom_96 rfl (lv_at hl 1 rfl) ?_
  refine lv_aload_n hx hb dX6_goFrom_97 rfl (lv_at hl 0 rfl) ?_
  refine va_get (D := D) (ci := 5) (v := .int y14.2.2.2.2.2.2.2.2.2.2.1) (C := RX6) (T := TX6) (N := 13) hx hb hts (fun w h => sub_z _ (inX6 w h)) hown hK hP 27 rfl rfl 10 (by decide) (hts _ (sub_z _ k_136)) (fun _ h => h) rfl dX6_goFrom_98 ?_
  obtain ⟨k15, h⟩ := dg h
  refine va_iast (f := y14.2.2.2.2.2.2.2.1) hx hb hK hP (xD.w hD) hS 33 0 rfl rfl (inb_vp k15) dX6_goFrom_101 (fun H locs hP _ hS => ?_)
  have hP : va_P D vwCl (wX dT q rs g bh c1 y14.2.1 (y14.2.2.1, y14.2.2.2.1, y14.2.2.2.2.1, y14.2.2.2.2.2.1, y14.2.2.2.2.2.2.1, (upd y14.2.2.2.2.2.2.2.1 a1.toNatClampNeg y14.2.2.2.2.2.2.2.2.2.2.1), y14.2.2.2.2.2.2.2.2.1, y14.2.2.2.2.2.2.2.2.2.1, y14.2.2.2.2.2.2.2.2.2.2.1, y14.2.2.2.2.2.2.2.2.2.2.2.1, y14.2.2.2.2.2.2.2.2.2.2.2.2) pl cl) H := hP
  obtain rfl := Option.some.inj h
  exact rV hx hb hr hlk hK hP hS dX6_goFrom_102

set_option maxRecDepth 100000 in
set_option maxHeartbeats 4000000 in
theorem c_X6_soonestLeft {l : Launch} {D : va_G} {dT : Nat → ClassId} {q : Nat → Nat} (hD : xD q) {rs : (Nat → tRow)} {g : tG_} {bh : tBH} {c1 : tC} {c2 : tC} {re : tRE} {pl : tPL} {cl : tCL}  {v : Int32} (h : f_X6_soonestLeft re = some v) : MG l yX6_soonestLeft cX6_soonestLeft 3 (some .int) 0 [.ref (q 27)] D (tyL dT) (wX dT q rs g bh c1 c2 re pl cl) (QI D (tyL dT) (xA q) (wX dT q rs g bh c1 c2 re pl cl) v) (xA q) := by
  refine MG.mk (by decide +kernel) (Nat.le_of_ble_eq_true rfl) ?_
  intro p e s m below meth c hx hb hr hml hown hts hlk hK hP ls hl
  have hown : s.vm.findClass RX6 = some m.cls := hown
  have hS : va_S (xA q) s.heap s.heap [] := va_S.rf
  have hl : lv_has ls 3 [(0, .ref (q 27))] := hl
  rw [f_X6_soonestLeft] at h
  refine lv_iconst (v := -1) hx hb dX6_soonestLeft_0 (by decide) ?_
  refine lv_istore_n (lv' := [(1, .int (-1 : Int32)), (0, .ref (q 27))]) hx hb dX6_soonestLeft_1 rfl hl (by decide) rfl (fun ls hl => ?_)
  refine lv_iconst (v := 0) hx hb dX6_soonestLeft_2 (by decide) ?_
  refine lv_istore_n (lv' := [(2, .int (0 : Int32)), (1, .int (-1 : Int32)), (0, .ref (q 27))]) hx hb dX6_soonestLeft_3 rfl hl (by decide) rfl (fun ls hl => ?_)
  have hL4_8 : ∀ (n : Nat) (x1_4 : Int32) (x2_4 : Int32) (y : Int32 × Int32), f_X6_soonestLeft_4 n re x1_4 x2_4 = some y → ∀ (ls : Array Slot) (H : Heap) (locs : List Loc), lv_has ls 3 [(0, .ref (q 27)), (1, .int x1_4), (2, .int x2_4)] → va_P D vwCl (wX dT q rs g bh c1 c2 re pl cl) H → va_S (xA q) s.heap H locs → ∀ Q : State → Prop, (∀ (ls : Array Slot) (H : Heap) (locs : List Loc), lv_has ls 3 [(0, .ref (q 27)), (1, .int y.1), (2, .int y.2)] → va_P D vwCl (wX dT q rs g bh c1 c2 re pl cl) H → va_S (xA q) s.heap H locs → W p l e (rmD 0) s m [.ref (q 27)].toArray below meth c H locs 0 0 Q (F0 m 48 ls [])) → W p l e (rmD 0) s m [.ref (q 27)].toArray below meth c H locs 0 0 Q (F0 m 4 ls []) := by
    intro n
    induction n with
    | zero => intro x1_4 x2_4 y h; exact absurd h (by simp [f_X6_soonestLeft_4])
    | succ n ih =>
      intro x1_4 x2_4 y h ls H locs hl hP hS Q kk
      rw [f_X6_soonestLeft_4] at h
      refine lv_iload_n hx hb dX6_soonestLeft_4 rfl (lv_at hl 2 rfl) ?_
      refine lv_aload_n hx hb dX6_soonestLeft_5 rfl (lv_at hl 0 rfl) ?_
      refine va_get (D := D) (ci := 5) (v := .int re.2.2.2.2.2.2.2.1) (C := RX6) (T := TX6) (N := 13) hx hb hts (fun w h => sub_z _ (inX6 w h)) hown hK hP 27 rfl rfl 9 (by decide) (hts _ (sub_z _ k_135)) (fun _ h => h) rfl dX6_soonestLeft_6 ?_
      refine lv_icmp_ge (tgt := 48) hx hb dX6_soonestLeft_9 (by decide) (fun k1 => ?_) (fun k1 => ?_)
      · rw [if_pos k1] at h
        obtain rfl := Option.some.inj h
        exact kk _ _ _ (lv_sub hl [0, 1, 2] rfl) hP hS
      · rw [if_neg k1] at h
        refine lv_aload_n hx hb dX6_soonestLeft_12 rfl (lv_at hl 0 rfl) ?_
        refine va_get (D := D) (ci := 5) (v := .ref (q 31)) (C := RX6) (T := TX6) (N := 13) hx hb hts (fun w h => sub_z _ (inX6 w h)) hown hK hP 27 rfl rfl 5 (by decide) (hts _ (sub_z _ k_131)) (fun _ h => h) rfl dX6_soonestLeft_13 ?_
        refine lv_iload_n hx hb dX6_soonestLeft_16 rfl (lv_at hl 2 rfl) ?_
        obtain ⟨k2, h⟩ := dg h
        refine va_zald (f := re.2.2.2.1) hx hb hK hP 31 3 rfl rfl (inb_vp k2) dX6_soonestLeft_17 ?_
        refine lv_if_ne (tgt := 42) hx hb dX6_soonestLeft_18 (by decide) (fun k3 => ?_) (fun k3 => ?_)
        · rw [if_neg k3] at h
          refine lv_iinc (v := (x2_4 + (1 : Int32))) (lv' := [(2, .int (x2_4 + (1 : Int32))), (0, .ref (q 27)), (1, .int x1_4)]) hx hb dX6_soonestLeft_42 hl (k := 2) rfl rfl (by decide) rfl (fun ls hl => ?_)
          refine lv_goto (tgt := 4) hx hb dX6_soonestLeft_45 (by decide) ?_
          exact ih _ _ _ h _ _ _ (lv_sub hl [1, 2, 0] rfl) hP hS _ kk
        · rw [if_pos k3] at h
          refine lv_iload_n hx hb dX6_soonestLeft_21 rfl (lv_at hl 1 rfl) ?_
          refine lv_if_lt (tgt := 40) hx hb dX6_soonestLeft_22 (by decide) (fun k4 => ?_) (fun k4 => ?_)
          · rw [if_pos k4] at h
            refine lv_iload_n hx hb dX6_soonestLeft_40 rfl (lv_at hl 2 rfl) ?_
            refine lv_istore_n (lv' := [(1, .int x2_4), (0, .ref (q 27)), (2, .int x2_4)]) hx hb dX6_soonestLeft_41 rfl hl (by decide) rfl (fun ls hl => ?_)
            refine lv_iinc (v := (x2_4 + (1 : Int32))) (lv' := [(2, .int (x2_4 + (1 : Int32))), (1, .int x2_4), (0, .ref (q 27))]) hx hb dX6_soonestLeft_42 hl (k := 2) rfl rfl (by decide) rfl (fun ls hl => ?_)
            refine lv_goto (tgt := 4) hx hb dX6_soonestLeft_45 (by decide) ?_
            exact ih _ _ _ h _ _ _ (lv_sub hl [2, 1, 0] rfl) hP hS _ kk
          · rw [if_neg k4] at h
            refine lv_aload_n hx hb dX6_soonestLeft_25 rfl (lv_at hl 0 rfl) ?_
            refine va_get (D := D) (ci := 5) (v := .ref (q 30)) (C := RX6) (T := TX6) (N := 13) hx hb hts (fun w h => sub_z _ (inX6 w h)) hown hK hP 27 rfl rfl 4 (by decide) (hts _ (sub_z _ k_130)) (fun _ h => h) rfl dX6_soonestLeft_26 ?_
            refine lv_iload_n hx hb dX6_soonestLeft_29 rfl (lv_at hl 2 rfl) ?_
            obtain ⟨k5, h⟩ := dg h
            refine va_iald (f := re.2.2.1) hx hb hK hP 30 0 rfl rfl (inb_vp k5) dX6_soonestLeft_30 ?_
            refine lv_aload_n hx hb dX6_soonestLeft_31 rfl (lv_at hl 0 rfl) ?_
            refine va_get (D := D) (ci := 5) (v := .ref (q 30)) (C := RX6) (T := TX6) (N := 13) hx hb hts (fun w h => sub_z _ (inX6 w h)) hown hK hP 27 rfl rfl 4 (by decide) (hts _ (sub_z _ k_130)) (fun _ h => h) rfl dX6_soonestLeft_32 ?_
            refine lv_iload_n hx hb dX6_soonestLeft_35 rfl (lv_at hl 1 rfl) ?_
            obtain ⟨k6, h⟩ := dg h
            refine va_iald (f := re.2.2.1) hx hb hK hP 30 0 rfl rfl (inb_vp k6) dX6_soonestLeft_36 ?_
            refine lv_icmp_ge (tgt := 42) hx hb dX6_soonestLeft_37 (by decide) (fun k7 => ?_) (fun k7 => ?_)
            · rw [if_pos k7] at h
              refine lv_iinc (v := (x2_4 + (1 : Int32))) (lv' := [(2, .int (x2_4 + (1 : Int32))), (0, .ref (q 27)), (1, .int x1_4)]) hx hb dX6_soonestLeft_42 hl (k := 2) rfl rfl (by decide) rfl (fun ls hl => ?_)
              refine lv_goto (tgt := 4) hx hb dX6_soonestLeft_45 (by decide) ?_
              exact ih _ _ _ h _ _ _ (lv_sub hl [1, 2, 0] rfl) hP hS _ kk
            · rw [if_neg k7] at h
              refine lv_iload_n hx hb dX6_soonestLeft_40 rfl (lv_at hl 2 rfl) ?_
              refine lv_istore_n (lv' := [(1, .int x2_4), (0, .ref (q 27)), (2, .int x2_4)]) hx hb dX6_soonestLeft_41 rfl hl (by decide) rfl (fun ls hl => ?_)
              refine lv_iinc (v := (x2_4 + (1 : Int32))) (lv' := [(2, .int (x2_4 + (1 : Int32))), (1, .int x2_4), (0, .ref (q 27))]) hx hb dX6_soonestLeft_42 hl (k := 2) rfl rfl (by decide) rfl (fun ls hl => ?_)
              refine lv_goto (tgt := 4) hx hb dX6_soonestLeft_45 (by decide) ?_
              exact ih _ _ _ h _ _ _ (lv_sub hl [2, 1, 0] rfl) hP hS _ kk
  obtain ⟨y9, hy9, h⟩ := dq h
  refine hL4_8 _ _ _ _ hy9 _ _ _ (lv_sub hl [2, 1, 0] rfl) hP hS _ (fun ls H locs hl hP hS => ?_)
  refine lv_iload_n hx hb dX6_soonestLeft_48 rfl (lv_at hl 1 rfl) ?_
  obtain rfl := Option.some.inj h
  exact rI hx hb hr hlk hK hP hS dX6_soonestLeft_49

set_option maxRecDepth 100000 in
set_option maxHeartbeats 4000000 in
theorem c_X6_isSpent {l : Launch} {D : va_G} {dT : Nat → ClassId} {q : Nat → Nat} (hD : xD q) {rs : (Nat → tRow)} {g : tG_} {bh : tBH} {c1 : tC} {c2 : tC} {re : tRE} {pl : tPL} {cl : tCL}  {v : Int32 × tC × tRE} (h : f_X6_isSpent g c2 re = some v) : MG l yX6_isSpent cX6_isSpent 3 (some .boolean) 5 [.ref (q 27)] D (tyL dT) (wX dT q rs g bh c1 c2 re pl cl) (QI D (tyL dT) (xA q) (wX dT q rs g bh c1 v.2.1 v.2.2 pl cl) v.1) (xA q) := by
  refine MG.mk (by decide +kernel) (Nat.le_of_ble_eq_true rfl) ?_
  intro p e s m below meth c hx hb hr hml hown hts hlk hK hP ls hl
  have hown : s.vm.findClass RX6 = some m.cls := hown
  have hS : va_S (xA q) s.heap s.heap [] := va_S.rf
  have hl : lv_has ls 3 [(0, .ref (q 27))] := hl
  rw [f_X6_isSpent] at h
  refine lv_aload_n hx hb dX6_isSpent_0 rfl (lv_at hl 0 rfl) ?_
  refine va_get (D := D) (ci := 5) (v := .int re.2.2.2.2.2.2.2.2.2.1) (C := RX6) (T := TX6) (N := 13) hx hb hts (fun w h => sub_z _ (inX6 w h)) hown hK hP 27 rfl rfl 11 (by decide) (hts _ (sub_z _ k_137)) (fun _ h => h) rfl dX6_isSpent_1 ?_
  refine lv_if_ne (tgt := 72) hx hb dX6_isSpent_4 (by decide) (fun k1 => ?_) (fun k1 => ?_)
  · rw [if_neg k1] at h
    refine lv_aload_n hx hb dX6_isSpent_72 rfl (lv_at hl 0 rfl) ?_
    refine va_get (D := D) (ci := 5) (v := .int re.2.2.2.2.2.2.2.2.2.2) (C := RX6) (T := TX6) (N := 13) hx hb hts (fun w h => sub_z _ (inX6 w h)) hown hK hP 27 rfl rfl 12 (by decide) (hts _ (sub_z _ k_138)) (fun _ h => h) rfl dX6_isSpent_73 ?_
    obtain ⟨k2, h⟩ := dg h
    obtain rfl := Option.some.inj h
    exact rZ hx hb hr hlk (isb_n k2) hK hP hS dX6_isSpent_76
  · rw [if_pos k1] at h
    refine lv_aload_n hx hb dX6_isSpent_7 rfl (lv_at hl 0 rfl) ?_
    refine lv_iconst (v := 1) hx hb dX6_isSpent_8 (by decide) ?_
    refine va_put (D := D) (ci := 5) (v := .int (1 : Int32)) (ty := .boolean) (C := RX6) (T := TX6) (N := 13) hx hb hts (fun w h => sub_z _ (inX6 w h)) tyX6 tyX6_ok nmX6 hown hK hP (xD.w hD) hS 27 rfl rfl 11 (by decide) (hts _ (sub_z _ k_137)) (fun _ h => h) rfl (by decide +kernel) rfl rfl (Nat.le_of_ble_eq_true rfl) dX6_isSpent_9 (fun H locs hP _ hS => ?_)
    have hP : va_P D vwCl (wX dT q rs g bh c1 c2 (re.1, re.2.1, re.2.2.1, re.2.2.2.1, re.2.2.2.2.1, re.2.2.2.2.2.1, re.2.2.2.2.2.2.1, re.2.2.2.2.2.2.2.1, re.2.2.2.2.2.2.2.2.1, (1 : Int32), re.2.2.2.2.2.2.2.2.2.2) pl cl) H := hP
    refine lv_aload_n hx hb dX6_isSpent_12 rfl (lv_at hl 0 rfl) ?_
    refine lv_iconst (v := 0) hx hb dX6_isSpent_13 (by decide) ?_
    refine va_put (D := D) (ci := 5) (v := .int (0 : Int32)) (ty := .boolean) (C := RX6) (T := TX6) (N := 13) hx hb hts (fun w h => sub_z _ (inX6 w h)) tyX6 tyX6_ok nmX6 hown hK hP (xD.w hD) hS 27 rfl rfl 12 (by decide) (hts _ (sub_z _ k_138)) (fun _ h => h) rfl (by decide +kernel) rfl rfl (Nat.le_of_ble_eq_true rfl) dX6_isSpent_14 (fun H locs hP _ hS => ?_)
    have hP : va_P D vwCl (wX dT q rs g bh c1 c2 (re.1, re.2.1, re.2.2.1, re.2.2.2.1, re.2.2.2.2.1, re.2.2.2.2.2.1, re.2.2.2.2.2.2.1, re.2.2.2.2.2.2.2.1, re.2.2.2.2.2.2.2.2.1, (1 : Int32), (0 : Int32)) pl cl) H := hP
    refine lv_aload_n hx hb dX6_isSpent_17 rfl (lv_at hl 0 rfl) ?_
    refine lv_iconst (v := 0) hx hb dX6_isSpent_18 (by decide) ?_
    refine va_put (D := D) (ci := 5) (v := .int (0 : Int32)) (ty := .int) (C := RX6) (T := TX6) (N := 13) hx hb hts (fun w h => sub_z _ (inX6 w h)) tyX6 tyX6_ok nmX6 hown hK hP (xD.w hD) hS 27 rfl rfl 9 (by decide) (hts _ (sub_z _ k_135)) (fun _ h => h) rfl (by decide +kernel) rfl rfl (Nat.le_of_ble_eq_true rfl) dX6_isSpent_19 (fun H locs hP _ hS => ?_)
    have hP : va_P D vwCl (wX dT q rs g bh c1 c2 (re.1, re.2.1, re.2.2.1, re.2.2.2.1, re.2.2.2.2.1, re.2.2.2.2.2.1, re.2.2.2.2.2.2.1, (0 : Int32), re.2.2.2.2.2.2.2.2.1, (1 : Int32), (0 : Int32)) pl cl) H := hP
    refine lv_aload_n hx hb dX6_isSpent_22 rfl (lv_at hl 0 rfl) ?_
    refine lv_iconst (v := 0) hx hb dX6_isSpent_23 (by decide) ?_
    refine va_put (D := D) (ci := 5) (v := .int (0 : Int32)) (ty := .int) (C := RX6) (T := TX6) (N := 13) hx hb hts (fun w h => sub_z _ (inX6 w h)) tyX6 tyX6_ok nmX6 hown hK hP (xD.w hD) hS 27 rfl rfl 10 (by decide) (hts _ (sub_z _ k_136)) (fun _ h => h) rfl (by decide +kernel) rfl rfl (Nat.le_of_ble_eq_true rfl) dX6_isSpent_24 (fun H locs hP _ hS => ?_)
    have hP : va_P D vwCl (wX dT q rs g bh c1 c2 (re.1, re.2.1, re.2.2.1, re.2.2.2.1, re.2.2.2.2.1, re.2.2.2.2.2.1, re.2.2.2.2.2.2.1, (0 : Int32), (0 : Int32), (1 : Int32), (0 : Int32)) pl cl) H := hP
    refine lv_aload_n hx hb dX6_isSpent_27 rfl (lv_at hl 0 rfl) ?_
    refine lv_lconst (v := 0) hx hb dX6_isSpent_28 (by decide) ?_
    refine lv_iconst (v := 0) hx hb dX6_isSpent_29 (by decide) ?_
    obtain ⟨v3, hv3, h⟩ := dq h
    refine cVi (As := [.long (0 : Int64), .int (0 : Int32)]) (rest := []) ⟨hx, hb, hml, hown, hts⟩ (c_X6_numberOf (dT := dT) (rs := rs) (g := g) (bh := bh) (c1 := c1) (c2 := c2) (re := (re.1, re.2.1, re.2.2.1, re.2.2.2.1, re.2.2.2.2.1, re.2.2.2.2.2.1, re.2.2.2.2.2.2.1, (0 : Int32), (0 : Int32), (1 : Int32), (0 : Int32))) (pl := pl) (cl := cl) hD hv3) (cwV 2 hts (good_V sub_z k_505 k_507 ks_6 k_6 k_508) rfl rfl rfl (by decide +kernel) (by decide)) (va_recv hK hP (ci := 5) (q0 := 27) rfl rfl) hK hP hS rfl hl.1 rfl (Nat.le_of_ble_eq_true rfl) dX6_isSpent_30 (by decide) (fun H locs hP hS => ?_)
    refine lv_pop hx hb dX6_isSpent_33 rfl ?_
    refine lv_iconst (v := 0) hx hb dX6_isSpent_34 (by decide) ?_
    refine lv_istore_n (lv' := [(1, .int (0 : Int32)), (0, .ref (q 27))]) hx hb dX6_isSpent_35 rfl hl (by decide) rfl (fun ls hl => ?_)
    refine lv_iconst (v := 0) hx hb dX6_isSpent_36 (by decide) ?_
    refine lv_istore_n (lv' := [(2, .int (0 : Int32)), (1, .int (0 : Int32)), (0, .ref (q 27))]) hx hb dX6_isSpent_37 rfl hl (by decide) rfl (fun ls hl => ?_)
    have hL38_9 : ∀ (n : Nat) (c2_38 : tC) (re_38 : tRE) (x1_38 : Int32) (x2_38 : Int32) (y : Int32 × Int32 × tC × tRE), f_X6_isSpent_38 n g c2_38 re_38 x1_38 x2_38 = some y → ∀ (ls : Array Slot) (H : Heap) (locs : List Loc), lv_has ls 3 [(0, .ref (q 27)), (1, .int x1_38), (2, .int x2_38)] → va_P D vwCl (wX dT q rs g bh c1 c2_38 re_38 pl cl) H → va_S (xA q) s.heap H locs → ∀ Q : State → Prop, (∀ (ls : Array Slot) (H : Heap) (locs : List Loc), lv_has ls 3 [(0, .ref (q 27)), (1, .int y.1), (2, .int y.2.1)] → va_P D vwCl (wX dT q rs g bh c1 y.2.2.1 y.2.2.2 pl cl) H → va_S (xA q) s.heap H locs → W p l e (rmD 5) s m [.ref (q 27)].toArray below meth c H locs 0 0 Q (F0 m 72 ls [])) → W p l e (rmD 5) s m [.ref (q 27)].toArray below meth c H locs 0 0 Q (F0 m 38 ls []) := by
      intro n
      induction n with
      | zero => intro c2_38 re_38 x1_38 x2_38 y h; exact absurd h (by simp [f_X6_isSpent_38])
      | succ n ih =>
        intro c2_38 re_38 x1_38 x2_38 y h ls H locs hl hP hS Q kk
        rw [f_X6_isSpent_38] at h
        refine lv_iload_n hx hb dX6_isSpent_38 rfl (lv_at hl 2 rfl) ?_
        refine lv_sipush (v := 600) hx hb dX6_isSpent_39 (by decide) ?_
        refine lv_icmp_ge (tgt := 72) hx hb dX6_isSpent_42 (by decide) (fun k4 => ?_) (fun k4 => ?_)
        · rw [if_pos k4] at h
          obtain rfl := Option.some.inj h
          exact kk _ _ _ (lv_sub hl [0, 1, 2] rfl) hP hS
        · rw [if_neg k4] at h
          refine lv_iload_n hx hb dX6_isSpent_45 rfl (lv_at hl 1 rfl) ?_
          refine lv_if_lt (tgt := 72) hx hb dX6_isSpent_46 (by decide) (fun k5 => ?_) (fun k5 => ?_)
          · rw [if_pos k5] at h
            obtain rfl := Option.some.inj h
            exact kk _ _ _ (lv_sub hl [0, 1, 2] rfl) hP hS
          · rw [if_neg k5] at h
            refine lv_aload_n hx hb dX6_isSpent_49 rfl (lv_at hl 0 rfl) ?_
            refine va_get (D := D) (ci := 5) (v := .int re_38.2.2.2.2.2.2.2.2.2.2) (C := RX6) (T := TX6) (N := 13) hx hb hts (fun w h => sub_z _ (inX6 w h)) hown hK hP 27 rfl rfl 12 (by decide) (hts _ (sub_z _ k_138)) (fun _ h => h) rfl dX6_isSpent_50 ?_
            refine lv_if_ne (tgt := 72) hx hb dX6_isSpent_53 (by decide) (fun k6 => ?_) (fun k6 => ?_)
            · rw [if_neg k6] at h
              obtain rfl := Option.some.inj h
              exact kk _ _ _ (lv_sub hl [0, 1, 2] rfl) hP hS
            · rw [if_pos k6] at h
              refine lv_aload_n hx hb dX6_isSpent_56 rfl (lv_at hl 0 rfl) ?_
              refine lv_iload_n hx hb dX6_isSpent_57 rfl (lv_at hl 1 rfl) ?_
              obtain ⟨v7, hv7, h⟩ := dq h
              refine cVv (As := [.int x1_38]) (rest := []) ⟨hx, hb, hml, hown, hts⟩ (c_X6_goFrom (dT := dT) (rs := rs) (g := g) (bh := bh) (c1 := c1) (c2 := c2_38) (re := re_38) (pl := pl) (cl := cl) hD hv7) (cwV 1 hts (good_V sub_z k_517 k_519 ks_8 k_6 k_520) rfl rfl rfl (by decide +kernel) (by decide)) (va_recv hK hP (ci := 5) (q0 := 27) rfl rfl) hK hP hS rfl hl.1 rfl (Nat.le_of_ble_eq_true rfl) dX6_isSpent_58 (by decide) (fun H locs hP hS => ?_)
              refine lv_aload_n hx hb dX6_isSpent_61 rfl (lv_at hl 0 rfl) ?_
              obtain ⟨v8, hv8, h⟩ := dq h
              refine cVi (As := []) (rest := []) ⟨hx, hb, hml, hown, hts⟩ (c_X6_soonestLeft (dT := dT) (rs := rs) (g := g) (bh := bh) (c1 := c1) (c2 := v7.1) (re := v7.2) (pl := pl) (cl := cl) hD hv8) (cwV 0 hts (good_V sub_z k_533 k_535 ks_10 k_6 k_536) rfl rfl rfl (by decide +kernel) (by decide)) (va_recv hK hP (ci := 5) (q0 := 27) rfl rfl) hK hP hS rfl hl.1 rfl (Nat.le_of_ble_eq_true rfl) dX6_isSpent_62 (by decide) (fun H locs hP hS => ?_)
              refine lv_istore_n (lv' := [(1, .int v8), (0, .ref (q 27)), (2, .int x2_38)]) hx hb dX6_isSpent_65 rfl hl (by decide) rfl (fun ls hl => ?_)
              refine lv_iinc (v := (x2_38 + (1 : Int32))) (lv' := [(2, .int (x2_38 + (1 : Int32))), (1, .int v8), (0, .ref (q 27))]) hx hb dX6_isSpent_66 hl (k := 2) rfl rfl (by decide) rfl (fun ls hl => ?_)
              refine lv_goto (tgt := 38) hx hb dX6_isSpent_69 (by decide) ?_
              exact ih _ _ _ _ _ h _ _ _ (lv_sub hl [2, 1, 0] rfl) hP hS _ kk
    obtain ⟨y10, hy10, h⟩ := dq h
    refine hL38_9 _ _ _ _ _ _ hy10 _ _ _ (lv_sub hl [2, 1, 0] rfl) hP hS _ (fun ls H locs hl hP hS => ?_)
    refine lv_aload_n hx hb dX6_isSpent_72 rfl (lv_at hl 0 rfl) ?_
    refine va_get (D := D) (ci := 5) (v := .int y10.2.2.2.2.2.2.2.2.2.2.2.2.2) (C := RX6) (T := TX6) (N := 13) hx hb hts (fun w h => sub_z _ (inX6 w h)) hown hK hP 27 rfl rfl 12 (by decide) (hts _ (sub_z _ k_138)) (fun _ h => h) rfl dX6_isSpent_73 ?_
    obtain ⟨k11, h⟩ := dg h
    obtain rfl := Option.some.inj h
    exact rZ hx hb hr hlk (isb_n k11) hK hP hS dX6_isSpent_76

set_option maxRecDepth 100000 in
set_option maxHeartbeats 4000000 in
theorem c_X6_count {l : Launch} {D : va_G} {dT : Nat → ClassId} {q : Nat → Nat} (hD : xD q) {rs : (Nat → tRow)} {g : tG_} {bh : tBH} {c1 : tC} {c2 : tC} {re : tRE} {pl : tPL} {cl : tCL}  {v : Int32} (h : f_X6_count re = some v) : MG l yX6_count cX6_count 1 (some .int) 0 [.ref (q 27)] D (tyL dT) (wX dT q rs g bh c1 c2 re pl cl) (QI D (tyL dT) (xA q) (wX dT q rs g bh c1 c2 re pl cl) v) (xA q) := by
  refine MG.mk (by decide +kernel) (Nat.le_of_ble_eq_true rfl) ?_
  intro p e s m below meth c hx hb hr hml hown hts hlk hK hP ls hl
  have hown : s.vm.findClass RX6 = some m.cls := hown
  have hS : va_S (xA q) s.heap s.heap [] := va_S.rf
  have hl : lv_has ls 1 [(0, .ref (q 27))] := hl
  rw [f_X6_count] at h
  refine lv_aload_n hx hb dX6_count_0 rfl (lv_at hl 0 rfl) ?_
  refine va_get (D := D) (ci := 5) (v := .int re.2.2.2.2.2.2.2.1) (C := RX6) (T := TX6) (N := 13) hx hb hts (fun w h => sub_z _ (inX6 w h)) hown hK hP 27 rfl rfl 9 (by decide) (hts _ (sub_z _ k_135)) (fun _ h => h) rfl dX6_count_1 ?_
  obtain rfl := Option.some.inj h
  exact rI hx hb hr hlk hK hP hS dX6_count_4

set_option maxRecDepth 100000 in
set_option maxHeartbeats 4000000 in
theorem c_X6_keyInOrder {l : Launch} {D : va_G} {dT : Nat → ClassId} {q : Nat → Nat} (hD : xD q) {rs : (Nat → tRow)} {g : tG_} {bh : tBH} {c1 : tC} {c2 : tC} {re : tRE} {pl : tPL} {cl : tCL} {a1 : Int32} {v : Int64} (h : f_X6_keyInOrder re a1 = some v) : MG l yX6_keyInOrder cX6_keyInOrder 2 (some .long) 0 [.ref (q 27), .int a1] D (tyL dT) (wX dT q rs g bh c1 c2 re pl cl) (QL D (tyL dT) (xA q) (wX dT q rs g bh c1 c2 re pl cl) v) (xA q) := by
  refine MG.mk (by decide +kernel) (Nat.le_of_ble_eq_true rfl) ?_
  intro p e s m below meth c hx hb hr hml hown hts hlk hK hP ls hl
  have hown : s.vm.findClass RX6 = some m.cls := hown
  have hS : va_S (xA q) s.heap s.heap [] := va_S.rf
  have hl : lv_has ls 2 [(0, .ref (q 27)), (1, .int a1)] := hl
  rw [f_X6_keyInOrder] at h
  refine lv_aload_n hx hb dX6_keyInOrder_0 rfl (lv_at hl 0 rfl) ?_
  refine va_get (D := D) (ci := 5) (v := .ref (q 28)) (C := RX6) (T := TX6) (N := 13) hx hb hts (fun w h => sub_z _ (inX6 w h)) hown hK hP 27 rfl rfl 2 (by decide) (hts _ (sub_z _ k_128)) (fun _ h => h) rfl dX6_keyInOrder_1 ?_
  refine lv_aload_n hx hb dX6_keyInOrder_4 rfl (lv_at hl 0 rfl) ?_
  refine va_get (D := D) (ci := 5) (v := .ref (q 29)) (C := RX6) (T := TX6) (N := 13) hx hb hts (fun w h => sub_z _ (inX6 w h)) hown hK hP 27 rfl rfl 3 (by decide) (hts _ (sub_z _ k_129)) (fun _ h => h) rfl dX6_keyInOrder_5 ?_
  refine lv_iload_n hx hb dX6_keyInOrder_8 rfl (lv_at hl 1 rfl) ?_
  obtain ⟨k1, h⟩ := dg h
  refine va_iald (f := re.2.1) hx hb hK hP 29 0 rfl rfl (inb_vp k1) dX6_keyInOrder_9 ?_
  obtain ⟨k2, h⟩ := dg h
  refine va_lald (f := re.1) hx hb hK hP 28 1 rfl rfl (inb_vp k2) dX6_keyInOrder_10 ?_
  obtain rfl := Option.some.inj h
  exact rL hx hb hr hlk hK hP hS dX6_keyInOrder_11

set_option maxRecDepth 100000 in
set_option maxHeartbeats 4000000 in
theorem c_X6_earliestOf {l : Launch} {D : va_G} {dT : Nat → ClassId} {q : Nat → Nat} (hD : xD q) {rs : (Nat → tRow)} {g : tG_} {bh : tBH} {c1 : tC} {c2 : tC} {re : tRE} {pl : tPL} {cl : tCL} {a1 : Int32} {v : Int32} (h : f_X6_earliestOf re a1 = some v) : MG l yX6_earliestOf cX6_earliestOf 2 (some .int) 0 [.ref (q 27), .int a1] D (tyL dT) (wX dT q rs g bh c1 c2 re pl cl) (QI D (tyL dT) (xA q) (wX dT q rs g bh c1 c2 re pl cl) v) (xA q) := by
  refine MG.mk (by decide +kernel) (Nat.le_of_ble_eq_true rfl) ?_
  intro p e s m below meth c hx hb hr hml hown hts hlk hK hP ls hl
  have hown : s.vm.findClass RX6 = some m.cls := hown
  have hS : va_S (xA q) s.heap s.heap [] := va_S.rf
  have hl : lv_has ls 2 [(0, .ref (q 27)), (1, .int a1)] := hl
  rw [f_X6_earliestOf] at h
  refine lv_aload_n hx hb dX6_earliestOf_0 rfl (lv_at hl 0 rfl) ?_
  refine va_get (D := D) (ci := 5) (v := .ref (q 30)) (C := RX6) (T := TX6) (N := 13) hx hb hts (fun w h => sub_z _ (inX6 w h)) hown hK hP 27 rfl rfl 4 (by decide) (hts _ (sub_z _ k_130)) (fun _ h => h) rfl dX6_earliestOf_1 ?_
  refine lv_iload_n hx hb dX6_earliestOf_4 rfl (lv_at hl 1 rfl) ?_
  obtain ⟨k1, h⟩ := dg h
  refine va_iald (f := re.2.2.1) hx hb hK hP 30 0 rfl rfl (inb_vp k1) dX6_earliestOf_5 ?_
  obtain rfl := Option.some.inj h
  exact rI hx hb hr hlk hK hP hS dX6_earliestOf_6

set_option maxRecDepth 100000 in
set_option maxHeartbeats 4000000 in
theorem c_X6_startOfWays {l : Launch} {D : va_G} {dT : Nat → ClassId} {q : Nat → Nat} (hD : xD q) {rs : (Nat → tRow)} {g : tG_} {bh : tBH} {c1 : tC} {c2 : tC} {re : tRE} {pl : tPL} {cl : tCL} {a1 : Int32} {v : Int32} (h : f_X6_startOfWays re a1 = some v) : MG l yX6_startOfWays cX6_startOfWays 2 (some .int) 0 [.ref (q 27), .int a1] D (tyL dT) (wX dT q rs g bh c1 c2 re pl cl) (QI D (tyL dT) (xA q) (wX dT q rs g bh c1 c2 re pl cl) v) (xA q) := by
  refine MG.mk (by decide +kernel) (Nat.le_of_ble_eq_true rfl) ?_
  intro p e s m below meth c hx hb hr hml hown hts hlk hK hP ls hl
  have hown : s.vm.findClass RX6 = some m.cls := hown
  have hS : va_S (xA q) s.heap s.heap [] := va_S.rf
  have hl : lv_has ls 2 [(0, .ref (q 27)), (1, .int a1)] := hl
  rw [f_X6_startOfWays] at h
  refine lv_aload_n hx hb dX6_startOfWays_0 rfl (lv_at hl 0 rfl) ?_
  refine va_get (D := D) (ci := 5) (v := .ref (q 32)) (C := RX6) (T := TX6) (N := 13) hx hb hts (fun w h => sub_z _ (inX6 w h)) hown hK hP 27 rfl rfl 6 (by decide) (hts _ (sub_z _ k_132)) (fun _ h => h) rfl dX6_startOfWays_1 ?_
  refine lv_iload_n hx hb dX6_startOfWays_4 rfl (lv_at hl 1 rfl) ?_
  obtain ⟨k1, h⟩ := dg h
  refine va_iald (f := re.2.2.2.2.1) hx hb hK hP 32 0 rfl rfl (inb_vp k1) dX6_startOfWays_5 ?_
  obtain rfl := Option.some.inj h
  exact rI hx hb hr hlk hK hP hS dX6_startOfWays_6

set_option maxRecDepth 100000 in
set_option maxHeartbeats 4000000 in
theorem c_X6_endOfWays {l : Launch} {D : va_G} {dT : Nat → ClassId} {q : Nat → Nat} (hD : xD q) {rs : (Nat → tRow)} {g : tG_} {bh : tBH} {c1 : tC} {c2 : tC} {re : tRE} {pl : tPL} {cl : tCL} {a1 : Int32} {v : Int32} (h : f_X6_endOfWays re a1 = some v) : MG l yX6_endOfWays cX6_endOfWays 2 (some .int) 0 [.ref (q 27), .int a1] D (tyL dT) (wX dT q rs g bh c1 c2 re pl cl) (QI D (tyL dT) (xA q) (wX dT q rs g bh c1 c2 re pl cl) v) (xA q) := by
  refine MG.mk (by decide +kernel) (Nat.le_of_ble_eq_true rfl) ?_
  intro p e s m below meth c hx hb hr hml hown hts hlk hK hP ls hl
  have hown : s.vm.findClass RX6 = some m.cls := hown
  have hS : va_S (xA q) s.heap s.heap [] := va_S.rf
  have hl : lv_has ls 2 [(0, .ref (q 27)), (1, .int a1)] := hl
  rw [f_X6_endOfWays] at h
  refine lv_aload_n hx hb dX6_endOfWays_0 rfl (lv_at hl 0 rfl) ?_
  refine va_get (D := D) (ci := 5) (v := .ref (q 33)) (C := RX6) (T := TX6) (N := 13) hx hb hts (fun w h => sub_z _ (inX6 w h)) hown hK hP 27 rfl rfl 7 (by decide) (hts _ (sub_z _ k_133)) (fun _ h => h) rfl dX6_endOfWays_1 ?_
  refine lv_iload_n hx hb dX6_endOfWays_4 rfl (lv_at hl 1 rfl) ?_
  obtain ⟨k1, h⟩ := dg h
  refine va_iald (f := re.2.2.2.2.2.1) hx hb hK hP 33 0 rfl rfl (inb_vp k1) dX6_endOfWays_5 ?_
  obtain rfl := Option.some.inj h
  exact rI hx hb hr hlk hK hP hS dX6_endOfWays_6

set_option maxRecDepth 100000 in
set_option maxHeartbeats 4000000 in
theorem c_X6_way {l : Launch} {D : va_G} {dT : Nat → ClassId} {q : Nat → Nat} (hD : xD q) {rs : (Nat → tRow)} {g : tG_} {bh : tBH} {c1 : tC} {c2 : tC} {re : tRE} {pl : tPL} {cl : tCL} {a1 : Int32} {v : Int32} (h : f_X6_way re a1 = some v) : MG l yX6_way cX6_way 2 (some .int) 0 [.ref (q 27), .int a1] D (tyL dT) (wX dT q rs g bh c1 c2 re pl cl) (QI D (tyL dT) (xA q) (wX dT q rs g bh c1 c2 re pl cl) v) (xA q) := by
  refine MG.mk (by decide +kernel) (Nat.le_of_ble_eq_true rfl) ?_
  intro p e s m below meth c hx hb hr hml hown hts hlk hK hP ls hl
  have hown : s.vm.findClass RX6 = some m.cls := hown
  have hS : va_S (xA q) s.heap s.heap [] := va_S.rf
  have hl : lv_has ls 2 [(0, .ref (q 27)), (1, .int a1)] := hl
  rw [f_X6_way] at h
  refine lv_aload_n hx hb dX6_way_0 rfl (lv_at hl 0 rfl) ?_
  refine va_get (D := D) (ci := 5) (v := .ref (q 34)) (C := RX6) (T := TX6) (N := 13) hx hb hts (fun w h => sub_z _ (inX6 w h)) hown hK hP 27 rfl rfl 8 (by decide) (hts _ (sub_z _ k_134)) (fun _ h => h) rfl dX6_way_1 ?_
  refine lv_iload_n hx hb dX6_way_4 rfl (lv_at hl 1 rfl) ?_
  obtain ⟨k1, h⟩ := dg h
  refine va_iald (f := re.2.2.2.2.2.2.1) hx hb hK hP 34 0 rfl rfl (inb_vp k1) dX6_way_5 ?_
  obtain rfl := Option.some.inj h
  exact rI hx hb hr hlk hK hP hS dX6_way_6

set_option maxRecDepth 100000 in
set_option maxHeartbeats 4000000 in
theorem c_X6_goal {l : Launch} {D : va_G} {dT : Nat → ClassId} {q : Nat → Nat} (hD : xD q) {rs : (Nat → tRow)} {g : tG_} {bh : tBH} {c1 : tC} {c2 : tC} {re : tRE} {pl : tPL} {cl : tCL} {a0 : Int32} {v : Int32} (h : f_X6_goal a0 = some v) : MG l yX6_goal cX6_goal 1 (some .int) 0 [.int a0] D (tyL dT) (wX dT q rs g bh c1 c2 re pl cl) (QI D (tyL dT) (xA q) (wX dT q rs g bh c1 c2 re pl cl) v) (xA q) := by
  refine MG.mk (by decide +kernel) (Nat.le_of_ble_eq_true rfl) ?_
  intro p e s m below meth c hx hb hr hml hown hts hlk hK hP ls hl
  have hown : s.vm.findClass RX6 = some m.cls := hown
  have hS : va_S (xA q) s.heap s.heap [] := va_S.rf
  have hl : lv_has ls 1 [(0, .int a0)] := hl
  rw [f_X6_goal] at h
  refine lv_iload_n hx hb dX6_goal_0 rfl (lv_at hl 0 rfl) ?_
  refine lv_sipush (v := 1023) hx hb dX6_goal_1 (by decide) ?_
  refine lv_iand hx hb dX6_goal_4 ?_
  obtain rfl := Option.some.inj h
  exact rI hx hb hr hlk hK hP hS dX6_goal_5

set_option maxRecDepth 100000 in
set_option maxHeartbeats 4000000 in
theorem c_X6_passing {l : Launch} {D : va_G} {dT : Nat → ClassId} {q : Nat → Nat} (hD : xD q) {rs : (Nat → tRow)} {g : tG_} {bh : tBH} {c1 : tC} {c2 : tC} {re : tRE} {pl : tPL} {cl : tCL} {a0 : Int32} {v : Int32} (h : f_X6_passing a0 = some v) : MG l yX6_passing cX6_passing 1 (some .int) 0 [.int a0] D (tyL dT) (wX dT q rs g bh c1 c2 re pl cl) (QI D (tyL dT) (xA q) (wX dT q rs g bh c1 c2 re pl cl) v) (xA q) := by
  refine MG.mk (by decide +kernel) (Nat.le_of_ble_eq_true rfl) ?_
  intro p e s m below meth c hx hb hr hml hown hts hlk hK hP ls hl
  have hown : s.vm.findClass RX6 = some m.cls := hown
  have hS : va_S (xA q) s.heap s.heap [] := va_S.rf
  have hl : lv_has ls 1 [(0, .int a0)] := hl
  rw [f_X6_passing] at h
  refine lv_iload_n hx hb dX6_passing_0 rfl (lv_at hl 0 rfl) ?_
  refine lv_bipush (v := 10) hx hb dX6_passing_1 (by decide) ?_
  refine lv_ishr hx hb dX6_passing_3 ?_
  refine lv_bipush (v := 63) hx hb dX6_passing_4 (by decide) ?_
  refine lv_iand hx hb dX6_passing_6 ?_
  obtain rfl := Option.some.inj h
  exact rI hx hb hr hlk hK hP hS dX6_passing_7

set_option maxRecDepth 100000 in
set_option maxHeartbeats 4000000 in
theorem c_X6_handling {l : Launch} {D : va_G} {dT : Nat → ClassId} {q : Nat → Nat} (hD : xD q) {rs : (Nat → tRow)} {g : tG_} {bh : tBH} {c1 : tC} {c2 : tC} {re : tRE} {pl : tPL} {cl : tCL} {a0 : Int32} {v : Int32} (h : f_X6_handling a0 = some v) : MG l yX6_handling cX6_handling 1 (some .int) 0 [.int a0] D (tyL dT) (wX dT q rs g bh c1 c2 re pl cl) (QI D (tyL dT) (xA q) (wX dT q rs g bh c1 c2 re pl cl) v) (xA q) := by
  refine MG.mk (by decide +kernel) (Nat.le_of_ble_eq_true rfl) ?_
  intro p e s m below meth c hx hb hr hml hown hts hlk hK hP ls hl
  have hown : s.vm.findClass RX6 = some m.cls := hown
  have hS : va_S (xA q) s.heap s.heap [] := va_S.rf
  have hl : lv_has ls 1 [(0, .int a0)] := hl
  rw [f_X6_handling] at h
  refine lv_iload_n hx hb dX6_handling_0 rfl (lv_at hl 0 rfl) ?_
  refine lv_bipush (v := 16) hx hb dX6_handling_1 (by decide) ?_
  refine lv_ishr hx hb dX6_handling_3 ?_
  refine lv_sipush (v := 255) hx hb dX6_handling_4 (by decide) ?_
  refine lv_iand hx hb dX6_handling_7 ?_
  obtain rfl := Option.some.inj h
  exact rI hx hb hr hlk hK hP hS dX6_handling_8

set_option maxRecDepth 100000 in
set_option maxHeartbeats 4000000 in
theorem c_X6_counted {l : Launch} {D : va_G} {dT : Nat → ClassId} {q : Nat → Nat} (hD : xD q) {rs : (Nat → tRow)} {g : tG_} {bh : tBH} {c1 : tC} {c2 : tC} {re : tRE} {pl : tPL} {cl : tCL} {a0 : Int32} {v : Int32} (h : f_X6_counted a0 = some v) : MG l yX6_counted cX6_counted 1 (some .int) 0 [.int a0] D (tyL dT) (wX dT q rs g bh c1 c2 re pl cl) (QI D (tyL dT) (xA q) (wX dT q rs g bh c1 c2 re pl cl) v) (xA q) := by
  refine MG.mk (by decide +kernel) (Nat.le_of_ble_eq_true rfl) ?_
  intro p e s m below meth c hx hb hr hml hown hts hlk hK hP ls hl
  have hown : s.vm.findClass RX6 = some m.cls := hown
  have hS : va_S (xA q) s.heap s.heap [] := va_S.rf
  have hl : lv_has ls 1 [(0, .int a0)] := hl
  rw [f_X6_counted] at h
  refine lv_iload_n hx hb dX6_counted_0 rfl (lv_at hl 0 rfl) ?_
  refine lv_bipush (v := 24) hx hb dX6_counted_1 (by decide) ?_
  refine lv_ishr hx hb dX6_counted_3 ?_
  obtain rfl := Option.some.inj h
  exact rI hx hb hr hlk hK hP hS dX6_counted_4
