set_option maxRecDepth 100000 in
set_option maxHeartbeats 4000000 in
theorem c_X9_by {l : Launch} {D : va_G} {dT : Nat → ClassId} {q : Nat → Nat} (hD : mD q) {mr : tMR} {mg : tMG} {mc : tMC} {mn : tMN} {mh : tMH} {mf : tMF} {mp : tMP} {a1 : Int32} {a2 : Int32} {a3 : Int32} {v : Int32} (h : f_X9_by mf a1 a2 a3 = some v) : MG l yX9_by cX9_by 6 (some .int) 2 [.ref (q 0), .int a1, .int a2, .int a3] D (tyL dT) (wM dT q mr mg mc mn mh mf mp) (QI D (tyL dT) (mA q) (wM dT q mr mg mc mn mh mf mp) v) (mA q) := by
  refine MG.mk (by decide +kernel) (Nat.le_of_ble_eq_true rfl) ?_
  intro p e s m below meth c hx hb hr hml hown hts hlk hK hP ls hl
  have hown : s.vm.findClass RX9 = some m.cls := hown
  have hS : va_S (mA q) s.heap s.heap [] := va_S.rf
  have hl : lv_has ls 6 [(0, .ref (q 0)), (1, .int a1), (2, .int a2), (3, .int a3)] := hl
  rw [f_X9_by] at h
  refine lv_sipush (v := 256) hx hb dX9_by_0 (by decide) ?_
  refine lv_iload_n hx hb dX9_by_3 rfl (lv_at hl 1 rfl) ?_
  refine lv_imul hx hb dX9_by_4 ?_
  refine lv_iload_n hx hb dX9_by_5 rfl (lv_at hl 2 rfl) ?_
  refine lv_iadd hx hb dX9_by_6 ?_
  refine lv_istore (lv' := [(4, .int (((256 : Int32) * a1) + a2)), (0, .ref (q 0)), (1, .int a1), (2, .int a2), (3, .int a3)]) hx hb dX9_by_7 hl (by decide) rfl (fun ls hl => ?_)
  refine lv_aload_n hx hb dX9_by_9 rfl (lv_at hl 1 rfl) ?_
  refine va_get (D := D) (ci := 8) (v := .ref (q 17)) (C := RX9) (T := TX9) (N := 31) hx hb hts (fun w h => sub_z _ (inX9 w h)) hown hK hP 0 rfl rfl 25 (by decide) (hts _ (sub_z _ k_761)) (fun _ h => h) rfl dX9_by_10 ?_
  refine lv_iload hx hb dX9_by_13 (lv_at hl 0 rfl) ?_
  obtain ⟨k1, h⟩ := dg h
  refine va_iald (f := mf.2.2.2.1) hx hb hK hP 17 0 rfl rfl (inb_vp k1) dX9_by_15 ?_
  refine lv_if_lt (tgt := 30) hx hb dX9_by_16 (by decide) (fun k2 => ?_) (fun k2 => ?_)
  · rw [if_pos k2] at h
    refine lv_iconst (v := -1) hx hb dX9_by_30 (by decide) ?_
    obtain rfl := Option.some.inj h
    exact rI hx hb hr hlk hK hP hS dX9_by_31
  · rw [if_neg k2] at h
    refine lv_aload_n hx hb dX9_by_19 rfl (lv_at hl 1 rfl) ?_
    refine va_get (D := D) (ci := 8) (v := .ref (q 18)) (C := RX9) (T := TX9) (N := 31) hx hb hts (fun w h => sub_z _ (inX9 w h)) hown hK hP 0 rfl rfl 26 (by decide) (hts _ (sub_z _ k_762)) (fun _ h => h) rfl dX9_by_20 ?_
    refine lv_iload hx hb dX9_by_23 (lv_at hl 0 rfl) ?_
    obtain ⟨k3, h⟩ := dg h
    refine va_iald (f := mf.2.2.2.2.1) hx hb hK hP 18 0 rfl rfl (inb_vp k3) dX9_by_25 ?_
    refine lv_iload_n hx hb dX9_by_26 rfl (lv_at hl 4 rfl) ?_
    refine lv_icmp_le (tgt := 32) hx hb dX9_by_27 (by decide) (fun k4 => ?_) (fun k4 => ?_)
    · rw [if_pos k4] at h
      refine lv_aload_n hx hb dX9_by_32 rfl (lv_at hl 1 rfl) ?_
      refine va_get (D := D) (ci := 8) (v := .ref (q 19)) (C := RX9) (T := TX9) (N := 31) hx hb hts (fun w h => sub_z _ (inX9 w h)) hown hK hP 0 rfl rfl 27 (by decide) (hts _ (sub_z _ k_763)) (fun _ h => h) rfl dX9_by_33 ?_
      refine lv_sipush (v := 600) hx hb dX9_by_36 (by decide) ?_
      refine lv_iload_n hx hb dX9_by_39 rfl (lv_at hl 4 rfl) ?_
      refine lv_aload_n hx hb dX9_by_40 rfl (lv_at hl 1 rfl) ?_
      refine va_get (D := D) (ci := 8) (v := .ref (q 18)) (C := RX9) (T := TX9) (N := 31) hx hb hts (fun w h => sub_z _ (inX9 w h)) hown hK hP 0 rfl rfl 26 (by decide) (hts _ (sub_z _ k_762)) (fun _ h => h) rfl dX9_by_41 ?_
      refine lv_iload hx hb dX9_by_44 (lv_at hl 0 rfl) ?_
      obtain ⟨k5, h⟩ := dg h
      refine va_iald (f := mf.2.2.2.2.1) hx hb hK hP 18 0 rfl rfl (inb_vp k5) dX9_by_46 ?_
      refine lv_isub hx hb dX9_by_47 ?_
      refine lv_imul hx hb dX9_by_48 ?_
      refine lv_aload_n hx hb dX9_by_49 rfl (lv_at hl 1 rfl) ?_
      refine va_get (D := D) (ci := 8) (v := .ref (q 17)) (C := RX9) (T := TX9) (N := 31) hx hb hts (fun w h => sub_z _ (inX9 w h)) hown hK hP 0 rfl rfl 25 (by decide) (hts _ (sub_z _ k_761)) (fun _ h => h) rfl dX9_by_50 ?_
      refine lv_iload hx hb dX9_by_53 (lv_at hl 0 rfl) ?_
      obtain ⟨k6, h⟩ := dg h
      refine va_iald (f := mf.2.2.2.1) hx hb hK hP 17 0 rfl rfl (inb_vp k6) dX9_by_55 ?_
      refine lv_iadd hx hb dX9_by_56 ?_
      obtain ⟨k7, h⟩ := dg h
      refine va_iald (f := mf.2.2.2.2.2.1) hx hb hK hP 19 0 rfl rfl (inb_vp k7) dX9_by_57 ?_
      refine lv_istore (lv' := [(5, .int (mf.2.2.2.2.2.1 (((600 : Int32) * (a3 - (mf.2.2.2.2.1 (((256 : Int32) * a1) + a2).toNatClampNeg))) + (mf.2.2.2.1 (((256 : Int32) * a1) + a2).toNatClampNeg)).toNatClampNeg)), (4, .int (((256 : Int32) * a1) + a2)), (0, .ref (q 0)), (1, .int a1), (2, .int a2), (3, .int a3)]) hx hb dX9_by_58 hl (by decide) rfl (fun ls hl => ?_)
      refine lv_iload hx hb dX9_by_60 (lv_at hl 0 rfl) ?_
      refine lv_if_ge (tgt := 69) hx hb dX9_by_62 (by decide) (fun k8 => ?_) (fun k8 => ?_)
      · rw [if_pos k8] at h
        refine lv_iload hx hb dX9_by_69 (lv_at hl 0 rfl) ?_
        refine lv_iload_n hx hb dX9_by_71 rfl (lv_at hl 4 rfl) ?_
        obtain ⟨v9, hv9, h⟩ := dq h
        refine cSi (As := [.int a2]) (rest := [.int (mf.2.2.2.2.2.1 (((600 : Int32) * (a3 - (mf.2.2.2.2.1 (((256 : Int32) * a1) + a2).toNatClampNeg))) + (mf.2.2.2.1 (((256 : Int32) * a1) + a2).toNatClampNeg)).toNatClampNeg)]) ⟨hx, hb, hml, hown, hts⟩ (c_X9_countOf (dT := dT) (mr := mr) (mg := mg) (mc := mc) (mn := mn) (mh := mh) (mf := mf) (mp := mp) hD hv9) (va_cwS 1 hts (good_S sub_z k_936 k_937 k_9 k_938) rfl rfl rfl (by decide +kernel) (by decide)) hK hP hS rfl hl.1 rfl (Nat.le_of_ble_eq_true rfl) dX9_by_72 (by decide) (fun H locs hP hS => ?_)
        refine lv_iadd hx hb dX9_by_75 ?_
        obtain rfl := Option.some.inj h
        exact rI hx hb hr hlk hK hP hS dX9_by_76
      · rw [if_neg k8] at h
        refine lv_iconst (v := -1) hx hb dX9_by_65 (by decide) ?_
        refine lv_goto (tgt := 76) hx hb dX9_by_66 (by decide) ?_
        obtain rfl := Option.some.inj h
        exact rI hx hb hr hlk hK hP hS dX9_by_76
    · rw [if_neg k4] at h
      refine lv_iconst (v := -1) hx hb dX9_by_30 (by decide) ?_
      obtain rfl := Option.some.inj h
      exact rI hx hb hr hlk hK hP hS dX9_by_31

set_option maxRecDepth 100000 in
set_option maxHeartbeats 4000000 in
theorem c_X9_leastFrom {l : Launch} {D : va_G} {dT : Nat → ClassId} {q : Nat → Nat} (hD : mD q) {mr : tMR} {mg : tMG} {mc : tMC} {mn : tMN} {mh : tMH} {mf : tMF} {mp : tMP} {a1 : Int32} {a2 : Int32} {v : Int32} (h : f_X9_leastFrom mf a1 a2 = some v) : MG l yX9_leastFrom cX9_leastFrom 6 (some .int) 3 [.ref (q 0), .int a1, .int a2] D (tyL dT) (wM dT q mr mg mc mn mh mf mp) (QI D (tyL dT) (mA q) (wM dT q mr mg mc mn mh mf mp) v) (mA q) := by
  refine MG.mk (by decide +kernel) (Nat.le_of_ble_eq_true rfl) ?_
  intro p e s m below meth c hx hb hr hml hown hts hlk hK hP ls hl
  have hown : s.vm.findClass RX9 = some m.cls := hown
  have hS : va_S (mA q) s.heap s.heap [] := va_S.rf
  have hl : lv_has ls 6 [(0, .ref (q 0)), (1, .int a1), (2, .int a2)] := hl
  rw [f_X9_leastFrom] at h
  refine lv_iconst (v := -1) hx hb dX9_leastFrom_0 (by decide) ?_
  refine lv_istore_n (lv' := [(3, .int (-1 : Int32)), (0, .ref (q 0)), (1, .int a1), (2, .int a2)]) hx hb dX9_leastFrom_1 rfl hl (by decide) rfl (fun ls hl => ?_)
  refine lv_iconst (v := 0) hx hb dX9_leastFrom_2 (by decide) ?_
  refine lv_istore (lv' := [(4, .int (0 : Int32)), (3, .int (-1 : Int32)), (0, .ref (q 0)), (1, .int a1), (2, .int a2)]) hx hb dX9_leastFrom_3 hl (by decide) rfl (fun ls hl => ?_)
  have hL5_6 : ∀ (n : Nat) (x3_5 : Int32) (x4_5 : Int32) (y : Int32 × Int32), f_X9_leastFrom_5 n mf a1 a2 x3_5 x4_5 = some y → ∀ (ls : Array Slot) (H : Heap) (locs : List Loc), lv_has ls 6 [(0, .ref (q 0)), (1, .int a1), (2, .int a2), (3, .int x3_5), (4, .int x4_5)] → va_P D vwCl (wM dT q mr mg mc mn mh mf mp) H → va_S (mA q) s.heap H locs → ∀ Q : State → Prop, (∀ (ls : Array Slot) (H : Heap) (locs : List Loc), lv_has ls 6 [(0, .ref (q 0)), (1, .int a1), (2, .int a2), (3, .int y.1), (4, .int y.2)] → va_P D vwCl (wM dT q mr mg mc mn mh mf mp) H → va_S (mA q) s.heap H locs → W p l e (rmD 3) s m [.ref (q 0), .int a1, .int a2].toArray below meth c H locs 0 0 Q (F0 m 51 ls [])) → W p l e (rmD 3) s m [.ref (q 0), .int a1, .int a2].toArray below meth c H locs 0 0 Q (F0 m 5 ls []) := by
    intro n
    induction n with
    | zero => intro x3_5 x4_5 y h; exact absurd h (by simp [f_X9_leastFrom_5])
    | succ n ih =>
      intro x3_5 x4_5 y h ls H locs hl hP hS Q kk
      rw [f_X9_leastFrom_5] at h
      refine lv_iload hx hb dX9_leastFrom_5 (lv_at hl 4 rfl) ?_
      refine lv_sipush (v := 256) hx hb dX9_leastFrom_7 (by decide) ?_
      refine lv_icmp_ge (tgt := 51) hx hb dX9_leastFrom_10 (by decide) (fun k1 => ?_) (fun k1 => ?_)
      · rw [if_pos k1] at h
        obtain rfl := Option.some.inj h
        exact kk _ _ _ (lv_sub hl [0, 1, 2, 3, 4] rfl) hP hS
      · rw [if_neg k1] at h
        refine lv_aload_n hx hb dX9_leastFrom_13 rfl (lv_at hl 0 rfl) ?_
        refine lv_iload_n hx hb dX9_leastFrom_14 rfl (lv_at hl 1 rfl) ?_
        refine lv_iload hx hb dX9_leastFrom_15 (lv_at hl 4 rfl) ?_
        refine lv_iload_n hx hb dX9_leastFrom_17 rfl (lv_at hl 2 rfl) ?_
        obtain ⟨v2, hv2, h⟩ := dq h
        refine cVi (As := [.int a1, .int x4_5, .int a2]) (rest := []) ⟨hx, hb, hml, hown, hts⟩ (c_X9_by (dT := dT) (mr := mr) (mg := mg) (mc := mc) (mn := mn) (mh := mh) (mf := mf) (mp := mp) hD hv2) (cwV 3 hts (good_V sub_z k_987 k_989 ks_35 k_9 k_990) rfl rfl rfl (by decide +kernel) (by decide)) (va_recv hK hP (ci := 8) (q0 := 0) rfl rfl) hK hP hS rfl hl.1 rfl (Nat.le_of_ble_eq_true rfl) dX9_leastFrom_18 (by decide) (fun H locs hP hS => ?_)
        refine lv_istore (lv' := [(5, .int v2), (0, .ref (q 0)), (1, .int a1), (2, .int a2), (3, .int x3_5), (4, .int x4_5)]) hx hb dX9_leastFrom_21 hl (by decide) rfl (fun ls hl => ?_)
        refine lv_iload hx hb dX9_leastFrom_23 (lv_at hl 0 rfl) ?_
        refine lv_if_lt (tgt := 43) hx hb dX9_leastFrom_25 (by decide) (fun k3 => ?_) (fun k3 => ?_)
        · rw [if_pos k3] at h
          refine lv_iload_n hx hb dX9_leastFrom_43 rfl (lv_at hl 4 rfl) ?_
          refine lv_istore_n (lv' := [(3, .int x3_5), (5, .int v2), (0, .ref (q 0)), (1, .int a1), (2, .int a2), (4, .int x4_5)]) hx hb dX9_leastFrom_44 rfl hl (by decide) rfl (fun ls hl => ?_)
          refine lv_iinc (v := (x4_5 + (1 : Int32))) (lv' := [(4, .int (x4_5 + (1 : Int32))), (3, .int x3_5), (5, .int v2), (0, .ref (q 0)), (1, .int a1), (2, .int a2)]) hx hb dX9_leastFrom_45 hl (k := 5) rfl rfl (by decide) rfl (fun ls hl => ?_)
          refine lv_goto (tgt := 5) hx hb dX9_leastFrom_48 (by decide) ?_
          exact ih _ _ _ h _ _ _ (lv_sub hl [3, 4, 5, 1, 0] rfl) hP hS _ kk
        · rw [if_neg k3] at h
          refine lv_iload_n hx hb dX9_leastFrom_28 rfl (lv_at hl 4 rfl) ?_
          refine lv_if_lt (tgt := 38) hx hb dX9_leastFrom_29 (by decide) (fun k4 => ?_) (fun k4 => ?_)
          · rw [if_pos k4] at h
            refine lv_iload hx hb dX9_leastFrom_38 (lv_at hl 0 rfl) ?_
            refine lv_goto (tgt := 44) hx hb dX9_leastFrom_40 (by decide) ?_
            refine lv_istore_n (lv' := [(3, .int v2), (5, .int v2), (0, .ref (q 0)), (1, .int a1), (2, .int a2), (4, .int x4_5)]) hx hb dX9_leastFrom_44 rfl hl (by decide) rfl (fun ls hl => ?_)
            refine lv_iinc (v := (x4_5 + (1 : Int32))) (lv' := [(4, .int (x4_5 + (1 : Int32))), (3, .int v2), (5, .int v2), (0, .ref (q 0)), (1, .int a1), (2, .int a2)]) hx hb dX9_leastFrom_45 hl (k := 5) rfl rfl (by decide) rfl (fun ls hl => ?_)
            refine lv_goto (tgt := 5) hx hb dX9_leastFrom_48 (by decide) ?_
            exact ih _ _ _ h _ _ _ (lv_sub hl [3, 4, 5, 1, 0] rfl) hP hS _ kk
          · rw [if_neg k4] at h
            refine lv_iload hx hb dX9_leastFrom_32 (lv_at hl 0 rfl) ?_
            refine lv_iload_n hx hb dX9_leastFrom_34 rfl (lv_at hl 4 rfl) ?_
            refine lv_icmp_ge (tgt := 43) hx hb dX9_leastFrom_35 (by decide) (fun k5 => ?_) (fun k5 => ?_)
            · rw [if_pos k5] at h
              refine lv_iload_n hx hb dX9_leastFrom_43 rfl (lv_at hl 4 rfl) ?_
              refine lv_istore_n (lv' := [(3, .int x3_5), (5, .int v2), (0, .ref (q 0)), (1, .int a1), (2, .int a2), (4, .int x4_5)]) hx hb dX9_leastFrom_44 rfl hl (by decide) rfl (fun ls hl => ?_)
              refine lv_iinc (v := (x4_5 + (1 : Int32))) (lv' := [(4, .int (x4_5 + (1 : Int32))), (3, .int x3_5), (5, .int v2), (0, .ref (q 0)), (1, .int a1), (2, .int a2)]) hx hb dX9_leastFrom_45 hl (k := 5) rfl rfl (by decide) rfl (fun ls hl => ?_)
              refine lv_goto (tgt := 5) hx hb dX9_leastFrom_48 (by decide) ?_
              exact ih _ _ _ h _ _ _ (lv_sub hl [3, 4, 5, 1, 0] rfl) hP hS _ kk
            · rw [if_neg k5] at h
              refine lv_iload hx hb dX9_leastFrom_38 (lv_at hl 0 rfl) ?_
              refine lv_goto (tgt := 44) hx hb dX9_leastFrom_40 (by decide) ?_
              refine lv_istore_n (lv' := [(3, .int v2), (5, .int v2), (0, .ref (q 0)), (1, .int a1), (2, .int a2), (4, .int x4_5)]) hx hb dX9_leastFrom_44 rfl hl (by decide) rfl (fun ls hl => ?_)
              refine lv_iinc (v := (x4_5 + (1 : Int32))) (lv' := [(4, .int (x4_5 + (1 : Int32))), (3, .int v2), (5, .int v2), (0, .ref (q 0)), (1, .int a1), (2, .int a2)]) hx hb dX9_leastFrom_45 hl (k := 5) rfl rfl (by decide) rfl (fun ls hl => ?_)
              refine lv_goto (tgt := 5) hx hb dX9_leastFrom_48 (by decide) ?_
              exact ih _ _ _ h _ _ _ (lv_sub hl [3, 4, 5, 1, 0] rfl) hP hS _ kk
  obtain ⟨y7, hy7, h⟩ := dq h
  refine hL5_6 _ _ _ _ hy7 _ _ _ (lv_sub hl [2, 3, 4, 1, 0] rfl) hP hS _ (fun ls H locs hl hP hS => ?_)
  refine lv_iload_n hx hb dX9_leastFrom_51 rfl (lv_at hl 3 rfl) ?_
  obtain rfl := Option.some.inj h
  exact rI hx hb hr hlk hK hP hS dX9_leastFrom_52

set_option maxRecDepth 100000 in
set_option maxHeartbeats 4000000 in
theorem c_X9_findSoon {l : Launch} {D : va_G} {dT : Nat → ClassId} {q : Nat → Nat} (hD : mD q) {mr : tMR} {mg : tMG} {mc : tMC} {mn : tMN} {mh : tMH} {mf : tMF} {mp : tMP}  {v : tMF} (h : f_X9_findSoon mf = some v) : MG l yX9_findSoon cX9_findSoon 5 none 0 [.ref (q 0)] D (tyL dT) (wM dT q mr mg mc mn mh mf mp) (QV D (tyL dT) (mA q) (wM dT q mr mg mc mn mh v mp)) (mA q) := by
  refine MG.mk (by decide +kernel) (Nat.le_of_ble_eq_true rfl) ?_
  intro p e s m below meth c hx hb hr hml hown hts hlk hK hP ls hl
  have hown : s.vm.findClass RX9 = some m.cls := hown
  have hS : va_S (mA q) s.heap s.heap [] := va_S.rf
  have hl : lv_has ls 5 [(0, .ref (q 0))] := hl
  rw [f_X9_findSoon] at h
  refine lv_iconst (v := 0) hx hb dX9_findSoon_0 (by decide) ?_
  refine lv_istore_n (lv' := [(1, .int (0 : Int32)), (0, .ref (q 0))]) hx hb dX9_findSoon_1 rfl hl (by decide) rfl (fun ls hl => ?_)
  have hL2_7 : ∀ (n : Nat) (mf_2 : tMF) (x1_2 : Int32) (y : Int32 × tMF), f_X9_findSoon_2 n mf_2 x1_2 = some y → ∀ (ls : Array Slot) (H : Heap) (locs : List Loc), lv_has ls 5 [(0, .ref (q 0)), (1, .int x1_2)] → va_P D vwCl (wM dT q mr mg mc mn mh mf_2 mp) H → va_S (mA q) s.heap H locs → ∀ Q : State → Prop, (∀ (ls : Array Slot) (H : Heap) (locs : List Loc), lv_has ls 5 [(0, .ref (q 0)), (1, .int y.1)] → va_P D vwCl (wM dT q mr mg mc mn mh y.2 mp) H → va_S (mA q) s.heap H locs → W p l e (rmD 0) s m [.ref (q 0)].toArray below meth c H locs 0 0 Q (F0 m 39 ls [])) → W p l e (rmD 0) s m [.ref (q 0)].toArray below meth c H locs 0 0 Q (F0 m 2 ls []) := by
    intro n
    induction n with
    | zero => intro mf_2 x1_2 y h; exact absurd h (by simp [f_X9_findSoon_2])
    | succ n ih =>
      intro mf_2 x1_2 y h ls H locs hl hP hS Q kk
      rw [f_X9_findSoon_2] at h
      refine lv_iload_n hx hb dX9_findSoon_2 rfl (lv_at hl 1 rfl) ?_
      refine lv_aload_n hx hb dX9_findSoon_3 rfl (lv_at hl 0 rfl) ?_
      refine va_get (D := D) (ci := 8) (v := .int mf_2.2.2.1) (C := RX9) (T := TX9) (N := 31) hx hb hts (fun w h => sub_z _ (inX9 w h)) hown hK hP 0 rfl rfl 24 (by decide) (hts _ (sub_z _ k_760)) (fun _ h => h) rfl dX9_findSoon_4 ?_
      refine lv_icmp_ge (tgt := 39) hx hb dX9_findSoon_7 (by decide) (fun k1 => ?_) (fun k1 => ?_)
      · rw [if_pos k1] at h
        obtain rfl := Option.some.inj h
        exact kk _ _ _ (lv_sub hl [0, 1] rfl) hP hS
      · rw [if_neg k1] at h
        refine lv_aload_n hx hb dX9_findSoon_10 rfl (lv_at hl 0 rfl) ?_
        refine va_get (D := D) (ci := 8) (v := .ref (q 20)) (C := RX9) (T := TX9) (N := 31) hx hb hts (fun w h => sub_z _ (inX9 w h)) hown hK hP 0 rfl rfl 28 (by decide) (hts _ (sub_z _ k_764)) (fun _ h => h) rfl dX9_findSoon_11 ?_
        refine lv_iload_n hx hb dX9_findSoon_14 rfl (lv_at hl 1 rfl) ?_
        refine lv_iload_n hx hb dX9_findSoon_15 rfl (lv_at hl 1 rfl) ?_
        refine lv_if_ne (tgt := 23) hx hb dX9_findSoon_16 (by decide) (fun k2 => ?_) (fun k2 => ?_)
        · rw [if_neg k2] at h
          refine lv_ldc (v := 2147483647) hx hb hown (hts _ (sub_z _ k_995)) dX9_findSoon_23 ?_
          obtain ⟨k3, h⟩ := dg h
          refine va_iast (f := mf_2.2.2.2.2.2.2.1) hx hb hK hP (mD.w hD) hS 20 0 rfl rfl (inb_vp k3) dX9_findSoon_25 (fun H locs hP _ hS => ?_)
          have hP : va_P D vwCl (wM dT q mr mg mc mn mh (mf_2.1, mf_2.2.1, mf_2.2.2.1, mf_2.2.2.2.1, mf_2.2.2.2.2.1, mf_2.2.2.2.2.2.1, (upd mf_2.2.2.2.2.2.2.1 x1_2.toNatClampNeg (2147483647 : Int32)), mf_2.2.2.2.2.2.2.2) mp) H := hP
          refine lv_aload_n hx hb dX9_findSoon_26 rfl (lv_at hl 0 rfl) ?_
          refine va_get (D := D) (ci := 8) (v := .ref (q 21)) (C := RX9) (T := TX9) (N := 31) hx hb hts (fun w h => sub_z _ (inX9 w h)) hown hK hP 0 rfl rfl 29 (by decide) (hts _ (sub_z _ k_765)) (fun _ h => h) rfl dX9_findSoon_27 ?_
          refine lv_iload_n hx hb dX9_findSoon_30 rfl (lv_at hl 1 rfl) ?_
          refine lv_iconst (v := 0) hx hb dX9_findSoon_31 (by decide) ?_
          obtain ⟨k4, h⟩ := dg h
          refine va_zast (f := mf_2.2.2.2.2.2.2.2) hx hb hK hP (mD.w hD) hS 21 3 rfl rfl (inb_vp k4) dX9_findSoon_32 (fun H locs hP _ hS => ?_)
          have hP : va_P D vwCl (wM dT q mr mg mc mn mh (mf_2.1, mf_2.2.1, mf_2.2.2.1, mf_2.2.2.2.1, mf_2.2.2.2.2.1, mf_2.2.2.2.2.2.1, (upd mf_2.2.2.2.2.2.2.1 x1_2.toNatClampNeg (2147483647 : Int32)), (upd mf_2.2.2.2.2.2.2.2 x1_2.toNatClampNeg (vp_nar .boolean (0 : Int32)))) mp) H := hP
          refine lv_iinc (v := (x1_2 + (1 : Int32))) (lv' := [(1, .int (x1_2 + (1 : Int32))), (0, .ref (q 0))]) hx hb dX9_findSoon_33 hl (k := 1) rfl rfl (by decide) rfl (fun ls hl => ?_)
          refine lv_goto (tgt := 2) hx hb dX9_findSoon_36 (by decide) ?_
          exact ih _ _ _ h _ _ _ (lv_sub hl [1, 0] rfl) hP hS _ kk
        · rw [if_pos k2] at h
          refine lv_iconst (v := 0) hx hb dX9_findSoon_19 (by decide) ?_
          refine lv_goto (tgt := 25) hx hb dX9_findSoon_20 (by decide) ?_
          obtain ⟨k5, h⟩ := dg h
          refine va_iast (f := mf_2.2.2.2.2.2.2.1) hx hb hK hP (mD.w hD) hS 20 0 rfl rfl (inb_vp k5) dX9_findSoon_25 (fun H locs hP _ hS => ?_)
          have hP : va_P D vwCl (wM dT q mr mg mc mn mh (mf_2.1, mf_2.2.1, mf_2.2.2.1, mf_2.2.2.2.1, mf_2.2.2.2.2.1, mf_2.2.2.2.2.2.1, (upd mf_2.2.2.2.2.2.2.1 x1_2.toNatClampNeg (0 : Int32)), mf_2.2.2.2.2.2.2.2) mp) H := hP
          refine lv_aload_n hx hb dX9_findSoon_26 rfl (lv_at hl 0 rfl) ?_
          refine va_get (D := D) (ci := 8) (v := .ref (q 21)) (C := RX9) (T := TX9) (N := 31) hx hb hts (fun w h => sub_z _ (inX9 w h)) hown hK hP 0 rfl rfl 29 (by decide) (hts _ (sub_z _ k_765)) (fun _ h => h) rfl dX9_findSoon_27 ?_
          refine lv_iload_n hx hb dX9_findSoon_30 rfl (lv_at hl 1 rfl) ?_
          refine lv_iconst (v := 0) hx hb dX9_findSoon_31 (by decide) ?_
          obtain ⟨k6, h⟩ := dg h
          refine va_zast (f := mf_2.2.2.2.2.2.2.2) hx hb hK hP (mD.w hD) hS 21 3 rfl rfl (inb_vp k6) dX9_findSoon_32 (fun H locs hP _ hS => ?_)
          have hP : va_P D vwCl (wM dT q mr mg mc mn mh (mf_2.1, mf_2.2.1, mf_2.2.2.1, mf_2.2.2.2.1, mf_2.2.2.2.2.1, mf_2.2.2.2.2.2.1, (upd mf_2.2.2.2.2.2.2.1 x1_2.toNatClampNeg (0 : Int32)), (upd mf_2.2.2.2.2.2.2.2 x1_2.toNatClampNeg (vp_nar .boolean (0 : Int32)))) mp) H := hP
          refine lv_iinc (v := (x1_2 + (1 : Int32))) (lv' := [(1, .int (x1_2 + (1 : Int32))), (0, .ref (q 0))]) hx hb dX9_findSoon_33 hl (k := 1) rfl rfl (by decide) rfl (fun ls hl => ?_)
          refine lv_goto (tgt := 2) hx hb dX9_findSoon_36 (by decide) ?_
          exact ih _ _ _ h _ _ _ (lv_sub hl [1, 0] rfl) hP hS _ kk
  obtain ⟨y8, hy8, h⟩ := dq h
  refine hL2_7 _ _ _ _ hy8 _ _ _ (lv_sub hl [1, 0] rfl) hP hS _ (fun ls H locs hl hP hS => ?_)
  refine lv_iconst (v := 0) hx hb dX9_findSoon_39 (by decide) ?_
  refine lv_istore_n (lv' := [(1, .int (0 : Int32)), (0, .ref (q 0))]) hx hb dX9_findSoon_40 rfl hl (by decide) rfl (fun ls hl => ?_)
  have hL41_34 : ∀ (n : Nat) (mf_41 : tMF) (x1_41 : Int32) (y : Int32 × tMF), f_X9_findSoon_41 n mf_41 x1_41 = some y → ∀ (ls : Array Slot) (H : Heap) (locs : List Loc), lv_has ls 5 [(0, .ref (q 0)), (1, .int x1_41)] → va_P D vwCl (wM dT q mr mg mc mn mh mf_41 mp) H → va_S (mA q) s.heap H locs → ∀ Q : State → Prop, (∀ (ls : Array Slot) (H : Heap) (locs : List Loc), lv_has ls 5 [(0, .ref (q 0)), (1, .int y.1)] → va_P D vwCl (wM dT q mr mg mc mn mh y.2 mp) H → va_S (mA q) s.heap H locs → W p l e (rmD 0) s m [.ref (q 0)].toArray below meth c H locs 0 0 Q (F0 m 203 ls [])) → W p l e (rmD 0) s m [.ref (q 0)].toArray below meth c H locs 0 0 Q (F0 m 41 ls []) := by
    intro n
    induction n with
    | zero => intro mf_41 x1_41 y h; exact absurd h (by simp [f_X9_findSoon_41])
    | succ n ih =>
      intro mf_41 x1_41 y h ls H locs hl hP hS Q kk
      rw [f_X9_findSoon_41] at h
      refine lv_iload_n hx hb dX9_findSoon_41 rfl (lv_at hl 1 rfl) ?_
      refine lv_aload_n hx hb dX9_findSoon_42 rfl (lv_at hl 0 rfl) ?_
      refine va_get (D := D) (ci := 8) (v := .int mf_41.2.2.1) (C := RX9) (T := TX9) (N := 31) hx hb hts (fun w h => sub_z _ (inX9 w h)) hown hK hP 0 rfl rfl 24 (by decide) (hts _ (sub_z _ k_760)) (fun _ h => h) rfl dX9_findSoon_43 ?_
      refine lv_icmp_ge (tgt := 203) hx hb dX9_findSoon_46 (by decide) (fun k9 => ?_) (fun k9 => ?_)
      · rw [if_pos k9] at h
        obtain rfl := Option.some.inj h
        exact kk _ _ _ (lv_sub hl [0, 1] rfl) hP hS
      · rw [if_neg k9] at h
        refine lv_iconst (v := -1) hx hb dX9_findSoon_49 (by decide) ?_
        refine lv_istore_n (lv' := [(2, .int (-1 : Int32)), (0, .ref (q 0)), (1, .int x1_41)]) hx hb dX9_findSoon_50 rfl hl (by decide) rfl (fun ls hl => ?_)
        refine lv_iconst (v := 0) hx hb dX9_findSoon_51 (by decide) ?_
        refine lv_istore_n (lv' := [(3, .int (0 : Int32)), (2, .int (-1 : Int32)), (0, .ref (q 0)), (1, .int x1_41)]) hx hb dX9_findSoon_52 rfl hl (by decide) rfl (fun ls hl => ?_)
        have hL53_17 : ∀ (n : Nat) (x2_53 : Int32) (x3_53 : Int32) (y : Int32 × Int32), f_X9_findSoon_53 n mf_41 x1_41 x2_53 x3_53 = some y → ∀ (ls : Array Slot) (H : Heap) (locs : List Loc), lv_has ls 5 [(0, .ref (q 0)), (1, .int x1_41), (2, .int x2_53), (3, .int x3_53)] → va_P D vwCl (wM dT q mr mg mc mn mh mf_41 mp) H → va_S (mA q) s.heap H locs → ∀ Q : State → Prop, (∀ (ls : Array Slot) (H : Heap) (locs : List Loc), lv_has ls 5 [(0, .ref (q 0)), (1, .int x1_41), (2, .int y.1), (3, .int y.2)] → va_P D vwCl (wM dT q mr mg mc mn mh mf_41 mp) H → va_S (mA q) s.heap H locs → W p l e (rmD 0) s m [.ref (q 0)].toArray below meth c H locs 0 0 Q (F0 m 101 ls [])) → W p l e (rmD 0) s m [.ref (q 0)].toArray below meth c H locs 0 0 Q (F0 m 53 ls []) := by
          intro n
          induction n with
          | zero => intro x2_53 x3_53 y h; exact absurd h (by simp [f_X9_findSoon_53])
          | succ n ih =>
            intro x2_53 x3_53 y h ls H locs hl hP hS Q kk
            rw [f_X9_findSoon_53] at h
            refine lv_iload_n hx hb dX9_findSoon_53 rfl (lv_at hl 3 rfl) ?_
            refine lv_aload_n hx hb dX9_findSoon_54 rfl (lv_at hl 0 rfl) ?_
            refine va_get (D := D) (ci := 8) (v := .int mf_41.2.2.1) (C := RX9) (T := TX9) (N := 31) hx hb hts (fun w h => sub_z _ (inX9 w h)) hown hK hP 0 rfl rfl 24 (by decide) (hts _ (sub_z _ k_760)) (fun _ h => h) rfl dX9_findSoon_55 ?_
            refine lv_icmp_ge (tgt := 101) hx hb dX9_findSoon_58 (by decide) (fun k10 => ?_) (fun k10 => ?_)
            · rw [if_pos k10] at h
              obtain rfl := Option.some.inj h
              exact kk _ _ _ (lv_sub hl [0, 1, 2, 3] rfl) hP hS
            · rw [if_neg k10] at h
              refine lv_aload_n hx hb dX9_findSoon_61 rfl (lv_at hl 0 rfl) ?_
              refine va_get (D := D) (ci := 8) (v := .ref (q 21)) (C := RX9) (T := TX9) (N := 31) hx hb hts (fun w h => sub_z _ (inX9 w h)) hown hK hP 0 rfl rfl 29 (by decide) (hts _ (sub_z _ k_765)) (fun _ h => h) rfl dX9_findSoon_62 ?_
              refine lv_iload_n hx hb dX9_findSoon_65 rfl (lv_at hl 3 rfl) ?_
              obtain ⟨k11, h⟩ := dg h
              refine va_zald (f := mf_41.2.2.2.2.2.2.2) hx hb hK hP 21 3 rfl rfl (inb_vp k11) dX9_findSoon_66 ?_
              refine lv_if_ne (tgt := 93) hx hb dX9_findSoon_67 (by decide) (fun k12 => ?_) (fun k12 => ?_)
              · rw [if_neg k12] at h
                refine lv_iload_n hx hb dX9_findSoon_93 rfl (lv_at hl 2 rfl) ?_
                refine lv_istore_n (lv' := [(2, .int x2_53), (0, .ref (q 0)), (1, .int x1_41), (3, .int x3_53)]) hx hb dX9_findSoon_94 rfl hl (by decide) rfl (fun ls hl => ?_)
                refine lv_iinc (v := (x3_53 + (1 : Int32))) (lv' := [(3, .int (x3_53 + (1 : Int32))), (2, .int x2_53), (0, .ref (q 0)), (1, .int x1_41)]) hx hb dX9_findSoon_95 hl (k := 3) rfl rfl (by decide) rfl (fun ls hl => ?_)
                refine lv_goto (tgt := 53) hx hb dX9_findSoon_98 (by decide) ?_
                exact ih _ _ _ h _ _ _ (lv_sub hl [2, 3, 1, 0] rfl) hP hS _ kk
              · rw [if_pos k12] at h
                refine lv_iload_n hx hb dX9_findSoon_70 rfl (lv_at hl 2 rfl) ?_
                refine lv_if_lt (tgt := 89) hx hb dX9_findSoon_71 (by decide) (fun k13 => ?_) (fun k13 => ?_)
                · rw [if_pos k13] at h
                  refine lv_iload_n hx hb dX9_findSoon_89 rfl (lv_at hl 3 rfl) ?_
                  refine lv_goto (tgt := 94) hx hb dX9_findSoon_90 (by decide) ?_
                  refine lv_istore_n (lv' := [(2, .int x3_53), (0, .ref (q 0)), (1, .int x1_41), (3, .int x3_53)]) hx hb dX9_findSoon_94 rfl hl (by decide) rfl (fun ls hl => ?_)
                  refine lv_iinc (v := (x3_53 + (1 : Int32))) (lv' := [(3, .int (x3_53 + (1 : Int32))), (2, .int x3_53), (0, .ref (q 0)), (1, .int x1_41)]) hx hb dX9_findSoon_95 hl (k := 3) rfl rfl (by decide) rfl (fun ls hl => ?_)
                  refine lv_goto (tgt := 53) hx hb dX9_findSoon_98 (by decide) ?_
                  exact ih _ _ _ h _ _ _ (lv_sub hl [2, 3, 1, 0] rfl) hP hS _ kk
                · rw [if_neg k13] at h
                  refine lv_aload_n hx hb dX9_findSoon_74 rfl (lv_at hl 0 rfl) ?_
                  refine va_get (D := D) (ci := 8) (v := .ref (q 20)) (C := RX9) (T := TX9) (N := 31) hx hb hts (fun w h => sub_z _ (inX9 w h)) hown hK hP 0 rfl rfl 28 (by decide) (hts _ (sub_z _ k_764)) (fun _ h => h) rfl dX9_findSoon_75 ?_
                  refine lv_iload_n hx hb dX9_findSoon_78 rfl (lv_at hl 3 rfl) ?_
                  obtain ⟨k14, h⟩ := dg h
                  refine va_iald (f := mf_41.2.2.2.2.2.2.1) hx hb hK hP 20 0 rfl rfl (inb_vp k14) dX9_findSoon_79 ?_
                  refine lv_aload_n hx hb dX9_findSoon_80 rfl (lv_at hl 0 rfl) ?_
                  refine va_get (D := D) (ci := 8) (v := .ref (q 20)) (C := RX9) (T := TX9) (N := 31) hx hb hts (fun w h => sub_z _ (inX9 w h)) hown hK hP 0 rfl rfl 28 (by decide) (hts _ (sub_z _ k_764)) (fun _ h => h) rfl dX9_findSoon_81 ?_
                  refine lv_iload_n hx hb dX9_findSoon_84 rfl (lv_at hl 2 rfl) ?_
                  obtain ⟨k15, h⟩ := dg h
                  refine va_iald (f := mf_41.2.2.2.2.2.2.1) hx hb hK hP 20 0 rfl rfl (inb_vp k15) dX9_findSoon_85 ?_
                  refine lv_icmp_ge (tgt := 93) hx hb dX9_findSoon_86 (by decide) (fun k16 => ?_) (fun k16 => ?_)
                  · rw [if_pos k16] at h
                    refine lv_iload_n hx hb dX9_findSoon_93 rfl (lv_at hl 2 rfl) ?_
                    refine lv_istore_n (lv' := [(2, .int x2_53), (0, .ref (q 0)), (1, .int x1_41), (3, .int x3_53)]) hx hb dX9_findSoon_94 rfl hl (by decide) rfl (fun ls hl => ?_)
                    refine lv_iinc (v := (x3_53 + (1 : Int32))) (lv' := [(3, .int (x3_53 + (1 : Int32))), (2, .int x2_53), (0, .ref (q 0)), (1, .int x1_41)]) hx hb dX9_findSoon_95 hl (k := 3) rfl rfl (by decide) rfl (fun ls hl => ?_)
                    refine lv_goto (tgt := 53) hx hb dX9_findSoon_98 (by decide) ?_
                    exact ih _ _ _ h _ _ _ (lv_sub hl [2, 3, 1, 0] rfl) hP hS _ kk
                  · rw [if_neg k16] at h
                    refine lv_iload_n hx hb dX9_findSoon_89 rfl (lv_at hl 3 rfl) ?_
                    refine lv_goto (tgt := 94) hx hb dX9_findSoon_90 (by decide) ?_
                    refine lv_istore_n (lv' := [(2, .int x3_53), (0, .ref (q 0)), (1, .int x1_41), (3, .int x3_53)]) hx hb dX9_findSoon_94 rfl hl (by decide) rfl (fun ls hl => ?_)
                    refine lv_iinc (v := (x3_53 + (1 : Int32))) (lv' := [(3, .int (x3_53 + (1 : Int32))), (2, .int x3_53), (0, .ref (q 0)), (1, .int x1_41)]) hx hb dX9_findSoon_95 hl (k := 3) rfl rfl (by decide) rfl (fun ls hl => ?_)
                    refine lv_goto (tgt := 53) hx hb dX9_findSoon_98 (by decide) ?_
                    exact ih _ _ _ h _ _ _ (lv_sub hl [2, 3, 1, 0] rfl) hP hS _ kk
        obtain ⟨y18, hy18, h⟩ := dq h
        refine hL53_17 _ _ _ _ hy18 _ _ _ (lv_sub hl [2, 3, 1, 0] rfl) hP hS _ (fun ls H locs hl hP hS => ?_)
        refine lv_aload_n hx hb dX9_findSoon_101 rfl (lv_at hl 0 rfl) ?_
        refine va_get (D := D) (ci := 8) (v := .ref (q 21)) (C := RX9) (T := TX9) (N := 31) hx hb hts (fun w h => sub_z _ (inX9 w h)) hown hK hP 0 rfl rfl 29 (by decide) (hts _ (sub_z _ k_765)) (fun _ h => h) rfl dX9_findSoon_102 ?_
        refine lv_iload_n hx hb dX9_findSoon_105 rfl (lv_at hl 2 rfl) ?_
        refine lv_iconst (v := 1) hx hb dX9_findSoon_106 (by decide) ?_
        obtain ⟨k19, h⟩ := dg h
        refine va_zast (f := mf_41.2.2.2.2.2.2.2) hx hb hK hP (mD.w hD) hS 21 3 rfl rfl (inb_vp k19) dX9_findSoon_107 (fun H locs hP _ hS => ?_)
        have hP : va_P D vwCl (wM dT q mr mg mc mn mh (mf_41.1, mf_41.2.1, mf_41.2.2.1, mf_41.2.2.2.1, mf_41.2.2.2.2.1, mf_41.2.2.2.2.2.1, mf_41.2.2.2.2.2.2.1, (upd mf_41.2.2.2.2.2.2.2 y18.1.toNatClampNeg (vp_nar .boolean (1 : Int32)))) mp) H := hP
        refine lv_iconst (v := 0) hx hb dX9_findSoon_108 (by decide) ?_
        refine lv_istore_n (lv' := [(3, .int (0 : Int32)), (0, .ref (q 0)), (1, .int x1_41), (2, .int y18.1)]) hx hb dX9_findSoon_109 rfl hl (by decide) rfl (fun ls hl => ?_)
        have hL110_32 : ∀ (n : Nat) (mf_110 : tMF) (x3_110 : Int32) (y : Int32 × tMF), f_X9_findSoon_110 n mf_110 x1_41 y18.1 x3_110 = some y → ∀ (ls : Array Slot) (H : Heap) (locs : List Loc), lv_has ls 5 [(0, .ref (q 0)), (1, .int x1_41), (2, .int y18.1), (3, .int x3_110)] → va_P D vwCl (wM dT q mr mg mc mn mh mf_110 mp) H → va_S (mA q) s.heap H locs → ∀ Q : State → Prop, (∀ (ls : Array Slot) (H : Heap) (locs : List Loc), lv_has ls 5 [(0, .ref (q 0)), (1, .int x1_41), (2, .int y18.1), (3, .int y.1)] → va_P D vwCl (wM dT q mr mg mc mn mh y.2 mp) H → va_S (mA q) s.heap H locs → W p l e (rmD 0) s m [.ref (q 0)].toArray below meth c H locs 0 0 Q (F0 m 197 ls [])) → W p l e (rmD 0) s m [.ref (q 0)].toArray below meth c H locs 0 0 Q (F0 m 110 ls []) := by
          intro n
          induction n with
          | zero => intro mf_110 x3_110 y h; exact absurd h (by simp [f_X9_findSoon_110])
          | succ n ih =>
            intro mf_110 x3_110 y h ls H locs hl hP hS Q kk
            rw [f_X9_findSoon_110] at h
            refine lv_iload_n hx hb dX9_findSoon_110 rfl (lv_at hl 3 rfl) ?_
            refine lv_sipush (v := 256) hx hb dX9_findSoon_111 (by decide) ?_
            refine lv_icmp_ge (tgt := 197) hx hb dX9_findSoon_114 (by decide) (fun k20 => ?_) (fun k20 => ?_)
            · rw [if_pos k20] at h
              obtain rfl := Option.some.inj h
              exact kk _ _ _ (lv_sub hl [0, 1, 2, 3] rfl) hP hS
            · rw [if_neg k20] at h
              refine lv_sipush (v := 256) hx hb dX9_findSoon_117 (by decide) ?_
              refine lv_iload_n hx hb dX9_findSoon_120 rfl (lv_at hl 2 rfl) ?_
              refine lv_imul hx hb dX9_findSoon_121 ?_
              refine lv_iload_n hx hb dX9_findSoon_122 rfl (lv_at hl 3 rfl) ?_
              refine lv_iadd hx hb dX9_findSoon_123 ?_
              refine lv_istore (lv' := [(4, .int (((256 : Int32) * y18.1) + x3_110)), (0, .ref (q 0)), (1, .int x1_41), (2, .int y18.1), (3, .int x3_110)]) hx hb dX9_findSoon_124 hl (by decide) rfl (fun ls hl => ?_)
              refine lv_aload_n hx hb dX9_findSoon_126 rfl (lv_at hl 1 rfl) ?_
              refine va_get (D := D) (ci := 8) (v := .ref (q 17)) (C := RX9) (T := TX9) (N := 31) hx hb hts (fun w h => sub_z _ (inX9 w h)) hown hK hP 0 rfl rfl 25 (by decide) (hts _ (sub_z _ k_761)) (fun _ h => h) rfl dX9_findSoon_127 ?_
              refine lv_iload hx hb dX9_findSoon_130 (lv_at hl 0 rfl) ?_
              obtain ⟨k21, h⟩ := dg h
              refine va_iald (f := mf_110.2.2.2.1) hx hb hK hP 17 0 rfl rfl (inb_vp k21) dX9_findSoon_132 ?_
              refine lv_if_lt (tgt := 191) hx hb dX9_findSoon_133 (by decide) (fun k22 => ?_) (fun k22 => ?_)
              · rw [if_pos k22] at h
                refine lv_iinc (v := (x3_110 + (1 : Int32))) (lv' := [(3, .int (x3_110 + (1 : Int32))), (4, .int (((256 : Int32) * y18.1) + x3_110)), (0, .ref (q 0)), (1, .int x1_41), (2, .int y18.1)]) hx hb dX9_findSoon_191 hl (k := 4) rfl rfl (by decide) rfl (fun ls hl => ?_)
                refine lv_goto (tgt := 110) hx hb dX9_findSoon_194 (by decide) ?_
                exact ih _ _ _ h _ _ _ (lv_sub hl [2, 3, 4, 0] rfl) hP hS _ kk
              · rw [if_neg k22] at h
                refine lv_aload_n hx hb dX9_findSoon_136 rfl (lv_at hl 1 rfl) ?_
                refine va_get (D := D) (ci := 8) (v := .ref (q 20)) (C := RX9) (T := TX9) (N := 31) hx hb hts (fun w h => sub_z _ (inX9 w h)) hown hK hP 0 rfl rfl 28 (by decide) (hts _ (sub_z _ k_764)) (fun _ h => h) rfl dX9_findSoon_137 ?_
                refine lv_iload_n hx hb dX9_findSoon_140 rfl (lv_at hl 3 rfl) ?_
                obtain ⟨k23, h⟩ := dg h
                refine va_iald (f := mf_110.2.2.2.2.2.2.1) hx hb hK hP 20 0 rfl rfl (inb_vp k23) dX9_findSoon_141 ?_
                refine lv_aload_n hx hb dX9_findSoon_142 rfl (lv_at hl 1 rfl) ?_
                refine va_get (D := D) (ci := 8) (v := .ref (q 18)) (C := RX9) (T := TX9) (N := 31) hx hb hts (fun w h => sub_z _ (inX9 w h)) hown hK hP 0 rfl rfl 26 (by decide) (hts _ (sub_z _ k_762)) (fun _ h => h) rfl dX9_findSoon_143 ?_
                refine lv_iload hx hb dX9_findSoon_146 (lv_at hl 0 rfl) ?_
                obtain ⟨k24, h⟩ := dg h
                refine va_iald (f := mf_110.2.2.2.2.1) hx hb hK hP 18 0 rfl rfl (inb_vp k24) dX9_findSoon_148 ?_
                refine lv_iadd hx hb dX9_findSoon_149 ?_
                refine lv_aload_n hx hb dX9_findSoon_150 rfl (lv_at hl 1 rfl) ?_
                refine va_get (D := D) (ci := 8) (v := .ref (q 20)) (C := RX9) (T := TX9) (N := 31) hx hb hts (fun w h => sub_z _ (inX9 w h)) hown hK hP 0 rfl rfl 28 (by decide) (hts _ (sub_z _ k_764)) (fun _ h => h) rfl dX9_findSoon_151 ?_
                refine lv_aload_n hx hb dX9_findSoon_154 rfl (lv_at hl 1 rfl) ?_
                refine va_get (D := D) (ci := 8) (v := .ref (q 17)) (C := RX9) (T := TX9) (N := 31) hx hb hts (fun w h => sub_z _ (inX9 w h)) hown hK hP 0 rfl rfl 25 (by decide) (hts _ (sub_z _ k_761)) (fun _ h => h) rfl dX9_findSoon_155 ?_
                refine lv_iload hx hb dX9_findSoon_158 (lv_at hl 0 rfl) ?_
                obtain ⟨k25, h⟩ := dg h
                refine va_iald (f := mf_110.2.2.2.1) hx hb hK hP 17 0 rfl rfl (inb_vp k25) dX9_findSoon_160 ?_
                obtain ⟨k26, h⟩ := dg h
                refine va_iald (f := mf_110.2.2.2.2.2.2.1) hx hb hK hP 20 0 rfl rfl (inb_vp k26) dX9_findSoon_161 ?_
                refine lv_icmp_ge (tgt := 191) hx hb dX9_findSoon_162 (by decide) (fun k27 => ?_) (fun k27 => ?_)
                · rw [if_pos k27] at h
                  refine lv_iinc (v := (x3_110 + (1 : Int32))) (lv' := [(3, .int (x3_110 + (1 : Int32))), (4, .int (((256 : Int32) * y18.1) + x3_110)), (0, .ref (q 0)), (1, .int x1_41), (2, .int y18.1)]) hx hb dX9_findSoon_191 hl (k := 4) rfl rfl (by decide) rfl (fun ls hl => ?_)
                  refine lv_goto (tgt := 110) hx hb dX9_findSoon_194 (by decide) ?_
                  exact ih _ _ _ h _ _ _ (lv_sub hl [2, 3, 4, 0] rfl) hP hS _ kk
                · rw [if_neg k27] at h
                  refine lv_aload_n hx hb dX9_findSoon_165 rfl (lv_at hl 1 rfl) ?_
                  refine va_get (D := D) (ci := 8) (v := .ref (q 20)) (C := RX9) (T := TX9) (N := 31) hx hb hts (fun w h => sub_z _ (inX9 w h)) hown hK hP 0 rfl rfl 28 (by decide) (hts _ (sub_z _ k_764)) (fun _ h => h) rfl dX9_findSoon_166 ?_
                  refine lv_aload_n hx hb dX9_findSoon_169 rfl (lv_at hl 1 rfl) ?_
                  refine va_get (D := D) (ci := 8) (v := .ref (q 17)) (C := RX9) (T := TX9) (N := 31) hx hb hts (fun w h => sub_z _ (inX9 w h)) hown hK hP 0 rfl rfl 25 (by decide) (hts _ (sub_z _ k_761)) (fun _ h => h) rfl dX9_findSoon_170 ?_
                  refine lv_iload hx hb dX9_findSoon_173 (lv_at hl 0 rfl) ?_
                  obtain ⟨k28, h⟩ := dg h
                  refine va_iald (f := mf_110.2.2.2.1) hx hb hK hP 17 0 rfl rfl (inb_vp k28) dX9_findSoon_175 ?_
                  refine lv_aload_n hx hb dX9_findSoon_176 rfl (lv_at hl 1 rfl) ?_
                  refine va_get (D := D) (ci := 8) (v := .ref (q 20)) (C := RX9) (T := TX9) (N := 31) hx hb hts (fun w h => sub_z _ (inX9 w h)) hown hK hP 0 rfl rfl 28 (by decide) (hts _ (sub_z _ k_764)) (fun _ h => h) rfl dX9_findSoon_177 ?_
                  refine lv_iload_n hx hb dX9_findSoon_180 rfl (lv_at hl 3 rfl) ?_
                  obtain ⟨k29, h⟩ := dg h
                  refine va_iald (f := mf_110.2.2.2.2.2.2.1) hx hb hK hP 20 0 rfl rfl (inb_vp k29) dX9_findSoon_181 ?_
                  refine lv_aload_n hx hb dX9_findSoon_182 rfl (lv_at hl 1 rfl) ?_
                  refine va_get (D := D) (ci := 8) (v := .ref (q 18)) (C := RX9) (T := TX9) (N := 31) hx hb hts (fun w h => sub_z _ (inX9 w h)) hown hK hP 0 rfl rfl 26 (by decide) (hts _ (sub_z _ k_762)) (fun _ h => h) rfl dX9_findSoon_183 ?_
                  refine lv_iload hx hb dX9_findSoon_186 (lv_at hl 0 rfl) ?_
                  obtain ⟨k30, h⟩ := dg h
                  refine va_iald (f := mf_110.2.2.2.2.1) hx hb hK hP 18 0 rfl rfl (inb_vp k30) dX9_findSoon_188 ?_
                  refine lv_iadd hx hb dX9_findSoon_189 ?_
                  obtain ⟨k31, h⟩ := dg h
                  refine va_iast (f := mf_110.2.2.2.2.2.2.1) hx hb hK hP (mD.w hD) hS 20 0 rfl rfl (inb_vp k31) dX9_findSoon_190 (fun H locs hP _ hS => ?_)
                  have hP : va_P D vwCl (wM dT q mr mg mc mn mh (mf_110.1, mf_110.2.1, mf_110.2.2.1, mf_110.2.2.2.1, mf_110.2.2.2.2.1, mf_110.2.2.2.2.2.1, (upd mf_110.2.2.2.2.2.2.1 (mf_110.2.2.2.1 (((256 : Int32) * y18.1) + x3_110).toNatClampNeg).toNatClampNeg ((mf_110.2.2.2.2.2.2.1 y18.1.toNatClampNeg) + (mf_110.2.2.2.2.1 (((256 : Int32) * y18.1) + x3_110).toNatClampNeg))), mf_110.2.2.2.2.2.2.2) mp) H := hP
                  refine lv_iinc (v := (x3_110 + (1 : Int32))) (lv' := [(3, .int (x3_110 + (1 : Int32))), (4, .int (((256 : Int32) * y18.1) + x3_110)), (0, .ref (q 0)), (1, .int x1_41), (2, .int y18.1)]) hx hb dX9_findSoon_191 hl (k := 4) rfl rfl (by decide) rfl (fun ls hl => ?_)
                  refine lv_goto (tgt := 110) hx hb dX9_findSoon_194 (by decide) ?_
                  exact ih _ _ _ h _ _ _ (lv_sub hl [2, 3, 4, 0] rfl) hP hS _ kk
        obtain ⟨y33, hy33, h⟩ := dq h
        refine hL110_32 _ _ _ _ hy33 _ _ _ (lv_sub hl [1, 2, 3, 0] rfl) hP hS _ (fun ls H locs hl hP hS => ?_)
        refine lv_iinc (v := (x1_41 + (1 : Int32))) (lv' := [(1, .int (x1_41 + (1 : Int32))), (0, .ref (q 0)), (2, .int y18.1), (3, .int y33.1)]) hx hb dX9_findSoon_197 hl (k := 1) rfl rfl (by decide) rfl (fun ls hl => ?_)
        refine lv_goto (tgt := 41) hx hb dX9_findSoon_200 (by decide) ?_
        exact ih _ _ _ h _ _ _ (lv_sub hl [1, 0] rfl) hP hS _ kk
  obtain ⟨y35, hy35, h⟩ := dq h
  refine hL41_34 _ _ _ _ hy35 _ _ _ (lv_sub hl [1, 0] rfl) hP hS _ (fun ls H locs hl hP hS => ?_)
  obtain rfl := Option.some.inj h
  exact rV hx hb hr hlk hK hP hS dX9_findSoon_203

set_option maxRecDepth 100000 in
set_option maxHeartbeats 4000000 in
theorem c_X9_findAll {l : Launch} {D : va_G} {dT : Nat → ClassId} {q : Nat → Nat} (hD : mD q) {mr : tMR} {mg : tMG} {mc : tMC} {mn : tMN} {mh : tMH} {mf : tMF} {mp : tMP}  {v : Int32 × tMN × tMF} (h : f_X9_findAll mg mn mf = some v) : MG l yX9_findAll cX9_findAll 3 (some .boolean) 5 [.ref (q 0)] D (tyL dT) (wM dT q mr mg mc mn mh mf mp) (QI D (tyL dT) (mA q) (wM dT q mr mg mc v.2.1 mh v.2.2 mp) v.1) (mA q) := by
  refine MG.mk (by decide +kernel) (Nat.le_of_ble_eq_true rfl) ?_
  intro p e s m below meth c hx hb hr hml hown hts hlk hK hP ls hl
  have hown : s.vm.findClass RX9 = some m.cls := hown
  have hS : va_S (mA q) s.heap s.heap [] := va_S.rf
  have hl : lv_has ls 3 [(0, .ref (q 0))] := hl
  rw [f_X9_findAll] at h
  refine lv_aload_n hx hb dX9_findAll_0 rfl (lv_at hl 0 rfl) ?_
  refine va_get (D := D) (ci := 8) (v := .int mf.1) (C := RX9) (T := TX9) (N := 31) hx hb hts (fun w h => sub_z _ (inX9 w h)) hown hK hP 0 rfl rfl 22 (by decide) (hts _ (sub_z _ k_758)) (fun _ h => h) rfl dX9_findAll_1 ?_
  refine lv_if_ne (tgt := 125) hx hb dX9_findAll_4 (by decide) (fun k1 => ?_) (fun k1 => ?_)
  · rw [if_neg k1] at h
    refine lv_aload_n hx hb dX9_findAll_125 rfl (lv_at hl 0 rfl) ?_
    refine va_get (D := D) (ci := 8) (v := .int mf.2.2.1) (C := RX9) (T := TX9) (N := 31) hx hb hts (fun w h => sub_z _ (inX9 w h)) hown hK hP 0 rfl rfl 24 (by decide) (hts _ (sub_z _ k_760)) (fun _ h => h) rfl dX9_findAll_126 ?_
    refine lv_sipush (v := 600) hx hb dX9_findAll_129 (by decide) ?_
    refine lv_icmp_gt (tgt := 139) hx hb dX9_findAll_132 (by decide) (fun k2 => ?_) (fun k2 => ?_)
    · rw [if_pos k2] at h
      refine lv_iconst (v := 0) hx hb dX9_findAll_139 (by decide) ?_
      obtain rfl := Option.some.inj h
      exact rZ (v := (0 : Int32)) hx hb hr hlk rfl hK hP hS dX9_findAll_140
    · rw [if_neg k2] at h
      refine lv_iconst (v := 1) hx hb dX9_findAll_135 (by decide) ?_
      refine lv_goto (tgt := 140) hx hb dX9_findAll_136 (by decide) ?_
      obtain rfl := Option.some.inj h
      exact rZ (v := (1 : Int32)) hx hb hr hlk rfl hK hP hS dX9_findAll_140
  · rw [if_pos k1] at h
    refine lv_aload_n hx hb dX9_findAll_7 rfl (lv_at hl 0 rfl) ?_
    refine lv_iconst (v := 1) hx hb dX9_findAll_8 (by decide) ?_
    refine va_put (D := D) (ci := 8) (v := .int (1 : Int32)) (ty := .boolean) (C := RX9) (T := TX9) (N := 31) hx hb hts (fun w h => sub_z _ (inX9 w h)) tyX9 tyX9_ok nmX9 hown hK hP (mD.w hD) hS 0 rfl rfl 22 (by decide) (hts _ (sub_z _ k_758)) (fun _ h => h) rfl (by decide +kernel) rfl rfl (Nat.le_of_ble_eq_true rfl) dX9_findAll_9 (fun H locs hP _ hS => ?_)
    have hP : va_P D vwCl (wM dT q mr mg mc mn mh ((1 : Int32), mf.2.1, mf.2.2.1, mf.2.2.2.1, mf.2.2.2.2.1, mf.2.2.2.2.2.1, mf.2.2.2.2.2.2.1, mf.2.2.2.2.2.2.2) mp) H := hP
    refine lv_aload_n hx hb dX9_findAll_12 rfl (lv_at hl 0 rfl) ?_
    refine va_get (D := D) (ci := 8) (v := .ref (q 16)) (C := RX9) (T := TX9) (N := 31) hx hb hts (fun w h => sub_z _ (inX9 w h)) hown hK hP 0 rfl rfl 23 (by decide) (hts _ (sub_z _ k_759)) (fun _ h => h) rfl dX9_findAll_13 ?_
    refine lv_iconst (v := 0) hx hb dX9_findAll_16 (by decide) ?_
    refine lv_lconst (v := 0) hx hb dX9_findAll_17 (by decide) ?_
    obtain ⟨k3, h⟩ := dg h
    refine va_last (f := mf.2.1) hx hb hK hP (mD.w hD) hS 16 1 rfl rfl (inb_vp k3) dX9_findAll_18 (fun H locs hP _ hS => ?_)
    have hP : va_P D vwCl (wM dT q mr mg mc mn mh ((1 : Int32), (vp_updL mf.2.1 (0 : Int32).toNatClampNeg (0 : Int64)), mf.2.2.1, mf.2.2.2.1, mf.2.2.2.2.1, mf.2.2.2.2.2.1, mf.2.2.2.2.2.2.1, mf.2.2.2.2.2.2.2) mp) H := hP
    refine lv_aload_n hx hb dX9_findAll_19 rfl (lv_at hl 0 rfl) ?_
    refine lv_iconst (v := 1) hx hb dX9_findAll_20 (by decide) ?_
    refine va_put (D := D) (ci := 8) (v := .int (1 : Int32)) (ty := .int) (C := RX9) (T := TX9) (N := 31) hx hb hts (fun w h => sub_z _ (inX9 w h)) tyX9 tyX9_ok nmX9 hown hK hP (mD.w hD) hS 0 rfl rfl 24 (by decide) (hts _ (sub_z _ k_760)) (fun _ h => h) rfl (by decide +kernel) rfl rfl (Nat.le_of_ble_eq_true rfl) dX9_findAll_21 (fun H locs hP _ hS => ?_)
    have hP : va_P D vwCl (wM dT q mr mg mc mn mh ((1 : Int32), (vp_updL mf.2.1 (0 : Int32).toNatClampNeg (0 : Int64)), (1 : Int32), mf.2.2.2.1, mf.2.2.2.2.1, mf.2.2.2.2.2.1, mf.2.2.2.2.2.2.1, mf.2.2.2.2.2.2.2) mp) H := hP
    refine lv_iconst (v := 0) hx hb dX9_findAll_24 (by decide) ?_
    refine lv_istore_n (lv' := [(1, .int (0 : Int32)), (0, .ref (q 0))]) hx hb dX9_findAll_25 rfl hl (by decide) rfl (fun ls hl => ?_)
    have hL26_7 : ∀ (n : Nat) (mn_26 : tMN) (mf_26 : tMF) (x1_26 : Int32) (y : Int32 × tMN × tMF), f_X9_findAll_26 n mg mn_26 mf_26 x1_26 = some y → ∀ (ls : Array Slot) (H : Heap) (locs : List Loc), lv_has ls 3 [(0, .ref (q 0)), (1, .int x1_26)] → va_P D vwCl (wM dT q mr mg mc mn_26 mh mf_26 mp) H → va_S (mA q) s.heap H locs → ∀ Q : State → Prop, (∀ (ls : Array Slot) (H : Heap) (locs : List Loc), lv_has ls 3 [(0, .ref (q 0)), (1, .int y.1)] → va_P D vwCl (wM dT q mr mg mc y.2.1 mh y.2.2 mp) H → va_S (mA q) s.heap H locs → W p l e (rmD 5) s m [.ref (q 0)].toArray below meth c H locs 0 0 Q (F0 m 55 ls [])) → W p l e (rmD 5) s m [.ref (q 0)].toArray below meth c H locs 0 0 Q (F0 m 26 ls []) := by
      intro n
      induction n with
      | zero => intro mn_26 mf_26 x1_26 y h; exact absurd h (by simp [f_X9_findAll_26])
      | succ n ih =>
        intro mn_26 mf_26 x1_26 y h ls H locs hl hP hS Q kk
        rw [f_X9_findAll_26] at h
        refine lv_iload_n hx hb dX9_findAll_26 rfl (lv_at hl 1 rfl) ?_
        refine lv_aload_n hx hb dX9_findAll_27 rfl (lv_at hl 0 rfl) ?_
        refine va_get (D := D) (ci := 8) (v := .int mf_26.2.2.1) (C := RX9) (T := TX9) (N := 31) hx hb hts (fun w h => sub_z _ (inX9 w h)) hown hK hP 0 rfl rfl 24 (by decide) (hts _ (sub_z _ k_760)) (fun _ h => h) rfl dX9_findAll_28 ?_
        refine lv_icmp_ge (tgt := 55) hx hb dX9_findAll_31 (by decide) (fun k4 => ?_) (fun k4 => ?_)
        · rw [if_pos k4] at h
          obtain rfl := Option.some.inj h
          exact kk _ _ _ (lv_sub hl [0, 1] rfl) hP hS
        · rw [if_neg k4] at h
          refine lv_aload_n hx hb dX9_findAll_34 rfl (lv_at hl 0 rfl) ?_
          refine va_get (D := D) (ci := 8) (v := .int mf_26.2.2.1) (C := RX9) (T := TX9) (N := 31) hx hb hts (fun w h => sub_z _ (inX9 w h)) hown hK hP 0 rfl rfl 24 (by decide) (hts _ (sub_z _ k_760)) (fun _ h => h) rfl dX9_findAll_35 ?_
          refine lv_sipush (v := 600) hx hb dX9_findAll_38 (by decide) ?_
          refine lv_icmp_gt (tgt := 55) hx hb dX9_findAll_41 (by decide) (fun k5 => ?_) (fun k5 => ?_)
          · rw [if_pos k5] at h
            obtain rfl := Option.some.inj h
            exact kk _ _ _ (lv_sub hl [0, 1] rfl) hP hS
          · rw [if_neg k5] at h
            refine lv_aload_n hx hb dX9_findAll_44 rfl (lv_at hl 0 rfl) ?_
            refine lv_iload_n hx hb dX9_findAll_45 rfl (lv_at hl 1 rfl) ?_
            obtain ⟨v6, hv6, h⟩ := dq h
            refine cVv (As := [.int x1_26]) (rest := []) ⟨hx, hb, hml, hown, hts⟩ (c_X9_goFrom (dT := dT) (mr := mr) (mg := mg) (mc := mc) (mn := mn_26) (mh := mh) (mf := mf_26) (mp := mp) hD hv6) (cwV 1 hts (good_V sub_z k_975 k_977 ks_32 k_9 k_978) rfl rfl rfl (by decide +kernel) (by decide)) (va_recv hK hP (ci := 8) (q0 := 0) rfl rfl) hK hP hS rfl hl.1 rfl (Nat.le_of_ble_eq_true rfl) dX9_findAll_46 (by decide) (fun H locs hP hS => ?_)
            refine lv_iinc (v := (x1_26 + (1 : Int32))) (lv' := [(1, .int (x1_26 + (1 : Int32))), (0, .ref (q 0))]) hx hb dX9_findAll_49 hl (k := 1) rfl rfl (by decide) rfl (fun ls hl => ?_)
            refine lv_goto (tgt := 26) hx hb dX9_findAll_52 (by decide) ?_
            exact ih _ _ _ _ h _ _ _ (lv_sub hl [1, 0] rfl) hP hS _ kk
    obtain ⟨y8, hy8, h⟩ := dq h
    refine hL26_7 _ _ _ _ _ hy8 _ _ _ (lv_sub hl [1, 0] rfl) hP hS _ (fun ls H locs hl hP hS => ?_)
    refine lv_aload_n hx hb dX9_findAll_55 rfl (lv_at hl 0 rfl) ?_
    refine va_get (D := D) (ci := 8) (v := .int y8.2.2.2.2.1) (C := RX9) (T := TX9) (N := 31) hx hb hts (fun w h => sub_z _ (inX9 w h)) hown hK hP 0 rfl rfl 24 (by decide) (hts _ (sub_z _ k_760)) (fun _ h => h) rfl dX9_findAll_56 ?_
    refine lv_sipush (v := 600) hx hb dX9_findAll_59 (by decide) ?_
    refine lv_icmp_gt (tgt := 125) hx hb dX9_findAll_62 (by decide) (fun k9 => ?_) (fun k9 => ?_)
    · rw [if_pos k9] at h
      refine lv_aload_n hx hb dX9_findAll_125 rfl (lv_at hl 0 rfl) ?_
      refine va_get (D := D) (ci := 8) (v := .int y8.2.2.2.2.1) (C := RX9) (T := TX9) (N := 31) hx hb hts (fun w h => sub_z _ (inX9 w h)) hown hK hP 0 rfl rfl 24 (by decide) (hts _ (sub_z _ k_760)) (fun _ h => h) rfl dX9_findAll_126 ?_
      refine lv_sipush (v := 600) hx hb dX9_findAll_129 (by decide) ?_
      refine lv_icmp_gt (tgt := 139) hx hb dX9_findAll_132 (by decide) (fun k10 => ?_) (fun k10 => ?_)
      · rw [if_pos k10] at h
        refine lv_iconst (v := 0) hx hb dX9_findAll_139 (by decide) ?_
        obtain rfl := Option.some.inj h
        exact rZ (v := (0 : Int32)) hx hb hr hlk rfl hK hP hS dX9_findAll_140
      · rw [if_neg k10] at h
        refine lv_iconst (v := 1) hx hb dX9_findAll_135 (by decide) ?_
        refine lv_goto (tgt := 140) hx hb dX9_findAll_136 (by decide) ?_
        obtain rfl := Option.some.inj h
        exact rZ (v := (1 : Int32)) hx hb hr hlk rfl hK hP hS dX9_findAll_140
    · rw [if_neg k9] at h
      refine lv_iconst (v := 0) hx hb dX9_findAll_65 (by decide) ?_
      refine lv_istore_n (lv' := [(1, .int (0 : Int32)), (0, .ref (q 0))]) hx hb dX9_findAll_66 rfl hl (by decide) rfl (fun ls hl => ?_)
      have hL67_19 : ∀ (n : Nat) (mf_67 : tMF) (x1_67 : Int32) (y : Int32 × tMF), f_X9_findAll_67 n mf_67 x1_67 = some y → ∀ (ls : Array Slot) (H : Heap) (locs : List Loc), lv_has ls 3 [(0, .ref (q 0)), (1, .int x1_67)] → va_P D vwCl (wM dT q mr mg mc y8.2.1 mh mf_67 mp) H → va_S (mA q) s.heap H locs → ∀ Q : State → Prop, (∀ (ls : Array Slot) (H : Heap) (locs : List Loc), lv_has ls 3 [(0, .ref (q 0)), (1, .int y.1)] → va_P D vwCl (wM dT q mr mg mc y8.2.1 mh y.2 mp) H → va_S (mA q) s.heap H locs → W p l e (rmD 5) s m [.ref (q 0)].toArray below meth c H locs 0 0 Q (F0 m 121 ls [])) → W p l e (rmD 5) s m [.ref (q 0)].toArray below meth c H locs 0 0 Q (F0 m 67 ls []) := by
        intro n
        induction n with
        | zero => intro mf_67 x1_67 y h; exact absurd h (by simp [f_X9_findAll_67])
        | succ n ih =>
          intro mf_67 x1_67 y h ls H locs hl hP hS Q kk
          rw [f_X9_findAll_67] at h
          refine lv_iload_n hx hb dX9_findAll_67 rfl (lv_at hl 1 rfl) ?_
          refine lv_bipush (v := 60) hx hb dX9_findAll_68 (by decide) ?_
          refine lv_icmp_gt (tgt := 121) hx hb dX9_findAll_70 (by decide) (fun k11 => ?_) (fun k11 => ?_)
          · rw [if_pos k11] at h
            obtain rfl := Option.some.inj h
            exact kk _ _ _ (lv_sub hl [0, 1] rfl) hP hS
          · rw [if_neg k11] at h
            refine lv_iconst (v := 0) hx hb dX9_findAll_73 (by decide) ?_
            refine lv_istore_n (lv' := [(2, .int (0 : Int32)), (0, .ref (q 0)), (1, .int x1_67)]) hx hb dX9_findAll_74 rfl hl (by decide) rfl (fun ls hl => ?_)
            have hL75_17 : ∀ (n : Nat) (mf_75 : tMF) (x2_75 : Int32) (y : Int32 × tMF), f_X9_findAll_75 n mf_75 x1_67 x2_75 = some y → ∀ (ls : Array Slot) (H : Heap) (locs : List Loc), lv_has ls 3 [(0, .ref (q 0)), (1, .int x1_67), (2, .int x2_75)] → va_P D vwCl (wM dT q mr mg mc y8.2.1 mh mf_75 mp) H → va_S (mA q) s.heap H locs → ∀ Q : State → Prop, (∀ (ls : Array Slot) (H : Heap) (locs : List Loc), lv_has ls 3 [(0, .ref (q 0)), (1, .int x1_67), (2, .int y.1)] → va_P D vwCl (wM dT q mr mg mc y8.2.1 mh y.2 mp) H → va_S (mA q) s.heap H locs → W p l e (rmD 5) s m [.ref (q 0)].toArray below meth c H locs 0 0 Q (F0 m 115 ls [])) → W p l e (rmD 5) s m [.ref (q 0)].toArray below meth c H locs 0 0 Q (F0 m 75 ls []) := by
              intro n
              induction n with
              | zero => intro mf_75 x2_75 y h; exact absurd h (by simp [f_X9_findAll_75])
              | succ n ih =>
                intro mf_75 x2_75 y h ls H locs hl hP hS Q kk
                rw [f_X9_findAll_75] at h
                refine lv_iload_n hx hb dX9_findAll_75 rfl (lv_at hl 2 rfl) ?_
                refine lv_aload_n hx hb dX9_findAll_76 rfl (lv_at hl 0 rfl) ?_
                refine va_get (D := D) (ci := 8) (v := .int mf_75.2.2.1) (C := RX9) (T := TX9) (N := 31) hx hb hts (fun w h => sub_z _ (inX9 w h)) hown hK hP 0 rfl rfl 24 (by decide) (hts _ (sub_z _ k_760)) (fun _ h => h) rfl dX9_findAll_77 ?_
                refine lv_icmp_ge (tgt := 115) hx hb dX9_findAll_80 (by decide) (fun k12 => ?_) (fun k12 => ?_)
                · rw [if_pos k12] at h
                  obtain rfl := Option.some.inj h
                  exact kk _ _ _ (lv_sub hl [0, 1, 2] rfl) hP hS
                · rw [if_neg k12] at h
                  refine lv_aload_n hx hb dX9_findAll_83 rfl (lv_at hl 0 rfl) ?_
                  refine va_get (D := D) (ci := 8) (v := .ref (q 19)) (C := RX9) (T := TX9) (N := 31) hx hb hts (fun w h => sub_z _ (inX9 w h)) hown hK hP 0 rfl rfl 27 (by decide) (hts _ (sub_z _ k_763)) (fun _ h => h) rfl dX9_findAll_84 ?_
                  refine lv_sipush (v := 600) hx hb dX9_findAll_87 (by decide) ?_
                  refine lv_iload_n hx hb dX9_findAll_90 rfl (lv_at hl 1 rfl) ?_
                  refine lv_imul hx hb dX9_findAll_91 ?_
                  refine lv_iload_n hx hb dX9_findAll_92 rfl (lv_at hl 2 rfl) ?_
                  refine lv_iadd hx hb dX9_findAll_93 ?_
                  refine lv_iload_n hx hb dX9_findAll_94 rfl (lv_at hl 1 rfl) ?_
                  refine lv_if_ne (tgt := 102) hx hb dX9_findAll_95 (by decide) (fun k13 => ?_) (fun k13 => ?_)
                  · rw [if_neg k13] at h
                    refine lv_aload_n hx hb dX9_findAll_102 rfl (lv_at hl 0 rfl) ?_
                    refine lv_iload_n hx hb dX9_findAll_103 rfl (lv_at hl 2 rfl) ?_
                    refine lv_iload_n hx hb dX9_findAll_104 rfl (lv_at hl 1 rfl) ?_
                    obtain ⟨v14, hv14, h⟩ := dq h
                    refine cVi (As := [.int x2_75, .int x1_67]) (rest := [.int (((600 : Int32) * x1_67) + x2_75), .ref (q 19)]) ⟨hx, hb, hml, hown, hts⟩ (c_X9_leastFrom (dT := dT) (mr := mr) (mg := mg) (mc := mc) (mn := y8.2.1) (mh := mh) (mf := mf_75) (mp := mp) hD hv14) (cwV 2 hts (good_V sub_z k_983 k_985 ks_34 k_9 k_986) rfl rfl rfl (by decide +kernel) (by decide)) (va_recv hK hP (ci := 8) (q0 := 0) rfl rfl) hK hP hS rfl hl.1 rfl (Nat.le_of_ble_eq_true rfl) dX9_findAll_105 (by decide) (fun H locs hP hS => ?_)
                    obtain ⟨k15, h⟩ := dg h
                    refine va_iast (f := mf_75.2.2.2.2.2.1) hx hb hK hP (mD.w hD) hS 19 0 rfl rfl (inb_vp k15) dX9_findAll_108 (fun H locs hP _ hS => ?_)
                    have hP : va_P D vwCl (wM dT q mr mg mc y8.2.1 mh (mf_75.1, mf_75.2.1, mf_75.2.2.1, mf_75.2.2.2.1, mf_75.2.2.2.2.1, (upd mf_75.2.2.2.2.2.1 (((600 : Int32) * x1_67) + x2_75).toNatClampNeg v14), mf_75.2.2.2.2.2.2.1, mf_75.2.2.2.2.2.2.2) mp) H := hP
                    refine lv_iinc (v := (x2_75 + (1 : Int32))) (lv' := [(2, .int (x2_75 + (1 : Int32))), (0, .ref (q 0)), (1, .int x1_67)]) hx hb dX9_findAll_109 hl (k := 2) rfl rfl (by decide) rfl (fun ls hl => ?_)
                    refine lv_goto (tgt := 75) hx hb dX9_findAll_112 (by decide) ?_
                    exact ih _ _ _ h _ _ _ (lv_sub hl [1, 2, 0] rfl) hP hS _ kk
                  · rw [if_pos k13] at h
                    refine lv_iconst (v := 0) hx hb dX9_findAll_98 (by decide) ?_
                    refine lv_goto (tgt := 108) hx hb dX9_findAll_99 (by decide) ?_
                    obtain ⟨k16, h⟩ := dg h
                    refine va_iast (f := mf_75.2.2.2.2.2.1) hx hb hK hP (mD.w hD) hS 19 0 rfl rfl (inb_vp k16) dX9_findAll_108 (fun H locs hP _ hS => ?_)
                    have hP : va_P D vwCl (wM dT q mr mg mc y8.2.1 mh (mf_75.1, mf_75.2.1, mf_75.2.2.1, mf_75.2.2.2.1, mf_75.2.2.2.2.1, (upd mf_75.2.2.2.2.2.1 (((600 : Int32) * x1_67) + x2_75).toNatClampNeg (0 : Int32)), mf_75.2.2.2.2.2.2.1, mf_75.2.2.2.2.2.2.2) mp) H := hP
                    refine lv_iinc (v := (x2_75 + (1 : Int32))) (lv' := [(2, .int (x2_75 + (1 : Int32))), (0, .ref (q 0)), (1, .int x1_67)]) hx hb dX9_findAll_109 hl (k := 2) rfl rfl (by decide) rfl (fun ls hl => ?_)
                    refine lv_goto (tgt := 75) hx hb dX9_findAll_112 (by decide) ?_
                    exact ih _ _ _ h _ _ _ (lv_sub hl [1, 2, 0] rfl) hP hS _ kk
            obtain ⟨y18, hy18, h⟩ := dq h
            refine hL75_17 _ _ _ _ hy18 _ _ _ (lv_sub hl [1, 2, 0] rfl) hP hS _ (fun ls H locs hl hP hS => ?_)
            refine lv_iinc (v := (x1_67 + (1 : Int32))) (lv' := [(1, .int (x1_67 + (1 : Int32))), (0, .ref (q 0)), (2, .int y18.1)]) hx hb dX9_findAll_115 hl (k := 1) rfl rfl (by decide) rfl (fun ls hl => ?_)
            refine lv_goto (tgt := 67) hx hb dX9_findAll_118 (by decide) ?_
            exact ih _ _ _ h _ _ _ (lv_sub hl [1, 0] rfl) hP hS _ kk
      obtain ⟨y20, hy20, h⟩ := dq h
      refine hL67_19 _ _ _ _ hy20 _ _ _ (lv_sub hl [1, 0] rfl) hP hS _ (fun ls H locs hl hP hS => ?_)
      refine lv_aload_n hx hb dX9_findAll_121 rfl (lv_at hl 0 rfl) ?_
      obtain ⟨v21, hv21, h⟩ := dq h
      refine cVv (As := []) (rest := []) ⟨hx, hb, hml, hown, hts⟩ (c_X9_findSoon (dT := dT) (mr := mr) (mg := mg) (mc := mc) (mn := y8.2.1) (mh := mh) (mf := y20.2) (mp := mp) hD hv21) (cwV 0 hts (good_V sub_z k_991 k_993 ks_36 k_9 k_994) rfl rfl rfl (by decide +kernel) (by decide)) (va_recv hK hP (ci := 8) (q0 := 0) rfl rfl) hK hP hS rfl hl.1 rfl (Nat.le_of_ble_eq_true rfl) dX9_findAll_122 (by decide) (fun H locs hP hS => ?_)
      refine lv_aload_n hx hb dX9_findAll_125 rfl (lv_at hl 0 rfl) ?_
      refine va_get (D := D) (ci := 8) (v := .int v21.2.2.1) (C := RX9) (T := TX9) (N := 31) hx hb hts (fun w h => sub_z _ (inX9 w h)) hown hK hP 0 rfl rfl 24 (by decide) (hts _ (sub_z _ k_760)) (fun _ h => h) rfl dX9_findAll_126 ?_
      refine lv_sipush (v := 600) hx hb dX9_findAll_129 (by decide) ?_
      refine lv_icmp_gt (tgt := 139) hx hb dX9_findAll_132 (by decide) (fun k22 => ?_) (fun k22 => ?_)
      · rw [if_pos k22] at h
        refine lv_iconst (v := 0) hx hb dX9_findAll_139 (by decide) ?_
        obtain rfl := Option.some.inj h
        exact rZ (v := (0 : Int32)) hx hb hr hlk rfl hK hP hS dX9_findAll_140
      · rw [if_neg k22] at h
        refine lv_iconst (v := 1) hx hb dX9_findAll_135 (by decide) ?_
        refine lv_goto (tgt := 140) hx hb dX9_findAll_136 (by decide) ?_
        obtain rfl := Option.some.inj h
        exact rZ (v := (1 : Int32)) hx hb hr hlk rfl hK hP hS dX9_findAll_140

set_option maxRecDepth 100000 in
set_option maxHeartbeats 4000000 in
theorem c_X9_reach {l : Launch} {D : va_G} {dT : Nat → ClassId} {q : Nat → Nat} (hD : mD q) {mr : tMR} {mg : tMG} {mc : tMC} {mn : tMN} {mh : tMH} {mf : tMF} {mp : tMP}  {v : Int32 × tMN × tMF} (h : f_X9_reach mg mn mf = some v) : MG l yX9_reach cX9_reach 1 (some .int) 6 [.ref (q 0)] D (tyL dT) (wM dT q mr mg mc mn mh mf mp) (QI D (tyL dT) (mA q) (wM dT q mr mg mc v.2.1 mh v.2.2 mp) v.1) (mA q) := by
  refine MG.mk (by decide +kernel) (Nat.le_of_ble_eq_true rfl) ?_
  intro p e s m below meth c hx hb hr hml hown hts hlk hK hP ls hl
  have hown : s.vm.findClass RX9 = some m.cls := hown
  have hS : va_S (mA q) s.heap s.heap [] := va_S.rf
  have hl : lv_has ls 1 [(0, .ref (q 0))] := hl
  rw [f_X9_reach] at h
  refine lv_aload_n hx hb dX9_reach_0 rfl (lv_at hl 0 rfl) ?_
  obtain ⟨v1, hv1, h⟩ := dq h
  refine cVi (As := []) (rest := []) ⟨hx, hb, hml, hown, hts⟩ (c_X9_findAll (dT := dT) (mr := mr) (mg := mg) (mc := mc) (mn := mn) (mh := mh) (mf := mf) (mp := mp) hD hv1) (cwV 0 hts (good_V sub_z k_971 k_973 ks_31 k_9 k_974) rfl rfl rfl (by decide +kernel) (by decide)) (va_recv hK hP (ci := 8) (q0 := 0) rfl rfl) hK hP hS rfl hl.1 rfl (Nat.le_of_ble_eq_true rfl) dX9_reach_1 (by decide) (fun H locs hP hS => ?_)
  refine lv_if_eq (tgt := 14) hx hb dX9_reach_4 (by decide) (fun k2 => ?_) (fun k2 => ?_)
  · rw [if_pos k2] at h
    refine lv_bipush (v := -8) hx hb dX9_reach_14 (by decide) ?_
    obtain rfl := Option.some.inj h
    exact rI hx hb hr hlk hK hP hS dX9_reach_16
  · rw [if_neg k2] at h
    refine lv_aload_n hx hb dX9_reach_7 rfl (lv_at hl 0 rfl) ?_
    refine va_get (D := D) (ci := 8) (v := .int v1.2.2.2.2.1) (C := RX9) (T := TX9) (N := 31) hx hb hts (fun w h => sub_z _ (inX9 w h)) hown hK hP 0 rfl rfl 24 (by decide) (hts _ (sub_z _ k_760)) (fun _ h => h) rfl dX9_reach_8 ?_
    refine lv_goto (tgt := 16) hx hb dX9_reach_11 (by decide) ?_
    obtain rfl := Option.some.inj h
    exact rI hx hb hr hlk hK hP hS dX9_reach_16

set_option maxRecDepth 100000 in
set_option maxHeartbeats 4000000 in
theorem c_X9_config {l : Launch} {D : va_G} {dT : Nat → ClassId} {q : Nat → Nat} (hD : mD q) {mr : tMR} {mg : tMG} {mc : tMC} {mn : tMN} {mh : tMH} {mf : tMF} {mp : tMP} {a1 : Int32} {a2 : Int32} {a3 : Int32} {v : Int32 × tMN × tMF} (h : f_X9_config mg mn mf a1 a2 a3 = some v) : MG l yX9_config cX9_config 9 (some .int) 6 [.ref (q 0), .int a1, .int a2, .int a3] D (tyL dT) (wM dT q mr mg mc mn mh mf mp) (QI D (tyL dT) (mA q) (wM dT q mr mg mc v.2.1 mh v.2.2 mp) v.1) (mA q) := by
  refine MG.mk (by decide +kernel) (Nat.le_of_ble_eq_true rfl) ?_
  intro p e s m below meth c hx hb hr hml hown hts hlk hK hP ls hl
  have hown : s.vm.findClass RX9 = some m.cls := hown
  have hS : va_S (mA q) s.heap s.heap [] := va_S.rf
  have hl : lv_has ls 9 [(0, .ref (q 0)), (1, .int a1), (2, .int a2), (3, .int a3)] := hl
  rw [f_X9_config] at h
  refine lv_aload_n hx hb dX9_config_0 rfl (lv_at hl 0 rfl) ?_
  obtain ⟨v1, hv1, h⟩ := dq h
  refine cVi (As := []) (rest := []) ⟨hx, hb, hml, hown, hts⟩ (c_X9_findAll (dT := dT) (mr := mr) (mg := mg) (mc := mc) (mn := mn) (mh := mh) (mf := mf) (mp := mp) hD hv1) (cwV 0 hts (good_V sub_z k_971 k_973 ks_31 k_9 k_974) rfl rfl rfl (by decide +kernel) (by decide)) (va_recv hK hP (ci := 8) (q0 := 0) rfl rfl) hK hP hS rfl hl.1 rfl (Nat.le_of_ble_eq_true rfl) dX9_config_1 (by decide) (fun H locs hP hS => ?_)
  refine lv_if_eq (tgt := 38) hx hb dX9_config_4 (by decide) (fun k2 => ?_) (fun k2 => ?_)
  · rw [if_pos k2] at h
    refine lv_iconst (v := -1) hx hb dX9_config_38 (by decide) ?_
    obtain rfl := Option.some.inj h
    exact rI hx hb hr hlk hK hP hS dX9_config_39
  · rw [if_neg k2] at h
    refine lv_iload_n hx hb dX9_config_7 rfl (lv_at hl 1 rfl) ?_
    refine lv_iconst (v := 0) hx hb dX9_config_8 (by decide) ?_
    refine lv_aload_n hx hb dX9_config_9 rfl (lv_at hl 0 rfl) ?_
    refine va_get (D := D) (ci := 8) (v := .int v1.2.2.2.2.1) (C := RX9) (T := TX9) (N := 31) hx hb hts (fun w h => sub_z _ (inX9 w h)) hown hK hP 0 rfl rfl 24 (by decide) (hts _ (sub_z _ k_760)) (fun _ h => h) rfl dX9_config_10 ?_
    refine lv_iconst (v := 1) hx hb dX9_config_13 (by decide) ?_
    refine lv_isub hx hb dX9_config_14 ?_
    obtain ⟨v3, hv3, h⟩ := dq h
    refine cSi (As := [.int a1, .int (0 : Int32), .int (v1.2.2.2.2.1 - (1 : Int32))]) (rest := []) ⟨hx, hb, hml, hown, hts⟩ (c_X9_in (dT := dT) (mr := mr) (mg := mg) (mc := mc) (mn := v1.2.1) (mh := mh) (mf := v1.2.2) (mp := mp) hD hv3) (va_cwS 3 hts (good_S sub_z k_837 k_838 k_9 k_839) rfl rfl rfl (by decide +kernel) (by decide)) hK hP hS rfl hl.1 rfl (Nat.le_of_ble_eq_true rfl) dX9_config_15 (by decide) (fun H locs hP hS => ?_)
    refine lv_if_eq (tgt := 38) hx hb dX9_config_18 (by decide) (fun k4 => ?_) (fun k4 => ?_)
    · rw [if_pos k4] at h
      refine lv_iconst (v := -1) hx hb dX9_config_38 (by decide) ?_
      obtain rfl := Option.some.inj h
      exact rI hx hb hr hlk hK hP hS dX9_config_39
    · rw [if_neg k4] at h
      refine lv_aload_n hx hb dX9_config_21 rfl (lv_at hl 0 rfl) ?_
      refine lv_iload_n hx hb dX9_config_22 rfl (lv_at hl 2 rfl) ?_
      obtain ⟨v5, hv5, h⟩ := dq h
      refine cVi (As := [.int a2]) (rest := []) ⟨hx, hb, hml, hown, hts⟩ (c_X9_isGlass (dT := dT) (mr := mr) (mg := mg) (mc := mc) (mn := v1.2.1) (mh := mh) (mf := v1.2.2) (mp := mp) hD hv5) (cwV 1 hts (good_V sub_z k_861 k_863 ks_21 k_9 k_864) rfl rfl rfl (by decide +kernel) (by decide)) (va_recv hK hP (ci := 8) (q0 := 0) rfl rfl) hK hP hS rfl hl.1 rfl (Nat.le_of_ble_eq_true rfl) dX9_config_23 (by decide) (fun H locs hP hS => ?_)
      refine lv_if_eq (tgt := 38) hx hb dX9_config_26 (by decide) (fun k6 => ?_) (fun k6 => ?_)
      · rw [if_pos k6] at h
        refine lv_iconst (v := -1) hx hb dX9_config_38 (by decide) ?_
        obtain rfl := Option.some.inj h
        exact rI hx hb hr hlk hK hP hS dX9_config_39
      · rw [if_neg k6] at h
        refine lv_iload_n hx hb dX9_config_29 rfl (lv_at hl 3 rfl) ?_
        refine lv_iconst (v := 0) hx hb dX9_config_30 (by decide) ?_
        refine lv_iconst (v := 2) hx hb dX9_config_31 (by decide) ?_
        obtain ⟨v7, hv7, h⟩ := dq h
        refine cSi (As := [.int a3, .int (0 : Int32), .int (2 : Int32)]) (rest := []) ⟨hx, hb, hml, hown, hts⟩ (c_X9_in (dT := dT) (mr := mr) (mg := mg) (mc := mc) (mn := v1.2.1) (mh := mh) (mf := v1.2.2) (mp := mp) hD hv7) (va_cwS 3 hts (good_S sub_z k_837 k_838 k_9 k_839) rfl rfl rfl (by decide +kernel) (by decide)) hK hP hS rfl hl.1 rfl (Nat.le_of_ble_eq_true rfl) dX9_config_32 (by decide) (fun H locs hP hS => ?_)
        refine lv_if_ne (tgt := 40) hx hb dX9_config_35 (by decide) (fun k8 => ?_) (fun k8 => ?_)
        · rw [if_neg k8] at h
          refine lv_lconst (v := 0) hx hb dX9_config_40 (by decide) ?_
          refine lv_lstore (lv' := [(4, .long (0 : Int64)), (0, .ref (q 0)), (1, .int a1), (2, .int a2), (3, .int a3)]) hx hb dX9_config_41 hl (by decide) rfl (fun ls hl => ?_)
          refine lv_iconst (v := 0) hx hb dX9_config_43 (by decide) ?_
          refine lv_istore (lv' := [(6, .int (0 : Int32)), (4, .long (0 : Int64)), (0, .ref (q 0)), (1, .int a1), (2, .int a2), (3, .int a3)]) hx hb dX9_config_44 hl (by decide) rfl (fun ls hl => ?_)
          have hL46_18 : ∀ (n : Nat) (x4_46 : Int64) (x6_46 : Int32) (y : Int64 × Int32), f_X9_config_46 n v1.2.2 a1 a2 a3 x4_46 x6_46 = some y → ∀ (ls : Array Slot) (H : Heap) (locs : List Loc), lv_has ls 9 [(0, .ref (q 0)), (1, .int a1), (2, .int a2), (3, .int a3), (4, .long x4_46), (6, .int x6_46)] → va_P D vwCl (wM dT q mr mg mc v1.2.1 mh v1.2.2 mp) H → va_S (mA q) s.heap H locs → ∀ Q : State → Prop, (∀ (ls : Array Slot) (H : Heap) (locs : List Loc), lv_has ls 9 [(0, .ref (q 0)), (1, .int a1), (2, .int a2), (3, .int a3), (4, .long y.1), (6, .int y.2)] → va_P D vwCl (wM dT q mr mg mc v1.2.1 mh v1.2.2 mp) H → va_S (mA q) s.heap H locs → W p l e (rmD 6) s m [.ref (q 0), .int a1, .int a2, .int a3].toArray below meth c H locs 0 0 Q (F0 m 130 ls [])) → W p l e (rmD 6) s m [.ref (q 0), .int a1, .int a2, .int a3].toArray below meth c H locs 0 0 Q (F0 m 46 ls []) := by
            intro n
            induction n with
            | zero => intro x4_46 x6_46 y h; exact absurd h (by simp [f_X9_config_46])
            | succ n ih =>
              intro x4_46 x6_46 y h ls H locs hl hP hS Q kk
              rw [f_X9_config_46] at h
              refine lv_iload hx hb dX9_config_46 (lv_at hl 5 rfl) ?_
              refine lv_aload_n hx hb dX9_config_48 rfl (lv_at hl 0 rfl) ?_
              refine va_get (D := D) (ci := 8) (v := .int v1.2.2.2.2.1) (C := RX9) (T := TX9) (N := 31) hx hb hts (fun w h => sub_z _ (inX9 w h)) hown hK hP 0 rfl rfl 24 (by decide) (hts _ (sub_z _ k_760)) (fun _ h => h) rfl dX9_config_49 ?_
              refine lv_icmp_ge (tgt := 130) hx hb dX9_config_52 (by decide) (fun k9 => ?_) (fun k9 => ?_)
              · rw [if_pos k9] at h
                obtain rfl := Option.some.inj h
                exact kk _ _ _ (lv_sub hl [0, 1, 2, 3, 4, 5] rfl) hP hS
              · rw [if_neg k9] at h
                refine lv_iconst (v := 0) hx hb dX9_config_55 (by decide) ?_
                refine lv_istore (lv' := [(7, .int (0 : Int32)), (0, .ref (q 0)), (1, .int a1), (2, .int a2), (3, .int a3), (4, .long x4_46), (6, .int x6_46)]) hx hb dX9_config_56 hl (by decide) rfl (fun ls hl => ?_)
                refine lv_iconst (v := 0) hx hb dX9_config_58 (by decide) ?_
                refine lv_istore (lv' := [(8, .int (0 : Int32)), (7, .int (0 : Int32)), (0, .ref (q 0)), (1, .int a1), (2, .int a2), (3, .int a3), (4, .long x4_46), (6, .int x6_46)]) hx hb dX9_config_59 hl (by decide) rfl (fun ls hl => ?_)
                have hL61_14 : ∀ (n : Nat) (x7_61 : Int32) (x8_61 : Int32) (y : Int32 × Int32), f_X9_config_61 n v1.2.2 a1 a2 a3 x4_46 x6_46 x7_61 x8_61 = some y → ∀ (ls : Array Slot) (H : Heap) (locs : List Loc), lv_has ls 9 [(0, .ref (q 0)), (1, .int a1), (2, .int a2), (3, .int a3), (4, .long x4_46), (6, .int x6_46), (7, .int x7_61), (8, .int x8_61)] → va_P D vwCl (wM dT q mr mg mc v1.2.1 mh v1.2.2 mp) H → va_S (mA q) s.heap H locs → ∀ Q : State → Prop, (∀ (ls : Array Slot) (H : Heap) (locs : List Loc), lv_has ls 9 [(0, .ref (q 0)), (1, .int a1), (2, .int a2), (3, .int a3), (4, .long x4_46), (6, .int x6_46), (7, .int y.1), (8, .int y.2)] → va_P D vwCl (wM dT q mr mg mc v1.2.1 mh v1.2.2 mp) H → va_S (mA q) s.heap H locs → W p l e (rmD 6) s m [.ref (q 0), .int a1, .int a2, .int a3].toArray below meth c H locs 0 0 Q (F0 m 104 ls [])) → W p l e (rmD 6) s m [.ref (q 0), .int a1, .int a2, .int a3].toArray below meth c H locs 0 0 Q (F0 m 61 ls []) := by
                  intro n
                  induction n with
                  | zero => intro x7_61 x8_61 y h; exact absurd h (by simp [f_X9_config_61])
                  | succ n ih =>
                    intro x7_61 x8_61 y h ls H locs hl hP hS Q kk
                    rw [f_X9_config_61] at h
                    refine lv_iload hx hb dX9_config_61 (lv_at hl 7 rfl) ?_
                    refine lv_aload_n hx hb dX9_config_63 rfl (lv_at hl 0 rfl) ?_
                    refine va_get (D := D) (ci := 8) (v := .int v1.2.2.2.2.1) (C := RX9) (T := TX9) (N := 31) hx hb hts (fun w h => sub_z _ (inX9 w h)) hown hK hP 0 rfl rfl 24 (by decide) (hts _ (sub_z _ k_760)) (fun _ h => h) rfl dX9_config_64 ?_
                    refine lv_icmp_ge (tgt := 104) hx hb dX9_config_67 (by decide) (fun k10 => ?_) (fun k10 => ?_)
                    · rw [if_pos k10] at h
                      obtain rfl := Option.some.inj h
                      exact kk _ _ _ (lv_sub hl [0, 1, 2, 3, 4, 5, 6, 7] rfl) hP hS
                    · rw [if_neg k10] at h
                      refine lv_iload hx hb dX9_config_70 (lv_at hl 6 rfl) ?_
                      refine lv_aload_n hx hb dX9_config_72 rfl (lv_at hl 0 rfl) ?_
                      refine va_get (D := D) (ci := 8) (v := .ref (q 16)) (C := RX9) (T := TX9) (N := 31) hx hb hts (fun w h => sub_z _ (inX9 w h)) hown hK hP 0 rfl rfl 23 (by decide) (hts _ (sub_z _ k_759)) (fun _ h => h) rfl dX9_config_73 ?_
                      refine lv_iload hx hb dX9_config_76 (lv_at hl 7 rfl) ?_
                      obtain ⟨k11, h⟩ := dg h
                      refine va_lald (f := v1.2.2.2.1) hx hb hK hP 16 1 rfl rfl (inb_vp k11) dX9_config_78 ?_
                      refine lv_aload_n hx hb dX9_config_79 rfl (lv_at hl 0 rfl) ?_
                      refine va_get (D := D) (ci := 8) (v := .ref (q 16)) (C := RX9) (T := TX9) (N := 31) hx hb hts (fun w h => sub_z _ (inX9 w h)) hown hK hP 0 rfl rfl 23 (by decide) (hts _ (sub_z _ k_759)) (fun _ h => h) rfl dX9_config_80 ?_
                      refine lv_iload hx hb dX9_config_83 (lv_at hl 5 rfl) ?_
                      obtain ⟨k12, h⟩ := dg h
                      refine va_lald (f := v1.2.2.2.1) hx hb hK hP 16 1 rfl rfl (inb_vp k12) dX9_config_85 ?_
                      refine W.lcmp hx hb dX9_config_86 ?_
                      refine lv_if_ge (tgt := 94) hx hb dX9_config_87 (by decide) (fun k13 => ?_) (fun k13 => ?_)
                      · rw [if_pos k13] at h
                        refine lv_iconst (v := 0) hx hb dX9_config_94 (by decide) ?_
                        refine lv_iadd hx hb dX9_config_95 ?_
                        refine lv_istore (lv' := [(7, .int (x7_61 + (0 : Int32))), (0, .ref (q 0)), (1, .int a1), (2, .int a2), (3, .int a3), (4, .long x4_46), (6, .int x6_46), (8, .int x8_61)]) hx hb dX9_config_96 hl (by decide) rfl (fun ls hl => ?_)
                        refine lv_iinc (v := (x8_61 + (1 : Int32))) (lv' := [(8, .int (x8_61 + (1 : Int32))), (7, .int (x7_61 + (0 : Int32))), (0, .ref (q 0)), (1, .int a1), (2, .int a2), (3, .int a3), (4, .long x4_46), (6, .int x6_46)]) hx hb dX9_config_98 hl (k := 7) rfl rfl (by decide) rfl (fun ls hl => ?_)
                        refine lv_goto (tgt := 61) hx hb dX9_config_101 (by decide) ?_
                        exact ih _ _ _ h _ _ _ (lv_sub hl [2, 3, 4, 5, 6, 7, 1, 0] rfl) hP hS _ kk
                      · rw [if_neg k13] at h
                        refine lv_iconst (v := 1) hx hb dX9_config_90 (by decide) ?_
                        refine lv_goto (tgt := 95) hx hb dX9_config_91 (by decide) ?_
                        refine lv_iadd hx hb dX9_config_95 ?_
                        refine lv_istore (lv' := [(7, .int (x7_61 + (1 : Int32))), (0, .ref (q 0)), (1, .int a1), (2, .int a2), (3, .int a3), (4, .long x4_46), (6, .int x6_46), (8, .int x8_61)]) hx hb dX9_config_96 hl (by decide) rfl (fun ls hl => ?_)
                        refine lv_iinc (v := (x8_61 + (1 : Int32))) (lv' := [(8, .int (x8_61 + (1 : Int32))), (7, .int (x7_61 + (1 : Int32))), (0, .ref (q 0)), (1, .int a1), (2, .int a2), (3, .int a3), (4, .long x4_46), (6, .int x6_46)]) hx hb dX9_config_98 hl (k := 7) rfl rfl (by decide) rfl (fun ls hl => ?_)
                        refine lv_goto (tgt := 61) hx hb dX9_config_101 (by decide) ?_
                        exact ih _ _ _ h _ _ _ (lv_sub hl [2, 3, 4, 5, 6, 7, 1, 0] rfl) hP hS _ kk
                obtain ⟨y15, hy15, h⟩ := dq h
                refine hL61_14 _ _ _ _ hy15 _ _ _ (lv_sub hl [2, 3, 4, 5, 6, 7, 1, 0] rfl) hP hS _ (fun ls H locs hl hP hS => ?_)
                refine lv_iload hx hb dX9_config_104 (lv_at hl 6 rfl) ?_
                refine lv_iload_n hx hb dX9_config_106 rfl (lv_at hl 1 rfl) ?_
                refine lv_icmp_ne (tgt := 120) hx hb dX9_config_107 (by decide) (fun k16 => ?_) (fun k16 => ?_)
                · rw [if_neg k16] at h
                  refine lv_lload hx hb dX9_config_120 (lv_at hl 4 rfl) ?_
                  refine lv_lstore (lv' := [(4, .long x4_46), (0, .ref (q 0)), (1, .int a1), (2, .int a2), (3, .int a3), (6, .int x6_46), (7, .int y15.1), (8, .int y15.2)]) hx hb dX9_config_122 hl (by decide) rfl (fun ls hl => ?_)
                  refine lv_iinc (v := (x6_46 + (1 : Int32))) (lv' := [(6, .int (x6_46 + (1 : Int32))), (4, .long x4_46), (0, .ref (q 0)), (1, .int a1), (2, .int a2), (3, .int a3), (7, .int y15.1), (8, .int y15.2)]) hx hb dX9_config_124 hl (k := 5) rfl rfl (by decide) rfl (fun ls hl => ?_)
                  refine lv_goto (tgt := 46) hx hb dX9_config_127 (by decide) ?_
                  exact ih _ _ _ h _ _ _ (lv_sub hl [2, 3, 4, 5, 1, 0] rfl) hP hS _ kk
                · rw [if_pos k16] at h
                  refine lv_aload_n hx hb dX9_config_110 rfl (lv_at hl 0 rfl) ?_
                  refine va_get (D := D) (ci := 8) (v := .ref (q 16)) (C := RX9) (T := TX9) (N := 31) hx hb hts (fun w h => sub_z _ (inX9 w h)) hown hK hP 0 rfl rfl 23 (by decide) (hts _ (sub_z _ k_759)) (fun _ h => h) rfl dX9_config_111 ?_
                  refine lv_iload hx hb dX9_config_114 (lv_at hl 5 rfl) ?_
                  obtain ⟨k17, h⟩ := dg h
                  refine va_lald (f := v1.2.2.2.1) hx hb hK hP 16 1 rfl rfl (inb_vp k17) dX9_config_116 ?_
                  refine lv_goto (tgt := 122) hx hb dX9_config_117 (by decide) ?_
                  refine lv_lstore (lv' := [(4, .long (v1.2.2.2.1 x6_46.toNatClampNeg)), (0, .ref (q 0)), (1, .int a1), (2, .int a2), (3, .int a3), (6, .int x6_46), (7, .int y15.1), (8, .int y15.2)]) hx hb dX9_config_122 hl (by decide) rfl (fun ls hl => ?_)
                  refine lv_iinc (v := (x6_46 + (1 : Int32))) (lv' := [(6, .int (x6_46 + (1 : Int32))), (4, .long (v1.2.2.2.1 x6_46.toNatClampNeg)), (0, .ref (q 0)), (1, .int a1), (2, .int a2), (3, .int a3), (7, .int y15.1), (8, .int y15.2)]) hx hb dX9_config_124 hl (k := 5) rfl rfl (by decide) rfl (fun ls hl => ?_)
                  refine lv_goto (tgt := 46) hx hb dX9_config_127 (by decide) ?_
                  exact ih _ _ _ h _ _ _ (lv_sub hl [2, 3, 4, 5, 1, 0] rfl) hP hS _ kk
          obtain ⟨y19, hy19, h⟩ := dq h
          refine hL46_18 _ _ _ _ hy19 _ _ _ (lv_sub hl [2, 3, 4, 5, 1, 0] rfl) hP hS _ (fun ls H locs hl hP hS => ?_)
          refine lv_iload_n hx hb dX9_config_130 rfl (lv_at hl 3 rfl) ?_
          refine lv_if_ne (tgt := 143) hx hb dX9_config_131 (by decide) (fun k20 => ?_) (fun k20 => ?_)
          · rw [if_neg k20] at h
            refine lv_iload_n hx hb dX9_config_143 rfl (lv_at hl 3 rfl) ?_
            refine lv_iconst (v := 1) hx hb dX9_config_144 (by decide) ?_
            refine lv_icmp_ne (tgt := 157) hx hb dX9_config_145 (by decide) (fun k21 => ?_) (fun k21 => ?_)
            · rw [if_neg k21] at h
              refine lv_lload hx hb dX9_config_157 (lv_at hl 4 rfl) ?_
              refine lv_iload_n hx hb dX9_config_159 rfl (lv_at hl 2 rfl) ?_
              obtain ⟨v22, hv22, h⟩ := dq h
              refine cSi (As := [.long y19.1, .int a2]) (rest := []) ⟨hx, hb, hml, hown, hts⟩ (c_X9_waits (dT := dT) (mr := mr) (mg := mg) (mc := mc) (mn := v1.2.1) (mh := mh) (mf := v1.2.2) (mp := mp) hD hv22) (va_cwS 2 hts (good_S sub_z k_890 k_891 k_9 k_892) rfl rfl rfl (by decide +kernel) (by decide)) hK hP hS rfl hl.1 rfl (Nat.le_of_ble_eq_true rfl) dX9_config_160 (by decide) (fun H locs hP hS => ?_)
              obtain rfl := Option.some.inj h
              exact rI hx hb hr hlk hK hP hS dX9_config_163
            · rw [if_pos k21] at h
              refine lv_lload hx hb dX9_config_148 (lv_at hl 4 rfl) ?_
              refine lv_iload_n hx hb dX9_config_150 rfl (lv_at hl 2 rfl) ?_
              obtain ⟨v23, hv23, h⟩ := dq h
              refine cSi (As := [.long y19.1, .int a2]) (rest := []) ⟨hx, hb, hml, hown, hts⟩ (c_X9_laid (dT := dT) (mr := mr) (mg := mg) (mc := mc) (mn := v1.2.1) (mh := mh) (mf := v1.2.2) (mp := mp) hD hv23) (va_cwS 2 hts (good_S sub_z k_887 k_888 k_9 k_889) rfl rfl rfl (by decide +kernel) (by decide)) hK hP hS rfl hl.1 rfl (Nat.le_of_ble_eq_true rfl) dX9_config_151 (by decide) (fun H locs hP hS => ?_)
              refine lv_goto (tgt := 163) hx hb dX9_config_154 (by decide) ?_
              obtain rfl := Option.some.inj h
              exact rI hx hb hr hlk hK hP hS dX9_config_163
          · rw [if_pos k20] at h
            refine lv_lload hx hb dX9_config_134 (lv_at hl 4 rfl) ?_
            refine lv_iload_n hx hb dX9_config_136 rfl (lv_at hl 2 rfl) ?_
            obtain ⟨v24, hv24, h⟩ := dq h
            refine cSi (As := [.long y19.1, .int a2]) (rest := []) ⟨hx, hb, hml, hown, hts⟩ (c_X9_above (dT := dT) (mr := mr) (mg := mg) (mc := mc) (mn := v1.2.1) (mh := mh) (mf := v1.2.2) (mp := mp) hD hv24) (va_cwS 2 hts (good_S sub_z k_877 k_878 k_9 k_879) rfl rfl rfl (by decide +kernel) (by decide)) hK hP hS rfl hl.1 rfl (Nat.le_of_ble_eq_true rfl) dX9_config_137 (by decide) (fun H locs hP hS => ?_)
            refine lv_goto (tgt := 163) hx hb dX9_config_140 (by decide) ?_
            obtain rfl := Option.some.inj h
            exact rI hx hb hr hlk hK hP hS dX9_config_163
        · rw [if_pos k8] at h
          refine lv_iconst (v := -1) hx hb dX9_config_38 (by decide) ?_
          obtain rfl := Option.some.inj h
          exact rI hx hb hr hlk hK hP hS dX9_config_39

set_option maxRecDepth 100000 in
set_option maxHeartbeats 4000000 in
theorem c_X9_whyNot {l : Launch} {D : va_G} {dT : Nat → ClassId} {q : Nat → Nat} (hD : mD q) {mr : tMR} {mg : tMG} {mc : tMC} {mn : tMN} {mh : tMH} {mf : tMF} {mp : tMP} {a1 : Int32} {v : Int32 × tMN × tMF} (h : f_X9_whyNot mg mn mf a1 = some v) : MG l yX9_whyNot cX9_whyNot 2 (some .int) 6 [.ref (q 0), .int a1] D (tyL dT) (wM dT q mr mg mc mn mh mf mp) (QI D (tyL dT) (mA q) (wM dT q mr mg mc v.2.1 mh v.2.2 mp) v.1) (mA q) := by
  refine MG.mk (by decide +kernel) (Nat.le_of_ble_eq_true rfl) ?_
  intro p e s m below meth c hx hb hr hml hown hts hlk hK hP ls hl
  have hown : s.vm.findClass RX9 = some m.cls := hown
  have hS : va_S (mA q) s.heap s.heap [] := va_S.rf
  have hl : lv_has ls 2 [(0, .ref (q 0)), (1, .int a1)] := hl
  rw [f_X9_whyNot] at h
  refine lv_iload_n hx hb dX9_whyNot_0 rfl (lv_at hl 1 rfl) ?_
  refine lv_iconst (v := 1) hx hb dX9_whyNot_1 (by decide) ?_
  refine lv_bipush (v := 60) hx hb dX9_whyNot_2 (by decide) ?_
  obtain ⟨v1, hv1, h⟩ := dq h
  refine cSi (As := [.int a1, .int (1 : Int32), .int (60 : Int32)]) (rest := []) ⟨hx, hb, hml, hown, hts⟩ (c_X9_in (dT := dT) (mr := mr) (mg := mg) (mc := mc) (mn := mn) (mh := mh) (mf := mf) (mp := mp) hD hv1) (va_cwS 3 hts (good_S sub_z k_837 k_838 k_9 k_839) rfl rfl rfl (by decide +kernel) (by decide)) hK hP hS rfl hl.1 rfl (Nat.le_of_ble_eq_true rfl) dX9_whyNot_4 (by decide) (fun H locs hP hS => ?_)
  refine lv_if_ne (tgt := 14) hx hb dX9_whyNot_7 (by decide) (fun k2 => ?_) (fun k2 => ?_)
  · rw [if_neg k2] at h
    refine lv_aload_n hx hb dX9_whyNot_14 rfl (lv_at hl 0 rfl) ?_
    obtain ⟨v3, hv3, h⟩ := dq h
    refine cVi (As := []) (rest := []) ⟨hx, hb, hml, hown, hts⟩ (c_X9_findAll (dT := dT) (mr := mr) (mg := mg) (mc := mc) (mn := mn) (mh := mh) (mf := mf) (mp := mp) hD hv3) (cwV 0 hts (good_V sub_z k_971 k_973 ks_31 k_9 k_974) rfl rfl rfl (by decide +kernel) (by decide)) (va_recv hK hP (ci := 8) (q0 := 0) rfl rfl) hK hP hS rfl hl.1 rfl (Nat.le_of_ble_eq_true rfl) dX9_whyNot_15 (by decide) (fun H locs hP hS => ?_)
    refine lv_if_eq (tgt := 25) hx hb dX9_whyNot_18 (by decide) (fun k4 => ?_) (fun k4 => ?_)
    · rw [if_pos k4] at h
      refine lv_bipush (v := -8) hx hb dX9_whyNot_25 (by decide) ?_
      obtain rfl := Option.some.inj h
      exact rI hx hb hr hlk hK hP hS dX9_whyNot_27
    · rw [if_neg k4] at h
      refine lv_iconst (v := 0) hx hb dX9_whyNot_21 (by decide) ?_
      refine lv_goto (tgt := 27) hx hb dX9_whyNot_22 (by decide) ?_
      obtain rfl := Option.some.inj h
      exact rI hx hb hr hlk hK hP hS dX9_whyNot_27
  · rw [if_pos k2] at h
    refine lv_iconst (v := -1) hx hb dX9_whyNot_10 (by decide) ?_
    refine lv_goto (tgt := 27) hx hb dX9_whyNot_11 (by decide) ?_
    obtain rfl := Option.some.inj h
    exact rI hx hb hr hlk hK hP hS dX9_whyNot_27

set_option maxRecDepth 100000 in
set_option maxHeartbeats 4000000 in
theorem c_X9_pure {l : Launch} {D : va_G} {dT : Nat → ClassId} {q : Nat → Nat} (hD : mD q) {mr : tMR} {mg : tMG} {mc : tMC} {mn : tMN} {mh : tMH} {mf : tMF} {mp : tMP} {a1 : Int32} {v : Int32 × tMN × tMF} (h : f_X9_pure mg mn mf a1 = some v) : MG l yX9_pure cX9_pure 3 (some .int) 7 [.ref (q 0), .int a1] D (tyL dT) (wM dT q mr mg mc mn mh mf mp) (QI D (tyL dT) (mA q) (wM dT q mr mg mc v.2.1 mh v.2.2 mp) v.1) (mA q) := by
  refine MG.mk (by decide +kernel) (Nat.le_of_ble_eq_true rfl) ?_
  intro p e s m below meth c hx hb hr hml hown hts hlk hK hP ls hl
  have hown : s.vm.findClass RX9 = some m.cls := hown
  have hS : va_S (mA q) s.heap s.heap [] := va_S.rf
  have hl : lv_has ls 3 [(0, .ref (q 0)), (1, .int a1)] := hl
  rw [f_X9_pure] at h
  refine lv_aload_n hx hb dX9_pure_0 rfl (lv_at hl 0 rfl) ?_
  refine lv_iload_n hx hb dX9_pure_1 rfl (lv_at hl 1 rfl) ?_
  obtain ⟨v1, hv1, h⟩ := dq h
  refine cVi (As := [.int a1]) (rest := []) ⟨hx, hb, hml, hown, hts⟩ (c_X9_whyNot (dT := dT) (mr := mr) (mg := mg) (mc := mc) (mn := mn) (mh := mh) (mf := mf) (mp := mp) hD hv1) (cwV 1 hts (good_V sub_z k_1004 k_1006 ks_37 k_9 k_1007) rfl rfl rfl (by decide +kernel) (by decide)) (va_recv hK hP (ci := 8) (q0 := 0) rfl rfl) hK hP hS rfl hl.1 rfl (Nat.le_of_ble_eq_true rfl) dX9_pure_2 (by decide) (fun H locs hP hS => ?_)
  refine lv_istore_n (lv' := [(2, .int v1.1), (0, .ref (q 0)), (1, .int a1)]) hx hb dX9_pure_5 rfl hl (by decide) rfl (fun ls hl => ?_)
  refine lv_iload_n hx hb dX9_pure_6 rfl (lv_at hl 0 rfl) ?_
  refine lv_if_eq (tgt := 14) hx hb dX9_pure_7 (by decide) (fun k2 => ?_) (fun k2 => ?_)
  · rw [if_pos k2] at h
    refine lv_aload_n hx hb dX9_pure_14 rfl (lv_at hl 1 rfl) ?_
    refine va_get (D := D) (ci := 8) (v := .ref (q 19)) (C := RX9) (T := TX9) (N := 31) hx hb hts (fun w h => sub_z _ (inX9 w h)) hown hK hP 0 rfl rfl 27 (by decide) (hts _ (sub_z _ k_763)) (fun _ h => h) rfl dX9_pure_15 ?_
    refine lv_sipush (v := 600) hx hb dX9_pure_18 (by decide) ?_
    refine lv_iload_n hx hb dX9_pure_21 rfl (lv_at hl 2 rfl) ?_
    refine lv_imul hx hb dX9_pure_22 ?_
    obtain ⟨k3, h⟩ := dg h
    refine va_iald (f := v1.2.2.2.2.2.2.2.1) hx hb hK hP 19 0 rfl rfl (inb_vp k3) dX9_pure_23 ?_
    refine lv_if_lt (tgt := 31) hx hb dX9_pure_24 (by decide) (fun k4 => ?_) (fun k4 => ?_)
    · rw [if_pos k4] at h
      refine lv_iconst (v := 0) hx hb dX9_pure_31 (by decide) ?_
      obtain rfl := Option.some.inj h
      exact rI hx hb hr hlk hK hP hS dX9_pure_32
    · rw [if_neg k4] at h
      refine lv_iconst (v := 1) hx hb dX9_pure_27 (by decide) ?_
      refine lv_goto (tgt := 32) hx hb dX9_pure_28 (by decide) ?_
      obtain rfl := Option.some.inj h
      exact rI hx hb hr hlk hK hP hS dX9_pure_32
  · rw [if_neg k2] at h
    refine lv_iload_n hx hb dX9_pure_10 rfl (lv_at hl 0 rfl) ?_
    refine lv_goto (tgt := 32) hx hb dX9_pure_11 (by decide) ?_
    obtain rfl := Option.some.inj h
    exact rI hx hb hr hlk hK hP hS dX9_pure_32

set_option maxRecDepth 100000 in
set_option maxHeartbeats 4000000 in
theorem c_X9_spans {l : Launch} {D : va_G} {dT : Nat → ClassId} {q : Nat → Nat} (hD : mD q) {mr : tMR} {mg : tMG} {mc : tMC} {mn : tMN} {mh : tMH} {mf : tMF} {mp : tMP} {a1 : Int32} {v : Int32 × tMN × tMF} (h : f_X9_spans mg mn mf a1 = some v) : MG l yX9_spans cX9_spans 5 (some .int) 7 [.ref (q 0), .int a1] D (tyL dT) (wM dT q mr mg mc mn mh mf mp) (QI D (tyL dT) (mA q) (wM dT q mr mg mc v.2.1 mh v.2.2 mp) v.1) (mA q) := by
  refine MG.mk (by decide +kernel) (Nat.le_of_ble_eq_true rfl) ?_
  intro p e s m below meth c hx hb hr hml hown hts hlk hK hP ls hl
  have hown : s.vm.findClass RX9 = some m.cls := hown
  have hS : va_S (mA q) s.heap s.heap [] := va_S.rf
  have hl : lv_has ls 5 [(0, .ref (q 0)), (1, .int a1)] := hl
  rw [f_X9_spans] at h
  refine lv_aload_n hx hb dX9_spans_0 rfl (lv_at hl 0 rfl) ?_
  refine lv_iload_n hx hb dX9_spans_1 rfl (lv_at hl 1 rfl) ?_
  obtain ⟨v1, hv1, h⟩ := dq h
  refine cVi (As := [.int a1]) (rest := []) ⟨hx, hb, hml, hown, hts⟩ (c_X9_whyNot (dT := dT) (mr := mr) (mg := mg) (mc := mc) (mn := mn) (mh := mh) (mf := mf) (mp := mp) hD hv1) (cwV 1 hts (good_V sub_z k_1004 k_1006 ks_37 k_9 k_1007) rfl rfl rfl (by decide +kernel) (by decide)) (va_recv hK hP (ci := 8) (q0 := 0) rfl rfl) hK hP hS rfl hl.1 rfl (Nat.le_of_ble_eq_true rfl) dX9_spans_2 (by decide) (fun H locs hP hS => ?_)
  refine lv_istore_n (lv' := [(2, .int v1.1), (0, .ref (q 0)), (1, .int a1)]) hx hb dX9_spans_5 rfl hl (by decide) rfl (fun ls hl => ?_)
  refine lv_iload_n hx hb dX9_spans_6 rfl (lv_at hl 0 rfl) ?_
  refine lv_if_eq (tgt := 12) hx hb dX9_spans_7 (by decide) (fun k2 => ?_) (fun k2 => ?_)
  · rw [if_pos k2] at h
    refine lv_iconst (v := 0) hx hb dX9_spans_12 (by decide) ?_
    refine lv_istore_n (lv' := [(3, .int (0 : Int32)), (2, .int v1.1), (0, .ref (q 0)), (1, .int a1)]) hx hb dX9_spans_13 rfl hl (by decide) rfl (fun ls hl => ?_)
    refine lv_iconst (v := 1) hx hb dX9_spans_14 (by decide) ?_
    refine lv_istore (lv' := [(4, .int (1 : Int32)), (3, .int (0 : Int32)), (2, .int v1.1), (0, .ref (q 0)), (1, .int a1)]) hx hb dX9_spans_15 hl (by decide) rfl (fun ls hl => ?_)
    have hL17_6 : ∀ (n : Nat) (x3_17 : Int32) (x4_17 : Int32) (y : Int32 × Int32), f_X9_spans_17 n v1.2.2 a1 v1.1 x3_17 x4_17 = some y → ∀ (ls : Array Slot) (H : Heap) (locs : List Loc), lv_has ls 5 [(0, .ref (q 0)), (1, .int a1), (2, .int v1.1), (3, .int x3_17), (4, .int x4_17)] → va_P D vwCl (wM dT q mr mg mc v1.2.1 mh v1.2.2 mp) H → va_S (mA q) s.heap H locs → ∀ Q : State → Prop, (∀ (ls : Array Slot) (H : Heap) (locs : List Loc), lv_has ls 5 [(0, .ref (q 0)), (1, .int a1), (2, .int v1.1), (3, .int y.1), (4, .int y.2)] → va_P D vwCl (wM dT q mr mg mc v1.2.1 mh v1.2.2 mp) H → va_S (mA q) s.heap H locs → W p l e (rmD 7) s m [.ref (q 0), .int a1].toArray below meth c H locs 0 0 Q (F0 m 51 ls [])) → W p l e (rmD 7) s m [.ref (q 0), .int a1].toArray below meth c H locs 0 0 Q (F0 m 17 ls []) := by
      intro n
      induction n with
      | zero => intro x3_17 x4_17 y h; exact absurd h (by simp [f_X9_spans_17])
      | succ n ih =>
        intro x3_17 x4_17 y h ls H locs hl hP hS Q kk
        rw [f_X9_spans_17] at h
        refine lv_iload hx hb dX9_spans_17 (lv_at hl 4 rfl) ?_
        refine lv_iload_n hx hb dX9_spans_19 rfl (lv_at hl 1 rfl) ?_
        refine lv_icmp_gt (tgt := 51) hx hb dX9_spans_20 (by decide) (fun k3 => ?_) (fun k3 => ?_)
        · rw [if_pos k3] at h
          obtain rfl := Option.some.inj h
          exact kk _ _ _ (lv_sub hl [0, 1, 2, 3, 4] rfl) hP hS
        · rw [if_neg k3] at h
          refine lv_iload_n hx hb dX9_spans_23 rfl (lv_at hl 3 rfl) ?_
          refine lv_aload_n hx hb dX9_spans_24 rfl (lv_at hl 0 rfl) ?_
          refine va_get (D := D) (ci := 8) (v := .ref (q 19)) (C := RX9) (T := TX9) (N := 31) hx hb hts (fun w h => sub_z _ (inX9 w h)) hown hK hP 0 rfl rfl 27 (by decide) (hts _ (sub_z _ k_763)) (fun _ h => h) rfl dX9_spans_25 ?_
          refine lv_sipush (v := 600) hx hb dX9_spans_28 (by decide) ?_
          refine lv_iload hx hb dX9_spans_31 (lv_at hl 4 rfl) ?_
          refine lv_imul hx hb dX9_spans_33 ?_
          obtain ⟨k4, h⟩ := dg h
          refine va_iald (f := v1.2.2.2.2.2.2.2.1) hx hb hK hP 19 0 rfl rfl (inb_vp k4) dX9_spans_34 ?_
          refine lv_if_lt (tgt := 42) hx hb dX9_spans_35 (by decide) (fun k5 => ?_) (fun k5 => ?_)
          · rw [if_pos k5] at h
            refine lv_iconst (v := 0) hx hb dX9_spans_42 (by decide) ?_
            refine lv_iadd hx hb dX9_spans_43 ?_
            refine lv_istore_n (lv' := [(3, .int (x3_17 + (0 : Int32))), (0, .ref (q 0)), (1, .int a1), (2, .int v1.1), (4, .int x4_17)]) hx hb dX9_spans_44 rfl hl (by decide) rfl (fun ls hl => ?_)
            refine lv_iinc (v := (x4_17 + (1 : Int32))) (lv' := [(4, .int (x4_17 + (1 : Int32))), (3, .int (x3_17 + (0 : Int32))), (0, .ref (q 0)), (1, .int a1), (2, .int v1.1)]) hx hb dX9_spans_45 hl (k := 4) rfl rfl (by decide) rfl (fun ls hl => ?_)
            refine lv_goto (tgt := 17) hx hb dX9_spans_48 (by decide) ?_
            exact ih _ _ _ h _ _ _ (lv_sub hl [2, 3, 4, 1, 0] rfl) hP hS _ kk
          · rw [if_neg k5] at h
            refine lv_iconst (v := 1) hx hb dX9_spans_38 (by decide) ?_
            refine lv_goto (tgt := 43) hx hb dX9_spans_39 (by decide) ?_
            refine lv_iadd hx hb dX9_spans_43 ?_
            refine lv_istore_n (lv' := [(3, .int (x3_17 + (1 : Int32))), (0, .ref (q 0)), (1, .int a1), (2, .int v1.1), (4, .int x4_17)]) hx hb dX9_spans_44 rfl hl (by decide) rfl (fun ls hl => ?_)
            refine lv_iinc (v := (x4_17 + (1 : Int32))) (lv' := [(4, .int (x4_17 + (1 : Int32))), (3, .int (x3_17 + (1 : Int32))), (0, .ref (q 0)), (1, .int a1), (2, .int v1.1)]) hx hb dX9_spans_45 hl (k := 4) rfl rfl (by decide) rfl (fun ls hl => ?_)
            refine lv_goto (tgt := 17) hx hb dX9_spans_48 (by decide) ?_
            exact ih _ _ _ h _ _ _ (lv_sub hl [2, 3, 4, 1, 0] rfl) hP hS _ kk
    obtain ⟨y7, hy7, h⟩ := dq h
    refine hL17_6 _ _ _ _ hy7 _ _ _ (lv_sub hl [3, 4, 2, 1, 0] rfl) hP hS _ (fun ls H locs hl hP hS => ?_)
    refine lv_iload_n hx hb dX9_spans_51 rfl (lv_at hl 3 rfl) ?_
    obtain rfl := Option.some.inj h
    exact rI hx hb hr hlk hK hP hS dX9_spans_52
  · rw [if_neg k2] at h
    refine lv_iload_n hx hb dX9_spans_10 rfl (lv_at hl 0 rfl) ?_
    obtain rfl := Option.some.inj h
    exact rI hx hb hr hlk hK hP hS dX9_spans_11

set_option maxRecDepth 100000 in
set_option maxHeartbeats 4000000 in
theorem c_X9_fewest {l : Launch} {D : va_G} {dT : Nat → ClassId} {q : Nat → Nat} (hD : mD q) {mr : tMR} {mg : tMG} {mc : tMC} {mn : tMN} {mh : tMH} {mf : tMF} {mp : tMP} {a1 : Int32} {v : Int32 × tMN × tMF} (h : f_X9_fewest mg mn mf a1 = some v) : MG l yX9_fewest cX9_fewest 3 (some .int) 7 [.ref (q 0), .int a1] D (tyL dT) (wM dT q mr mg mc mn mh mf mp) (QI D (tyL dT) (mA q) (wM dT q mr mg mc v.2.1 mh v.2.2 mp) v.1) (mA q) := by
  refine MG.mk (by decide +kernel) (Nat.le_of_ble_eq_true rfl) ?_
  intro p e s m below meth c hx hb hr hml hown hts hlk hK hP ls hl
  have hown : s.vm.findClass RX9 = some m.cls := hown
  have hS : va_S (mA q) s.heap s.heap [] := va_S.rf
  have hl : lv_has ls 3 [(0, .ref (q 0)), (1, .int a1)] := hl
  rw [f_X9_fewest] at h
  refine lv_aload_n hx hb dX9_fewest_0 rfl (lv_at hl 0 rfl) ?_
  refine lv_iload_n hx hb dX9_fewest_1 rfl (lv_at hl 1 rfl) ?_
  obtain ⟨v1, hv1, h⟩ := dq h
  refine cVi (As := [.int a1]) (rest := []) ⟨hx, hb, hml, hown, hts⟩ (c_X9_whyNot (dT := dT) (mr := mr) (mg := mg) (mc := mc) (mn := mn) (mh := mh) (mf := mf) (mp := mp) hD hv1) (cwV 1 hts (good_V sub_z k_1004 k_1006 ks_37 k_9 k_1007) rfl rfl rfl (by decide +kernel) (by decide)) (va_recv hK hP (ci := 8) (q0 := 0) rfl rfl) hK hP hS rfl hl.1 rfl (Nat.le_of_ble_eq_true rfl) dX9_fewest_2 (by decide) (fun H locs hP hS => ?_)
  refine lv_istore_n (lv' := [(2, .int v1.1), (0, .ref (q 0)), (1, .int a1)]) hx hb dX9_fewest_5 rfl hl (by decide) rfl (fun ls hl => ?_)
  refine lv_iload_n hx hb dX9_fewest_6 rfl (lv_at hl 0 rfl) ?_
  refine lv_if_eq (tgt := 14) hx hb dX9_fewest_7 (by decide) (fun k2 => ?_) (fun k2 => ?_)
  · rw [if_pos k2] at h
    refine lv_aload_n hx hb dX9_fewest_14 rfl (lv_at hl 1 rfl) ?_
    refine va_get (D := D) (ci := 8) (v := .ref (q 19)) (C := RX9) (T := TX9) (N := 31) hx hb hts (fun w h => sub_z _ (inX9 w h)) hown hK hP 0 rfl rfl 27 (by decide) (hts _ (sub_z _ k_763)) (fun _ h => h) rfl dX9_fewest_15 ?_
    refine lv_sipush (v := 600) hx hb dX9_fewest_18 (by decide) ?_
    refine lv_iload_n hx hb dX9_fewest_21 rfl (lv_at hl 2 rfl) ?_
    refine lv_imul hx hb dX9_fewest_22 ?_
    obtain ⟨k3, h⟩ := dg h
    refine va_iald (f := v1.2.2.2.2.2.2.2.1) hx hb hK hP 19 0 rfl rfl (inb_vp k3) dX9_fewest_23 ?_
    refine lv_if_lt (tgt := 40) hx hb dX9_fewest_24 (by decide) (fun k4 => ?_) (fun k4 => ?_)
    · rw [if_pos k4] at h
      refine lv_bipush (v := -7) hx hb dX9_fewest_40 (by decide) ?_
      obtain rfl := Option.some.inj h
      exact rI hx hb hr hlk hK hP hS dX9_fewest_42
    · rw [if_neg k4] at h
      refine lv_aload_n hx hb dX9_fewest_27 rfl (lv_at hl 1 rfl) ?_
      refine va_get (D := D) (ci := 8) (v := .ref (q 19)) (C := RX9) (T := TX9) (N := 31) hx hb hts (fun w h => sub_z _ (inX9 w h)) hown hK hP 0 rfl rfl 27 (by decide) (hts _ (sub_z _ k_763)) (fun _ h => h) rfl dX9_fewest_28 ?_
      refine lv_sipush (v := 600) hx hb dX9_fewest_31 (by decide) ?_
      refine lv_iload_n hx hb dX9_fewest_34 rfl (lv_at hl 2 rfl) ?_
      refine lv_imul hx hb dX9_fewest_35 ?_
      obtain ⟨k5, h⟩ := dg h
      refine va_iald (f := v1.2.2.2.2.2.2.2.1) hx hb hK hP 19 0 rfl rfl (inb_vp k5) dX9_fewest_36 ?_
      refine lv_goto (tgt := 42) hx hb dX9_fewest_37 (by decide) ?_
      obtain rfl := Option.some.inj h
      exact rI hx hb hr hlk hK hP hS dX9_fewest_42
  · rw [if_neg k2] at h
    refine lv_iload_n hx hb dX9_fewest_10 rfl (lv_at hl 0 rfl) ?_
    refine lv_goto (tgt := 42) hx hb dX9_fewest_11 (by decide) ?_
    obtain rfl := Option.some.inj h
    exact rI hx hb hr hlk hK hP hS dX9_fewest_42

set_option maxRecDepth 100000 in
set_option maxHeartbeats 4000000 in
theorem c_X9_findPlan {l : Launch} {D : va_G} {dT : Nat → ClassId} {q : Nat → Nat} (hD : mD q) {mr : tMR} {mg : tMG} {mc : tMC} {mn : tMN} {mh : tMH} {mf : tMF} {mp : tMP} {a1 : Int32} {v : Int32 × tMP} (h : f_X9_findPlan mf mp a1 = some v) : MG l yX9_findPlan cX9_findPlan 6 (some .int) 3 [.ref (q 0), .int a1] D (tyL dT) (wM dT q mr mg mc mn mh mf mp) (QI D (tyL dT) (mA q) (wM dT q mr mg mc mn mh mf v.2) v.1) (mA q) := by
  refine MG.mk (by decide +kernel) (Nat.le_of_ble_eq_true rfl) ?_
  intro p e s m below meth c hx hb hr hml hown hts hlk hK hP ls hl
  have hown : s.vm.findClass RX9 = some m.cls := hown
  have hS : va_S (mA q) s.heap s.heap [] := va_S.rf
  have hl : lv_has ls 6 [(0, .ref (q 0)), (1, .int a1)] := hl
  rw [f_X9_findPlan] at h
  refine lv_iconst (v := 0) hx hb dX9_findPlan_0 (by decide) ?_
  refine lv_istore_n (lv' := [(2, .int (0 : Int32)), (0, .ref (q 0)), (1, .int a1)]) hx hb dX9_findPlan_1 rfl hl (by decide) rfl (fun ls hl => ?_)
  refine lv_iconst (v := 0) hx hb dX9_findPlan_2 (by decide) ?_
  refine lv_istore_n (lv' := [(3, .int (0 : Int32)), (2, .int (0 : Int32)), (0, .ref (q 0)), (1, .int a1)]) hx hb dX9_findPlan_3 rfl hl (by decide) rfl (fun ls hl => ?_)
  refine lv_iload_n hx hb dX9_findPlan_4 rfl (lv_at hl 3 rfl) ?_
  refine lv_istore (lv' := [(4, .int a1), (3, .int (0 : Int32)), (2, .int (0 : Int32)), (0, .ref (q 0)), (1, .int a1)]) hx hb dX9_findPlan_5 hl (by decide) rfl (fun ls hl => ?_)
  have hL7_10 : ∀ (n : Nat) (mp_7 : tMP) (x2_7 : Int32) (x3_7 : Int32) (x4_7 : Int32) (y : Int32 × Int32 × Int32 × tMP), f_X9_findPlan_7 n mf mp_7 a1 x2_7 x3_7 x4_7 = some y → ∀ (ls : Array Slot) (H : Heap) (locs : List Loc), lv_has ls 6 [(0, .ref (q 0)), (1, .int a1), (2, .int x2_7), (3, .int x3_7), (4, .int x4_7)] → va_P D vwCl (wM dT q mr mg mc mn mh mf mp_7) H → va_S (mA q) s.heap H locs → ∀ Q : State → Prop, (∀ (ls : Array Slot) (H : Heap) (locs : List Loc), lv_has ls 6 [(0, .ref (q 0)), (1, .int a1), (2, .int y.1), (3, .int y.2.1), (4, .int y.2.2.1)] → va_P D vwCl (wM dT q mr mg mc mn mh mf y.2.2.2) H → va_S (mA q) s.heap H locs → W p l e (rmD 3) s m [.ref (q 0), .int a1].toArray below meth c H locs 0 0 Q (F0 m 92 ls [])) → W p l e (rmD 3) s m [.ref (q 0), .int a1].toArray below meth c H locs 0 0 Q (F0 m 7 ls []) := by
    intro n
    induction n with
    | zero => intro mp_7 x2_7 x3_7 x4_7 y h; exact absurd h (by simp [f_X9_findPlan_7])
    | succ n ih =>
      intro mp_7 x2_7 x3_7 x4_7 y h ls H locs hl hP hS Q kk
      rw [f_X9_findPlan_7] at h
      refine lv_iload hx hb dX9_findPlan_7 (lv_at hl 4 rfl) ?_
      refine lv_if_le (tgt := 92) hx hb dX9_findPlan_9 (by decide) (fun k1 => ?_) (fun k1 => ?_)
      · rw [if_pos k1] at h
        obtain rfl := Option.some.inj h
        exact kk _ _ _ (lv_sub hl [0, 1, 2, 3, 4] rfl) hP hS
      · rw [if_neg k1] at h
        refine lv_iconst (v := 0) hx hb dX9_findPlan_12 (by decide) ?_
        refine lv_istore (lv' := [(5, .int (0 : Int32)), (0, .ref (q 0)), (1, .int a1), (2, .int x2_7), (3, .int x3_7), (4, .int x4_7)]) hx hb dX9_findPlan_13 hl (by decide) rfl (fun ls hl => ?_)
        have hL15_5 : ∀ (n : Nat) (x5_15 : Int32) (y : Int32), f_X9_findPlan_15 n mf a1 x2_7 x3_7 x4_7 x5_15 = some y → ∀ (ls : Array Slot) (H : Heap) (locs : List Loc), lv_has ls 6 [(0, .ref (q 0)), (1, .int a1), (2, .int x2_7), (3, .int x3_7), (4, .int x4_7), (5, .int x5_15)] → va_P D vwCl (wM dT q mr mg mc mn mh mf mp_7) H → va_S (mA q) s.heap H locs → ∀ Q : State → Prop, (∀ (ls : Array Slot) (H : Heap) (locs : List Loc), lv_has ls 6 [(0, .ref (q 0)), (1, .int a1), (2, .int x2_7), (3, .int x3_7), (4, .int x4_7), (5, .int y)] → va_P D vwCl (wM dT q mr mg mc mn mh mf mp_7) H → va_S (mA q) s.heap H locs → W p l e (rmD 3) s m [.ref (q 0), .int a1].toArray below meth c H locs 0 0 Q (F0 m 46 ls [])) → W p l e (rmD 3) s m [.ref (q 0), .int a1].toArray below meth c H locs 0 0 Q (F0 m 15 ls []) := by
          intro n
          induction n with
          | zero => intro x5_15 y h; exact absurd h (by simp [f_X9_findPlan_15])
          | succ n ih =>
            intro x5_15 y h ls H locs hl hP hS Q kk
            rw [f_X9_findPlan_15] at h
            refine lv_aload_n hx hb dX9_findPlan_15 rfl (lv_at hl 0 rfl) ?_
            refine lv_iload_n hx hb dX9_findPlan_16 rfl (lv_at hl 3 rfl) ?_
            refine lv_iload hx hb dX9_findPlan_17 (lv_at hl 5 rfl) ?_
            refine lv_iload hx hb dX9_findPlan_19 (lv_at hl 4 rfl) ?_
            obtain ⟨v2, hv2, h⟩ := dq h
            refine cVi (As := [.int x3_7, .int x5_15, .int x4_7]) (rest := []) ⟨hx, hb, hml, hown, hts⟩ (c_X9_by (dT := dT) (mr := mr) (mg := mg) (mc := mc) (mn := mn) (mh := mh) (mf := mf) (mp := mp_7) hD hv2) (cwV 3 hts (good_V sub_z k_987 k_989 ks_35 k_9 k_990) rfl rfl rfl (by decide +kernel) (by decide)) (va_recv hK hP (ci := 8) (q0 := 0) rfl rfl) hK hP hS rfl hl.1 rfl (Nat.le_of_ble_eq_true rfl) dX9_findPlan_21 (by decide) (fun H locs hP hS => ?_)
            refine lv_aload_n hx hb dX9_findPlan_24 rfl (lv_at hl 0 rfl) ?_
            refine va_get (D := D) (ci := 8) (v := .ref (q 19)) (C := RX9) (T := TX9) (N := 31) hx hb hts (fun w h => sub_z _ (inX9 w h)) hown hK hP 0 rfl rfl 27 (by decide) (hts _ (sub_z _ k_763)) (fun _ h => h) rfl dX9_findPlan_25 ?_
            refine lv_sipush (v := 600) hx hb dX9_findPlan_28 (by decide) ?_
            refine lv_iload hx hb dX9_findPlan_31 (lv_at hl 4 rfl) ?_
            refine lv_imul hx hb dX9_findPlan_33 ?_
            refine lv_iload_n hx hb dX9_findPlan_34 rfl (lv_at hl 3 rfl) ?_
            refine lv_iadd hx hb dX9_findPlan_35 ?_
            obtain ⟨k3, h⟩ := dg h
            refine va_iald (f := mf.2.2.2.2.2.1) hx hb hK hP 19 0 rfl rfl (inb_vp k3) dX9_findPlan_36 ?_
            refine lv_icmp_eq (tgt := 46) hx hb dX9_findPlan_37 (by decide) (fun k4 => ?_) (fun k4 => ?_)
            · rw [if_pos k4] at h
              obtain rfl := Option.some.inj h
              exact kk _ _ _ (lv_sub hl [0, 1, 2, 3, 4, 5] rfl) hP hS
            · rw [if_neg k4] at h
              refine lv_iinc (v := (x5_15 + (1 : Int32))) (lv' := [(5, .int (x5_15 + (1 : Int32))), (0, .ref (q 0)), (1, .int a1), (2, .int x2_7), (3, .int x3_7), (4, .int x4_7)]) hx hb dX9_findPlan_40 hl (k := 5) rfl rfl (by decide) rfl (fun ls hl => ?_)
              refine lv_goto (tgt := 15) hx hb dX9_findPlan_43 (by decide) ?_
              exact ih _ _ h _ _ _ (lv_sub hl [1, 2, 3, 4, 5, 0] rfl) hP hS _ kk
        obtain ⟨y6, hy6, h⟩ := dq h
        refine hL15_5 _ _ _ hy6 _ _ _ (lv_sub hl [1, 2, 3, 4, 5, 0] rfl) hP hS _ (fun ls H locs hl hP hS => ?_)
        refine lv_aload_n hx hb dX9_findPlan_46 rfl (lv_at hl 0 rfl) ?_
        refine va_get (D := D) (ci := 8) (v := .ref (q 22)) (C := RX9) (T := TX9) (N := 31) hx hb hts (fun w h => sub_z _ (inX9 w h)) hown hK hP 0 rfl rfl 30 (by decide) (hts _ (sub_z _ k_766)) (fun _ h => h) rfl dX9_findPlan_47 ?_
        refine lv_iload_n hx hb dX9_findPlan_50 rfl (lv_at hl 2 rfl) ?_
        refine lv_iload hx hb dX9_findPlan_51 (lv_at hl 5 rfl) ?_
        obtain ⟨k7, h⟩ := dg h
        refine va_iast (f := mp_7) hx hb hK hP (mD.w hD) hS 22 0 rfl rfl (inb_vp k7) dX9_findPlan_53 (fun H locs hP _ hS => ?_)
        have hP : va_P D vwCl (wM dT q mr mg mc mn mh mf (upd mp_7 x2_7.toNatClampNeg y6)) H := hP
        refine lv_iinc (v := (x2_7 + (1 : Int32))) (lv' := [(2, .int (x2_7 + (1 : Int32))), (0, .ref (q 0)), (1, .int a1), (3, .int x3_7), (4, .int x4_7), (5, .int y6)]) hx hb dX9_findPlan_54 hl (k := 2) rfl rfl (by decide) rfl (fun ls hl => ?_)
        refine lv_iload hx hb dX9_findPlan_57 (lv_at hl 4 rfl) ?_
        refine lv_aload_n hx hb dX9_findPlan_59 rfl (lv_at hl 1 rfl) ?_
        refine va_get (D := D) (ci := 8) (v := .ref (q 18)) (C := RX9) (T := TX9) (N := 31) hx hb hts (fun w h => sub_z _ (inX9 w h)) hown hK hP 0 rfl rfl 26 (by decide) (hts _ (sub_z _ k_762)) (fun _ h => h) rfl dX9_findPlan_60 ?_
        refine lv_sipush (v := 256) hx hb dX9_findPlan_63 (by decide) ?_
        refine lv_iload_n hx hb dX9_findPlan_66 rfl (lv_at hl 3 rfl) ?_
        refine lv_imul hx hb dX9_findPlan_67 ?_
        refine lv_iload hx hb dX9_findPlan_68 (lv_at hl 5 rfl) ?_
        refine lv_iadd hx hb dX9_findPlan_70 ?_
        obtain ⟨k8, h⟩ := dg h
        refine va_iald (f := mf.2.2.2.2.1) hx hb hK hP 18 0 rfl rfl (inb_vp k8) dX9_findPlan_71 ?_
        refine lv_isub hx hb dX9_findPlan_72 ?_
        refine lv_istore (lv' := [(4, .int (x4_7 - (mf.2.2.2.2.1 (((256 : Int32) * x3_7) + y6).toNatClampNeg))), (2, .int (x2_7 + (1 : Int32))), (0, .ref (q 0)), (1, .int a1), (3, .int x3_7), (5, .int y6)]) hx hb dX9_findPlan_73 hl (by decide) rfl (fun ls hl => ?_)
        refine lv_aload_n hx hb dX9_findPlan_75 rfl (lv_at hl 2 rfl) ?_
        refine va_get (D := D) (ci := 8) (v := .ref (q 17)) (C := RX9) (T := TX9) (N := 31) hx hb hts (fun w h => sub_z _ (inX9 w h)) hown hK hP 0 rfl rfl 25 (by decide) (hts _ (sub_z _ k_761)) (fun _ h => h) rfl dX9_findPlan_76 ?_
        refine lv_sipush (v := 256) hx hb dX9_findPlan_79 (by decide) ?_
        refine lv_iload_n hx hb dX9_findPlan_82 rfl (lv_at hl 4 rfl) ?_
        refine lv_imul hx hb dX9_findPlan_83 ?_
        refine lv_iload hx hb dX9_findPlan_84 (lv_at hl 5 rfl) ?_
        refine lv_iadd hx hb dX9_findPlan_86 ?_
        obtain ⟨k9, h⟩ := dg h
        refine va_iald (f := mf.2.2.2.1) hx hb hK hP 17 0 rfl rfl (inb_vp k9) dX9_findPlan_87 ?_
        refine lv_istore_n (lv' := [(3, .int (mf.2.2.2.1 (((256 : Int32) * x3_7) + y6).toNatClampNeg)), (4, .int (x4_7 - (mf.2.2.2.2.1 (((256 : Int32) * x3_7) + y6).toNatClampNeg))), (2, .int (x2_7 + (1 : Int32))), (0, .ref (q 0)), (1, .int a1), (5, .int y6)]) hx hb dX9_findPlan_88 rfl hl (by decide) rfl (fun ls hl => ?_)
        refine lv_goto (tgt := 7) hx hb dX9_findPlan_89 (by decide) ?_
        exact ih _ _ _ _ _ h _ _ _ (lv_sub hl [3, 4, 2, 0, 1] rfl) hP hS _ kk
  obtain ⟨y11, hy11, h⟩ := dq h
  refine hL7_10 _ _ _ _ _ _ hy11 _ _ _ (lv_sub hl [3, 4, 2, 1, 0] rfl) hP hS _ (fun ls H locs hl hP hS => ?_)
  refine lv_iload_n hx hb dX9_findPlan_92 rfl (lv_at hl 2 rfl) ?_
  obtain rfl := Option.some.inj h
  exact rI hx hb hr hlk hK hP hS dX9_findPlan_93

set_option maxRecDepth 100000 in
set_option maxHeartbeats 4000000 in
theorem c_X9_plan {l : Launch} {D : va_G} {dT : Nat → ClassId} {q : Nat → Nat} (hD : mD q) {mr : tMR} {mg : tMG} {mc : tMC} {mn : tMN} {mh : tMH} {mf : tMF} {mp : tMP} {a1 : Int32} {a2 : Int32} {v : Int32 × tMN × tMF × tMP} (h : f_X9_plan mg mn mf mp a1 a2 = some v) : MG l yX9_plan cX9_plan 4 (some .int) 8 [.ref (q 0), .int a1, .int a2] D (tyL dT) (wM dT q mr mg mc mn mh mf mp) (QI D (tyL dT) (mA q) (wM dT q mr mg mc v.2.1 mh v.2.2.1 v.2.2.2) v.1) (mA q) := by
  refine MG.mk (by decide +kernel) (Nat.le_of_ble_eq_true rfl) ?_
  intro p e s m below meth c hx hb hr hml hown hts hlk hK hP ls hl
  have hown : s.vm.findClass RX9 = some m.cls := hown
  have hS : va_S (mA q) s.heap s.heap [] := va_S.rf
  have hl : lv_has ls 4 [(0, .ref (q 0)), (1, .int a1), (2, .int a2)] := hl
  rw [f_X9_plan] at h
  refine lv_aload_n hx hb dX9_plan_0 rfl (lv_at hl 0 rfl) ?_
  refine lv_iload_n hx hb dX9_plan_1 rfl (lv_at hl 1 rfl) ?_
  obtain ⟨v1, hv1, h⟩ := dq h
  refine cVi (As := [.int a1]) (rest := []) ⟨hx, hb, hml, hown, hts⟩ (c_X9_fewest (dT := dT) (mr := mr) (mg := mg) (mc := mc) (mn := mn) (mh := mh) (mf := mf) (mp := mp) hD hv1) (cwV 1 hts (good_V sub_z k_1020 k_1013 k_1014 k_9 k_1015) rfl rfl rfl (by decide +kernel) (by decide)) (va_recv hK hP (ci := 8) (q0 := 0) rfl rfl) hK hP hS rfl hl.1 rfl (Nat.le_of_ble_eq_true rfl) dX9_plan_2 (by decide) (fun H locs hP hS => ?_)
  refine lv_if_ge (tgt := 10) hx hb dX9_plan_5 (by decide) (fun k2 => ?_) (fun k2 => ?_)
  · rw [if_pos k2] at h
    refine lv_aload_n hx hb dX9_plan_10 rfl (lv_at hl 0 rfl) ?_
    refine lv_iload_n hx hb dX9_plan_11 rfl (lv_at hl 1 rfl) ?_
    obtain ⟨v3, hv3, h⟩ := dq h
    refine cVi (As := [.int a1]) (rest := []) ⟨hx, hb, hml, hown, hts⟩ (c_X9_findPlan (dT := dT) (mr := mr) (mg := mg) (mc := mc) (mn := v1.2.1) (mh := mh) (mf := v1.2.2) (mp := mp) hD hv3) (cwV 1 hts (good_V sub_z k_1021 k_1023 ks_38 k_9 k_1024) rfl rfl rfl (by decide +kernel) (by decide)) (va_recv hK hP (ci := 8) (q0 := 0) rfl rfl) hK hP hS rfl hl.1 rfl (Nat.le_of_ble_eq_true rfl) dX9_plan_12 (by decide) (fun H locs hP hS => ?_)
    refine lv_istore_n (lv' := [(3, .int v3.1), (0, .ref (q 0)), (1, .int a1), (2, .int a2)]) hx hb dX9_plan_15 rfl hl (by decide) rfl (fun ls hl => ?_)
    refine lv_iload_n hx hb dX9_plan_16 rfl (lv_at hl 3 rfl) ?_
    refine lv_iconst (v := 0) hx hb dX9_plan_17 (by decide) ?_
    refine lv_iload_n hx hb dX9_plan_18 rfl (lv_at hl 0 rfl) ?_
    refine lv_iconst (v := 1) hx hb dX9_plan_19 (by decide) ?_
    refine lv_isub hx hb dX9_plan_20 ?_
    obtain ⟨v4, hv4, h⟩ := dq h
    refine cSi (As := [.int a2, .int (0 : Int32), .int (v3.1 - (1 : Int32))]) (rest := []) ⟨hx, hb, hml, hown, hts⟩ (c_X9_in (dT := dT) (mr := mr) (mg := mg) (mc := mc) (mn := v1.2.1) (mh := mh) (mf := v1.2.2) (mp := v3.2) hD hv4) (va_cwS 3 hts (good_S sub_z k_837 k_838 k_9 k_839) rfl rfl rfl (by decide +kernel) (by decide)) hK hP hS rfl hl.1 rfl (Nat.le_of_ble_eq_true rfl) dX9_plan_21 (by decide) (fun H locs hP hS => ?_)
    refine lv_if_eq (tgt := 36) hx hb dX9_plan_24 (by decide) (fun k5 => ?_) (fun k5 => ?_)
    · rw [if_pos k5] at h
      refine lv_iconst (v := -1) hx hb dX9_plan_36 (by decide) ?_
      obtain rfl := Option.some.inj h
      exact rI hx hb hr hlk hK hP hS dX9_plan_37
    · rw [if_neg k5] at h
      refine lv_aload_n hx hb dX9_plan_27 rfl (lv_at hl 1 rfl) ?_
      refine va_get (D := D) (ci := 8) (v := .ref (q 22)) (C := RX9) (T := TX9) (N := 31) hx hb hts (fun w h => sub_z _ (inX9 w h)) hown hK hP 0 rfl rfl 30 (by decide) (hts _ (sub_z _ k_766)) (fun _ h => h) rfl dX9_plan_28 ?_
      refine lv_iload_n hx hb dX9_plan_31 rfl (lv_at hl 3 rfl) ?_
      obtain ⟨k6, h⟩ := dg h
      refine va_iald (f := v3.2) hx hb hK hP 22 0 rfl rfl (inb_vp k6) dX9_plan_32 ?_
      refine lv_goto (tgt := 37) hx hb dX9_plan_33 (by decide) ?_
      obtain rfl := Option.some.inj h
      exact rI hx hb hr hlk hK hP hS dX9_plan_37
  · rw [if_neg k2] at h
    refine lv_iconst (v := -1) hx hb dX9_plan_8 (by decide) ?_
    obtain rfl := Option.some.inj h
    exact rI hx hb hr hlk hK hP hS dX9_plan_9

set_option maxRecDepth 100000 in
set_option maxHeartbeats 4000000 in
theorem c_X9_soonest {l : Launch} {D : va_G} {dT : Nat → ClassId} {q : Nat → Nat} (hD : mD q) {mr : tMR} {mg : tMG} {mc : tMC} {mn : tMN} {mh : tMH} {mf : tMF} {mp : tMP} {a1 : Int32} {v : Int32 × tMN × tMF} (h : f_X9_soonest mg mn mf a1 = some v) : MG l yX9_soonest cX9_soonest 6 (some .int) 7 [.ref (q 0), .int a1] D (tyL dT) (wM dT q mr mg mc mn mh mf mp) (QI D (tyL dT) (mA q) (wM dT q mr mg mc v.2.1 mh v.2.2 mp) v.1) (mA q) := by
  refine MG.mk (by decide +kernel) (Nat.le_of_ble_eq_true rfl) ?_
  intro p e s m below meth c hx hb hr hml hown hts hlk hK hP ls hl
  have hown : s.vm.findClass RX9 = some m.cls := hown
  have hS : va_S (mA q) s.heap s.heap [] := va_S.rf
  have hl : lv_has ls 6 [(0, .ref (q 0)), (1, .int a1)] := hl
  rw [f_X9_soonest] at h
  refine lv_aload_n hx hb dX9_soonest_0 rfl (lv_at hl 0 rfl) ?_
  refine lv_iload_n hx hb dX9_soonest_1 rfl (lv_at hl 1 rfl) ?_
  obtain ⟨v1, hv1, h⟩ := dq h
  refine cVi (As := [.int a1]) (rest := []) ⟨hx, hb, hml, hown, hts⟩ (c_X9_whyNot (dT := dT) (mr := mr) (mg := mg) (mc := mc) (mn := mn) (mh := mh) (mf := mf) (mp := mp) hD hv1) (cwV 1 hts (good_V sub_z k_1004 k_1006 ks_37 k_9 k_1007) rfl rfl rfl (by decide +kernel) (by decide)) (va_recv hK hP (ci := 8) (q0 := 0) rfl rfl) hK hP hS rfl hl.1 rfl (Nat.le_of_ble_eq_true rfl) dX9_soonest_2 (by decide) (fun H locs hP hS => ?_)
  refine lv_istore_n (lv' := [(2, .int v1.1), (0, .ref (q 0)), (1, .int a1)]) hx hb dX9_soonest_5 rfl hl (by decide) rfl (fun ls hl => ?_)
  refine lv_iload_n hx hb dX9_soonest_6 rfl (lv_at hl 0 rfl) ?_
  refine lv_if_eq (tgt := 12) hx hb dX9_soonest_7 (by decide) (fun k2 => ?_) (fun k2 => ?_)
  · rw [if_pos k2] at h
    refine lv_iconst (v := -1) hx hb dX9_soonest_12 (by decide) ?_
    refine lv_istore_n (lv' := [(3, .int (-1 : Int32)), (2, .int v1.1), (0, .ref (q 0)), (1, .int a1)]) hx hb dX9_soonest_13 rfl hl (by decide) rfl (fun ls hl => ?_)
    refine lv_iconst (v := 0) hx hb dX9_soonest_14 (by decide) ?_
    refine lv_istore (lv' := [(4, .int (0 : Int32)), (3, .int (-1 : Int32)), (2, .int v1.1), (0, .ref (q 0)), (1, .int a1)]) hx hb dX9_soonest_15 hl (by decide) rfl (fun ls hl => ?_)
    have hL17_9 : ∀ (n : Nat) (x3_17 : Int32) (x4_17 : Int32) (y : Int32 × Int32), f_X9_soonest_17 n v1.2.2 a1 v1.1 x3_17 x4_17 = some y → ∀ (ls : Array Slot) (H : Heap) (locs : List Loc), lv_has ls 6 [(0, .ref (q 0)), (1, .int a1), (2, .int v1.1), (3, .int x3_17), (4, .int x4_17)] → va_P D vwCl (wM dT q mr mg mc v1.2.1 mh v1.2.2 mp) H → va_S (mA q) s.heap H locs → ∀ Q : State → Prop, (∀ (ls : Array Slot) (H : Heap) (locs : List Loc), lv_has ls 6 [(0, .ref (q 0)), (1, .int a1), (2, .int v1.1), (3, .int y.1), (4, .int y.2)] → va_P D vwCl (wM dT q mr mg mc v1.2.1 mh v1.2.2 mp) H → va_S (mA q) s.heap H locs → W p l e (rmD 7) s m [.ref (q 0), .int a1].toArray below meth c H locs 0 0 Q (F0 m 76 ls [])) → W p l e (rmD 7) s m [.ref (q 0), .int a1].toArray below meth c H locs 0 0 Q (F0 m 17 ls []) := by
      intro n
      induction n with
      | zero => intro x3_17 x4_17 y h; exact absurd h (by simp [f_X9_soonest_17])
      | succ n ih =>
        intro x3_17 x4_17 y h ls H locs hl hP hS Q kk
        rw [f_X9_soonest_17] at h
        refine lv_iload hx hb dX9_soonest_17 (lv_at hl 4 rfl) ?_
        refine lv_aload_n hx hb dX9_soonest_19 rfl (lv_at hl 0 rfl) ?_
        refine va_get (D := D) (ci := 8) (v := .int v1.2.2.2.2.1) (C := RX9) (T := TX9) (N := 31) hx hb hts (fun w h => sub_z _ (inX9 w h)) hown hK hP 0 rfl rfl 24 (by decide) (hts _ (sub_z _ k_760)) (fun _ h => h) rfl dX9_soonest_20 ?_
        refine lv_icmp_ge (tgt := 76) hx hb dX9_soonest_23 (by decide) (fun k3 => ?_) (fun k3 => ?_)
        · rw [if_pos k3] at h
          obtain rfl := Option.some.inj h
          exact kk _ _ _ (lv_sub hl [0, 1, 2, 3, 4] rfl) hP hS
        · rw [if_neg k3] at h
          refine lv_aload_n hx hb dX9_soonest_26 rfl (lv_at hl 0 rfl) ?_
          refine va_get (D := D) (ci := 8) (v := .ref (q 20)) (C := RX9) (T := TX9) (N := 31) hx hb hts (fun w h => sub_z _ (inX9 w h)) hown hK hP 0 rfl rfl 28 (by decide) (hts _ (sub_z _ k_764)) (fun _ h => h) rfl dX9_soonest_27 ?_
          refine lv_iload hx hb dX9_soonest_30 (lv_at hl 4 rfl) ?_
          obtain ⟨k4, h⟩ := dg h
          refine va_iald (f := v1.2.2.2.2.2.2.2.2.1) hx hb hK hP 20 0 rfl rfl (inb_vp k4) dX9_soonest_32 ?_
          refine lv_iload_n hx hb dX9_soonest_33 rfl (lv_at hl 1 rfl) ?_
          refine lv_iadd hx hb dX9_soonest_34 ?_
          refine lv_istore (lv' := [(5, .int ((v1.2.2.2.2.2.2.2.2.1 x4_17.toNatClampNeg) + a1)), (0, .ref (q 0)), (1, .int a1), (2, .int v1.1), (3, .int x3_17), (4, .int x4_17)]) hx hb dX9_soonest_35 hl (by decide) rfl (fun ls hl => ?_)
          refine lv_aload_n hx hb dX9_soonest_37 rfl (lv_at hl 1 rfl) ?_
          refine va_get (D := D) (ci := 8) (v := .ref (q 19)) (C := RX9) (T := TX9) (N := 31) hx hb hts (fun w h => sub_z _ (inX9 w h)) hown hK hP 0 rfl rfl 27 (by decide) (hts _ (sub_z _ k_763)) (fun _ h => h) rfl dX9_soonest_38 ?_
          refine lv_sipush (v := 600) hx hb dX9_soonest_41 (by decide) ?_
          refine lv_iload_n hx hb dX9_soonest_44 rfl (lv_at hl 2 rfl) ?_
          refine lv_imul hx hb dX9_soonest_45 ?_
          refine lv_iload hx hb dX9_soonest_46 (lv_at hl 5 rfl) ?_
          refine lv_iadd hx hb dX9_soonest_48 ?_
          obtain ⟨k5, h⟩ := dg h
          refine va_iald (f := v1.2.2.2.2.2.2.2.1) hx hb hK hP 19 0 rfl rfl (inb_vp k5) dX9_soonest_49 ?_
          refine lv_if_lt (tgt := 68) hx hb dX9_soonest_50 (by decide) (fun k6 => ?_) (fun k6 => ?_)
          · rw [if_pos k6] at h
            refine lv_iload_n hx hb dX9_soonest_68 rfl (lv_at hl 4 rfl) ?_
            refine lv_istore_n (lv' := [(3, .int x3_17), (5, .int ((v1.2.2.2.2.2.2.2.2.1 x4_17.toNatClampNeg) + a1)), (0, .ref (q 0)), (1, .int a1), (2, .int v1.1), (4, .int x4_17)]) hx hb dX9_soonest_69 rfl hl (by decide) rfl (fun ls hl => ?_)
            refine lv_iinc (v := (x4_17 + (1 : Int32))) (lv' := [(4, .int (x4_17 + (1 : Int32))), (3, .int x3_17), (5, .int ((v1.2.2.2.2.2.2.2.2.1 x4_17.toNatClampNeg) + a1)), (0, .ref (q 0)), (1, .int a1), (2, .int v1.1)]) hx hb dX9_soonest_70 hl (k := 5) rfl rfl (by decide) rfl (fun ls hl => ?_)
            refine lv_goto (tgt := 17) hx hb dX9_soonest_73 (by decide) ?_
            exact ih _ _ _ h _ _ _ (lv_sub hl [3, 4, 5, 1, 0] rfl) hP hS _ kk
          · rw [if_neg k6] at h
            refine lv_iload_n hx hb dX9_soonest_53 rfl (lv_at hl 4 rfl) ?_
            refine lv_if_lt (tgt := 63) hx hb dX9_soonest_54 (by decide) (fun k7 => ?_) (fun k7 => ?_)
            · rw [if_pos k7] at h
              refine lv_iload hx hb dX9_soonest_63 (lv_at hl 0 rfl) ?_
              refine lv_goto (tgt := 69) hx hb dX9_soonest_65 (by decide) ?_
              refine lv_istore_n (lv' := [(3, .int ((v1.2.2.2.2.2.2.2.2.1 x4_17.toNatClampNeg) + a1)), (5, .int ((v1.2.2.2.2.2.2.2.2.1 x4_17.toNatClampNeg) + a1)), (0, .ref (q 0)), (1, .int a1), (2, .int v1.1), (4, .int x4_17)]) hx hb dX9_soonest_69 rfl hl (by decide) rfl (fun ls hl => ?_)
              refine lv_iinc (v := (x4_17 + (1 : Int32))) (lv' := [(4, .int (x4_17 + (1 : Int32))), (3, .int ((v1.2.2.2.2.2.2.2.2.1 x4_17.toNatClampNeg) + a1)), (5, .int ((v1.2.2.2.2.2.2.2.2.1 x4_17.toNatClampNeg) + a1)), (0, .ref (q 0)), (1, .int a1), (2, .int v1.1)]) hx hb dX9_soonest_70 hl (k := 5) rfl rfl (by decide) rfl (fun ls hl => ?_)
              refine lv_goto (tgt := 17) hx hb dX9_soonest_73 (by decide) ?_
              exact ih _ _ _ h _ _ _ (lv_sub hl [3, 4, 5, 1, 0] rfl) hP hS _ kk
            · rw [if_neg k7] at h
              refine lv_iload hx hb dX9_soonest_57 (lv_at hl 0 rfl) ?_
              refine lv_iload_n hx hb dX9_soonest_59 rfl (lv_at hl 4 rfl) ?_
              refine lv_icmp_ge (tgt := 68) hx hb dX9_soonest_60 (by decide) (fun k8 => ?_) (fun k8 => ?_)
              · rw [if_pos k8] at h
                refine lv_iload_n hx hb dX9_soonest_68 rfl (lv_at hl 4 rfl) ?_
                refine lv_istore_n (lv' := [(3, .int x3_17), (5, .int ((v1.2.2.2.2.2.2.2.2.1 x4_17.toNatClampNeg) + a1)), (0, .ref (q 0)), (1, .int a1), (2, .int v1.1), (4, .int x4_17)]) hx hb dX9_soonest_69 rfl hl (by decide) rfl (fun ls hl => ?_)
                refine lv_iinc (v := (x4_17 + (1 : Int32))) (lv' := [(4, .int (x4_17 + (1 : Int32))), (3, .int x3_17), (5, .int ((v1.2.2.2.2.2.2.2.2.1 x4_17.toNatClampNeg) + a1)), (0, .ref (q 0)), (1, .int a1), (2, .int v1.1)]) hx hb dX9_soonest_70 hl (k := 5) rfl rfl (by decide) rfl (fun ls hl => ?_)
                refine lv_goto (tgt := 17) hx hb dX9_soonest_73 (by decide) ?_
                exact ih _ _ _ h _ _ _ (lv_sub hl [3, 4, 5, 1, 0] rfl) hP hS _ kk
              · rw [if_neg k8] at h
                refine lv_iload hx hb dX9_soonest_63 (lv_at hl 0 rfl) ?_
                refine lv_goto (tgt := 69) hx hb dX9_soonest_65 (by decide) ?_
                refine lv_istore_n (lv' := [(3, .int ((v1.2.2.2.2.2.2.2.2.1 x4_17.toNatClampNeg) + a1)), (5, .int ((v1.2.2.2.2.2.2.2.2.1 x4_17.toNatClampNeg) + a1)), (0, .ref (q 0)), (1, .int a1), (2, .int v1.1), (4, .int x4_17)]) hx hb dX9_soonest_69 rfl hl (by decide) rfl (fun ls hl => ?_)
                refine lv_iinc (v := (x4_17 + (1 : Int32))) (lv' := [(4, .int (x4_17 + (1 : Int32))), (3, .int ((v1.2.2.2.2.2.2.2.2.1 x4_17.toNatClampNeg) + a1)), (5, .int ((v1.2.2.2.2.2.2.2.2.1 x4_17.toNatClampNeg) + a1)), (0, .ref (q 0)), (1, .int a1), (2, .int v1.1)]) hx hb dX9_soonest_70 hl (k := 5) rfl rfl (by decide) rfl (fun ls hl => ?_)
                refine lv_goto (tgt := 17) hx hb dX9_soonest_73 (by decide) ?_
                exact ih _ _ _ h _ _ _ (lv_sub hl [3, 4, 5, 1, 0] rfl) hP hS _ kk
    obtain ⟨y10, hy10, h⟩ := dq h
    refine hL17_9 _ _ _ _ hy10 _ _ _ (lv_sub hl [3, 4, 2, 1, 0] rfl) hP hS _ (fun ls H locs hl hP hS => ?_)
    refine lv_iload_n hx hb dX9_soonest_76 rfl (lv_at hl 3 rfl) ?_
    refine lv_if_ge (tgt := 85) hx hb dX9_soonest_77 (by decide) (fun k11 => ?_) (fun k11 => ?_)
    · rw [if_pos k11] at h
      refine lv_iload_n hx hb dX9_soonest_85 rfl (lv_at hl 3 rfl) ?_
      obtain rfl := Option.some.inj h
      exact rI hx hb hr hlk hK hP hS dX9_soonest_86
    · rw [if_neg k11] at h
      refine lv_bipush (v := -7) hx hb dX9_soonest_80 (by decide) ?_
      refine lv_goto (tgt := 86) hx hb dX9_soonest_82 (by decide) ?_
      obtain rfl := Option.some.inj h
      exact rI hx hb hr hlk hK hP hS dX9_soonest_86
  · rw [if_neg k2] at h
    refine lv_iload_n hx hb dX9_soonest_10 rfl (lv_at hl 0 rfl) ?_
    obtain rfl := Option.some.inj h
    exact rI hx hb hr hlk hK hP hS dX9_soonest_11

set_option maxRecDepth 100000 in
set_option maxHeartbeats 4000000 in
theorem c_X9_claim {l : Launch} {D : va_G} {dT : Nat → ClassId} {q : Nat → Nat} (hD : mD q) {mr : tMR} {mg : tMG} {mc : tMC} {mn : tMN} {mh : tMH} {mf : tMF} {mp : tMP} {a1 : Int32} {v : Int32 × tMC} (h : f_X9_claim mc a1 = some v) : MG l yX9_claim cX9_claim 2 (some .int) 1 [.ref (q 0), .int a1] D (tyL dT) (wM dT q mr mg mc mn mh mf mp) (QI D (tyL dT) (mA q) (wM dT q mr mg v.2 mn mh mf mp) v.1) (mA q) := by
  refine MG.mk (by decide +kernel) (Nat.le_of_ble_eq_true rfl) ?_
  intro p e s m below meth c hx hb hr hml hown hts hlk hK hP ls hl
  have hown : s.vm.findClass RX9 = some m.cls := hown
  have hS : va_S (mA q) s.heap s.heap [] := va_S.rf
  have hl : lv_has ls 2 [(0, .ref (q 0)), (1, .int a1)] := hl
  rw [f_X9_claim] at h
  refine lv_iload_n hx hb dX9_claim_0 rfl (lv_at hl 1 rfl) ?_
  refine lv_iconst (v := 0) hx hb dX9_claim_1 (by decide) ?_
  refine lv_sipush (v := 255) hx hb dX9_claim_2 (by decide) ?_
  obtain ⟨v1, hv1, h⟩ := dq h
  refine cSi (As := [.int a1, .int (0 : Int32), .int (255 : Int32)]) (rest := []) ⟨hx, hb, hml, hown, hts⟩ (c_X9_in (dT := dT) (mr := mr) (mg := mg) (mc := mc) (mn := mn) (mh := mh) (mf := mf) (mp := mp) hD hv1) (va_cwS 3 hts (good_S sub_z k_837 k_838 k_9 k_839) rfl rfl rfl (by decide +kernel) (by decide)) hK hP hS rfl hl.1 rfl (Nat.le_of_ble_eq_true rfl) dX9_claim_5 (by decide) (fun H locs hP hS => ?_)
  refine lv_if_ne (tgt := 13) hx hb dX9_claim_8 (by decide) (fun k2 => ?_) (fun k2 => ?_)
  · rw [if_neg k2] at h
    refine lv_aload_n hx hb dX9_claim_13 rfl (lv_at hl 0 rfl) ?_
    refine va_get (D := D) (ci := 8) (v := .int mc.2) (C := RX9) (T := TX9) (N := 31) hx hb hts (fun w h => sub_z _ (inX9 w h)) hown hK hP 0 rfl rfl 8 (by decide) (hts _ (sub_z _ k_744)) (fun _ h => h) rfl dX9_claim_14 ?_
    refine lv_bipush (v := 60) hx hb dX9_claim_17 (by decide) ?_
    refine lv_icmp_ne (tgt := 25) hx hb dX9_claim_19 (by decide) (fun k3 => ?_) (fun k3 => ?_)
    · rw [if_neg k3] at h
      refine lv_aload_n hx hb dX9_claim_25 rfl (lv_at hl 0 rfl) ?_
      refine va_get (D := D) (ci := 8) (v := .ref (q 7)) (C := RX9) (T := TX9) (N := 31) hx hb hts (fun w h => sub_z _ (inX9 w h)) hown hK hP 0 rfl rfl 7 (by decide) (hts _ (sub_z _ k_743)) (fun _ h => h) rfl dX9_claim_26 ?_
      refine lv_aload_n hx hb dX9_claim_29 rfl (lv_at hl 0 rfl) ?_
      refine va_get (D := D) (ci := 8) (v := .int mc.2) (C := RX9) (T := TX9) (N := 31) hx hb hts (fun w h => sub_z _ (inX9 w h)) hown hK hP 0 rfl rfl 8 (by decide) (hts _ (sub_z _ k_744)) (fun _ h => h) rfl dX9_claim_30 ?_
      refine lv_iload_n hx hb dX9_claim_33 rfl (lv_at hl 1 rfl) ?_
      obtain ⟨k4, h⟩ := dg h
      refine va_iast (f := mc.1) hx hb hK hP (mD.w hD) hS 7 0 rfl rfl (inb_vp k4) dX9_claim_34 (fun H locs hP _ hS => ?_)
      have hP : va_P D vwCl (wM dT q mr mg ((upd mc.1 mc.2.toNatClampNeg a1), mc.2) mn mh mf mp) H := hP
      refine lv_aload_n hx hb dX9_claim_35 rfl (lv_at hl 0 rfl) ?_
      refine lv_dup hx hb dX9_claim_36 rfl ?_
      refine va_get (D := D) (ci := 8) (v := .int mc.2) (C := RX9) (T := TX9) (N := 31) hx hb hts (fun w h => sub_z _ (inX9 w h)) hown hK hP 0 rfl rfl 8 (by decide) (hts _ (sub_z _ k_744)) (fun _ h => h) rfl dX9_claim_37 ?_
      refine lv_iconst (v := 1) hx hb dX9_claim_40 (by decide) ?_
      refine lv_iadd hx hb dX9_claim_41 ?_
      refine va_put (D := D) (ci := 8) (v := .int (mc.2 + (1 : Int32))) (ty := .int) (C := RX9) (T := TX9) (N := 31) hx hb hts (fun w h => sub_z _ (inX9 w h)) tyX9 tyX9_ok nmX9 hown hK hP (mD.w hD) hS 0 rfl rfl 8 (by decide) (hts _ (sub_z _ k_744)) (fun _ h => h) rfl (by decide +kernel) rfl rfl (Nat.le_of_ble_eq_true rfl) dX9_claim_42 (fun H locs hP _ hS => ?_)
      have hP : va_P D vwCl (wM dT q mr mg ((upd mc.1 mc.2.toNatClampNeg a1), (mc.2 + (1 : Int32))) mn mh mf mp) H := hP
      refine lv_aload_n hx hb dX9_claim_45 rfl (lv_at hl 0 rfl) ?_
      refine va_get (D := D) (ci := 8) (v := .int (mc.2 + (1 : Int32))) (C := RX9) (T := TX9) (N := 31) hx hb hts (fun w h => sub_z _ (inX9 w h)) hown hK hP 0 rfl rfl 8 (by decide) (hts _ (sub_z _ k_744)) (fun _ h => h) rfl dX9_claim_46 ?_
      obtain rfl := Option.some.inj h
      exact rI hx hb hr hlk hK hP hS dX9_claim_49
    · rw [if_pos k3] at h
      refine lv_bipush (v := -2) hx hb dX9_claim_22 (by decide) ?_
      obtain rfl := Option.some.inj h
      exact rI hx hb hr hlk hK hP hS dX9_claim_24
  · rw [if_pos k2] at h
    refine lv_iconst (v := -1) hx hb dX9_claim_11 (by decide) ?_
    obtain rfl := Option.some.inj h
    exact rI hx hb hr hlk hK hP hS dX9_claim_12

set_option maxRecDepth 100000 in
set_option maxHeartbeats 4000000 in
theorem c_X9_copy {l : Launch} {D : va_G} {dT : Nat → ClassId} {q : Nat → Nat} (hD : mD q) {mr : tMR} {mg : tMG} {mc : tMC} {mn : tMN} {mh : tMH} {mf : tMF} {mp : tMP} {a1 : Int32} {v : Int32 × tMC × tMN × tMF × tMP} (h : f_X9_copy mg mc mn mf mp a1 = some v) : MG l yX9_copy cX9_copy 4 (some .int) 8 [.ref (q 0), .int a1] D (tyL dT) (wM dT q mr mg mc mn mh mf mp) (QI D (tyL dT) (mA q) (wM dT q mr mg v.2.1 v.2.2.1 mh v.2.2.2.1 v.2.2.2.2) v.1) (mA q) := by
  refine MG.mk (by decide +kernel) (Nat.le_of_ble_eq_true rfl) ?_
  intro p e s m below meth c hx hb hr hml hown hts hlk hK hP ls hl
  have hown : s.vm.findClass RX9 = some m.cls := hown
  have hS : va_S (mA q) s.heap s.heap [] := va_S.rf
  have hl : lv_has ls 4 [(0, .ref (q 0)), (1, .int a1)] := hl
  rw [f_X9_copy] at h
  refine lv_aload_n hx hb dX9_copy_0 rfl (lv_at hl 0 rfl) ?_
  refine lv_iload_n hx hb dX9_copy_1 rfl (lv_at hl 1 rfl) ?_
  obtain ⟨v1, hv1, h⟩ := dq h
  refine cVi (As := [.int a1]) (rest := []) ⟨hx, hb, hml, hown, hts⟩ (c_X9_fewest (dT := dT) (mr := mr) (mg := mg) (mc := mc) (mn := mn) (mh := mh) (mf := mf) (mp := mp) hD hv1) (cwV 1 hts (good_V sub_z k_1020 k_1013 k_1014 k_9 k_1015) rfl rfl rfl (by decide +kernel) (by decide)) (va_recv hK hP (ci := 8) (q0 := 0) rfl rfl) hK hP hS rfl hl.1 rfl (Nat.le_of_ble_eq_true rfl) dX9_copy_2 (by decide) (fun H locs hP hS => ?_)
  refine lv_istore_n (lv' := [(2, .int v1.1), (0, .ref (q 0)), (1, .int a1)]) hx hb dX9_copy_5 rfl hl (by decide) rfl (fun ls hl => ?_)
  refine lv_iload_n hx hb dX9_copy_6 rfl (lv_at hl 0 rfl) ?_
  refine lv_if_ge (tgt := 12) hx hb dX9_copy_7 (by decide) (fun k2 => ?_) (fun k2 => ?_)
  · rw [if_pos k2] at h
    refine lv_aload_n hx hb dX9_copy_12 rfl (lv_at hl 1 rfl) ?_
    refine lv_aload_n hx hb dX9_copy_13 rfl (lv_at hl 1 rfl) ?_
    refine lv_iload_n hx hb dX9_copy_14 rfl (lv_at hl 2 rfl) ?_
    obtain ⟨v3, hv3, h⟩ := dq h
    refine cVi (As := [.int a1]) (rest := [.ref (q 0)]) ⟨hx, hb, hml, hown, hts⟩ (c_X9_findPlan (dT := dT) (mr := mr) (mg := mg) (mc := mc) (mn := v1.2.1) (mh := mh) (mf := v1.2.2) (mp := mp) hD hv3) (cwV 1 hts (good_V sub_z k_1021 k_1023 ks_38 k_9 k_1024) rfl rfl rfl (by decide +kernel) (by decide)) (va_recv hK hP (ci := 8) (q0 := 0) rfl rfl) hK hP hS rfl hl.1 rfl (Nat.le_of_ble_eq_true rfl) dX9_copy_15 (by decide) (fun H locs hP hS => ?_)
    refine va_put (D := D) (ci := 8) (v := .int v3.1) (ty := .int) (C := RX9) (T := TX9) (N := 31) hx hb hts (fun w h => sub_z _ (inX9 w h)) tyX9 tyX9_ok nmX9 hown hK hP (mD.w hD) hS 0 rfl rfl 8 (by decide) (hts _ (sub_z _ k_744)) (fun _ h => h) rfl (by decide +kernel) rfl rfl (Nat.le_of_ble_eq_true rfl) dX9_copy_18 (fun H locs hP _ hS => ?_)
    have hP : va_P D vwCl (wM dT q mr mg (mc.1, v3.1) v1.2.1 mh v1.2.2 v3.2) H := hP
    refine lv_iconst (v := 0) hx hb dX9_copy_21 (by decide) ?_
    refine lv_istore_n (lv' := [(3, .int (0 : Int32)), (2, .int v1.1), (0, .ref (q 0)), (1, .int a1)]) hx hb dX9_copy_22 rfl hl (by decide) rfl (fun ls hl => ?_)
    have hL23_7 : ∀ (n : Nat) (mc_23 : tMC) (x3_23 : Int32) (y : Int32 × tMC), f_X9_copy_23 n mc_23 v3.2 a1 v1.1 x3_23 = some y → ∀ (ls : Array Slot) (H : Heap) (locs : List Loc), lv_has ls 4 [(0, .ref (q 0)), (1, .int a1), (2, .int v1.1), (3, .int x3_23)] → va_P D vwCl (wM dT q mr mg mc_23 v1.2.1 mh v1.2.2 v3.2) H → va_S (mA q) s.heap H locs → ∀ Q : State → Prop, (∀ (ls : Array Slot) (H : Heap) (locs : List Loc), lv_has ls 4 [(0, .ref (q 0)), (1, .int a1), (2, .int v1.1), (3, .int y.1)] → va_P D vwCl (wM dT q mr mg y.2 v1.2.1 mh v1.2.2 v3.2) H → va_S (mA q) s.heap H locs → W p l e (rmD 8) s m [.ref (q 0), .int a1].toArray below meth c H locs 0 0 Q (F0 m 49 ls [])) → W p l e (rmD 8) s m [.ref (q 0), .int a1].toArray below meth c H locs 0 0 Q (F0 m 23 ls []) := by
      intro n
      induction n with
      | zero => intro mc_23 x3_23 y h; exact absurd h (by simp [f_X9_copy_23])
      | succ n ih =>
        intro mc_23 x3_23 y h ls H locs hl hP hS Q kk
        rw [f_X9_copy_23] at h
        refine lv_iload_n hx hb dX9_copy_23 rfl (lv_at hl 3 rfl) ?_
        refine lv_aload_n hx hb dX9_copy_24 rfl (lv_at hl 0 rfl) ?_
        refine va_get (D := D) (ci := 8) (v := .int mc_23.2) (C := RX9) (T := TX9) (N := 31) hx hb hts (fun w h => sub_z _ (inX9 w h)) hown hK hP 0 rfl rfl 8 (by decide) (hts _ (sub_z _ k_744)) (fun _ h => h) rfl dX9_copy_25 ?_
        refine lv_icmp_ge (tgt := 49) hx hb dX9_copy_28 (by decide) (fun k4 => ?_) (fun k4 => ?_)
        · rw [if_pos k4] at h
          obtain rfl := Option.some.inj h
          exact kk _ _ _ (lv_sub hl [0, 1, 2, 3] rfl) hP hS
        · rw [if_neg k4] at h
          refine lv_aload_n hx hb dX9_copy_31 rfl (lv_at hl 0 rfl) ?_
          refine va_get (D := D) (ci := 8) (v := .ref (q 7)) (C := RX9) (T := TX9) (N := 31) hx hb hts (fun w h => sub_z _ (inX9 w h)) hown hK hP 0 rfl rfl 7 (by decide) (hts _ (sub_z _ k_743)) (fun _ h => h) rfl dX9_copy_32 ?_
          refine lv_iload_n hx hb dX9_copy_35 rfl (lv_at hl 3 rfl) ?_
          refine lv_aload_n hx hb dX9_copy_36 rfl (lv_at hl 0 rfl) ?_
          refine va_get (D := D) (ci := 8) (v := .ref (q 22)) (C := RX9) (T := TX9) (N := 31) hx hb hts (fun w h => sub_z _ (inX9 w h)) hown hK hP 0 rfl rfl 30 (by decide) (hts _ (sub_z _ k_766)) (fun _ h => h) rfl dX9_copy_37 ?_
          refine lv_iload_n hx hb dX9_copy_40 rfl (lv_at hl 3 rfl) ?_
          obtain ⟨k5, h⟩ := dg h
          refine va_iald (f := v3.2) hx hb hK hP 22 0 rfl rfl (inb_vp k5) dX9_copy_41 ?_
          obtain ⟨k6, h⟩ := dg h
          refine va_iast (f := mc_23.1) hx hb hK hP (mD.w hD) hS 7 0 rfl rfl (inb_vp k6) dX9_copy_42 (fun H locs hP _ hS => ?_)
          have hP : va_P D vwCl (wM dT q mr mg ((upd mc_23.1 x3_23.toNatClampNeg (v3.2 x3_23.toNatClampNeg)), mc_23.2) v1.2.1 mh v1.2.2 v3.2) H := hP
          refine lv_iinc (v := (x3_23 + (1 : Int32))) (lv' := [(3, .int (x3_23 + (1 : Int32))), (0, .ref (q 0)), (1, .int a1), (2, .int v1.1)]) hx hb dX9_copy_43 hl (k := 3) rfl rfl (by decide) rfl (fun ls hl => ?_)
          refine lv_goto (tgt := 23) hx hb dX9_copy_46 (by decide) ?_
          exact ih _ _ _ h _ _ _ (lv_sub hl [1, 2, 3, 0] rfl) hP hS _ kk
    obtain ⟨y8, hy8, h⟩ := dq h
    refine hL23_7 _ _ _ _ hy8 _ _ _ (lv_sub hl [2, 3, 1, 0] rfl) hP hS _ (fun ls H locs hl hP hS => ?_)
    refine lv_aload_n hx hb dX9_copy_49 rfl (lv_at hl 0 rfl) ?_
    refine va_get (D := D) (ci := 8) (v := .int y8.2.2) (C := RX9) (T := TX9) (N := 31) hx hb hts (fun w h => sub_z _ (inX9 w h)) hown hK hP 0 rfl rfl 8 (by decide) (hts _ (sub_z _ k_744)) (fun _ h => h) rfl dX9_copy_50 ?_
    obtain rfl := Option.some.inj h
    exact rI hx hb hr hlk hK hP hS dX9_copy_53
  · rw [if_neg k2] at h
    refine lv_iload_n hx hb dX9_copy_10 rfl (lv_at hl 0 rfl) ?_
    obtain rfl := Option.some.inj h
    exact rI hx hb hr hlk hK hP hS dX9_copy_11

set_option maxRecDepth 100000 in
set_option maxHeartbeats 4000000 in
theorem c_X9_alter {l : Launch} {D : va_G} {dT : Nat → ClassId} {q : Nat → Nat} (hD : mD q) {mr : tMR} {mg : tMG} {mc : tMC} {mn : tMN} {mh : tMH} {mf : tMF} {mp : tMP} {a1 : Int32} {a2 : Int32} {v : Int32 × tMC} (h : f_X9_alter mc a1 a2 = some v) : MG l yX9_alter cX9_alter 3 (some .int) 1 [.ref (q 0), .int a1, .int a2] D (tyL dT) (wM dT q mr mg mc mn mh mf mp) (QI D (tyL dT) (mA q) (wM dT q mr mg v.2 mn mh mf mp) v.1) (mA q) := by
  refine MG.mk (by decide +kernel) (Nat.le_of_ble_eq_true rfl) ?_
  intro p e s m below meth c hx hb hr hml hown hts hlk hK hP ls hl
  have hown : s.vm.findClass RX9 = some m.cls := hown
  have hS : va_S (mA q) s.heap s.heap [] := va_S.rf
  have hl : lv_has ls 3 [(0, .ref (q 0)), (1, .int a1), (2, .int a2)] := hl
  rw [f_X9_alter] at h
  refine lv_iload_n hx hb dX9_alter_0 rfl (lv_at hl 1 rfl) ?_
  refine lv_iconst (v := 0) hx hb dX9_alter_1 (by decide) ?_
  refine lv_aload_n hx hb dX9_alter_2 rfl (lv_at hl 0 rfl) ?_
  refine va_get (D := D) (ci := 8) (v := .int mc.2) (C := RX9) (T := TX9) (N := 31) hx hb hts (fun w h => sub_z _ (inX9 w h)) hown hK hP 0 rfl rfl 8 (by decide) (hts _ (sub_z _ k_744)) (fun _ h => h) rfl dX9_alter_3 ?_
  refine lv_iconst (v := 1) hx hb dX9_alter_6 (by decide) ?_
  refine lv_isub hx hb dX9_alter_7 ?_
  obtain ⟨v1, hv1, h⟩ := dq h
  refine cSi (As := [.int a1, .int (0 : Int32), .int (mc.2 - (1 : Int32))]) (rest := []) ⟨hx, hb, hml, hown, hts⟩ (c_X9_in (dT := dT) (mr := mr) (mg := mg) (mc := mc) (mn := mn) (mh := mh) (mf := mf) (mp := mp) hD hv1) (va_cwS 3 hts (good_S sub_z k_837 k_838 k_9 k_839) rfl rfl rfl (by decide +kernel) (by decide)) hK hP hS rfl hl.1 rfl (Nat.le_of_ble_eq_true rfl) dX9_alter_8 (by decide) (fun H locs hP hS => ?_)
  refine lv_if_eq (tgt := 25) hx hb dX9_alter_11 (by decide) (fun k2 => ?_) (fun k2 => ?_)
  · rw [if_pos k2] at h
    refine lv_iconst (v := -1) hx hb dX9_alter_25 (by decide) ?_
    obtain rfl := Option.some.inj h
    exact rI hx hb hr hlk hK hP hS dX9_alter_26
  · rw [if_neg k2] at h
    refine lv_iload_n hx hb dX9_alter_14 rfl (lv_at hl 2 rfl) ?_
    refine lv_iconst (v := 0) hx hb dX9_alter_15 (by decide) ?_
    refine lv_sipush (v := 255) hx hb dX9_alter_16 (by decide) ?_
    obtain ⟨v3, hv3, h⟩ := dq h
    refine cSi (As := [.int a2, .int (0 : Int32), .int (255 : Int32)]) (rest := []) ⟨hx, hb, hml, hown, hts⟩ (c_X9_in (dT := dT) (mr := mr) (mg := mg) (mc := mc) (mn := mn) (mh := mh) (mf := mf) (mp := mp) hD hv3) (va_cwS 3 hts (good_S sub_z k_837 k_838 k_9 k_839) rfl rfl rfl (by decide +kernel) (by decide)) hK hP hS rfl hl.1 rfl (Nat.le_of_ble_eq_true rfl) dX9_alter_19 (by decide) (fun H locs hP hS => ?_)
    refine lv_if_ne (tgt := 27) hx hb dX9_alter_22 (by decide) (fun k4 => ?_) (fun k4 => ?_)
    · rw [if_neg k4] at h
      refine lv_aload_n hx hb dX9_alter_27 rfl (lv_at hl 0 rfl) ?_
      refine va_get (D := D) (ci := 8) (v := .ref (q 7)) (C := RX9) (T := TX9) (N := 31) hx hb hts (fun w h => sub_z _ (inX9 w h)) hown hK hP 0 rfl rfl 7 (by decide) (hts _ (sub_z _ k_743)) (fun _ h => h) rfl dX9_alter_28 ?_
      refine lv_iload_n hx hb dX9_alter_31 rfl (lv_at hl 1 rfl) ?_
      refine lv_iload_n hx hb dX9_alter_32 rfl (lv_at hl 2 rfl) ?_
      obtain ⟨k5, h⟩ := dg h
      refine va_iast (f := mc.1) hx hb hK hP (mD.w hD) hS 7 0 rfl rfl (inb_vp k5) dX9_alter_33 (fun H locs hP _ hS => ?_)
      have hP : va_P D vwCl (wM dT q mr mg ((upd mc.1 a1.toNatClampNeg a2), mc.2) mn mh mf mp) H := hP
      refine lv_iconst (v := 1) hx hb dX9_alter_34 (by decide) ?_
      obtain rfl := Option.some.inj h
      exact rI hx hb hr hlk hK hP hS dX9_alter_35
    · rw [if_pos k4] at h
      refine lv_iconst (v := -1) hx hb dX9_alter_25 (by decide) ?_
      obtain rfl := Option.some.inj h
      exact rI hx hb hr hlk hK hP hS dX9_alter_26

set_option maxRecDepth 100000 in
set_option maxHeartbeats 4000000 in
theorem c_X9_unclaim {l : Launch} {D : va_G} {dT : Nat → ClassId} {q : Nat → Nat} (hD : mD q) {mr : tMR} {mg : tMG} {mc : tMC} {mn : tMN} {mh : tMH} {mf : tMF} {mp : tMP}  {v : Int32 × tMC} (h : f_X9_unclaim mc = some v) : MG l yX9_unclaim cX9_unclaim 2 (some .int) 0 [.ref (q 0)] D (tyL dT) (wM dT q mr mg mc mn mh mf mp) (QI D (tyL dT) (mA q) (wM dT q mr mg v.2 mn mh mf mp) v.1) (mA q) := by
  refine MG.mk (by decide +kernel) (Nat.le_of_ble_eq_true rfl) ?_
  intro p e s m below meth c hx hb hr hml hown hts hlk hK hP ls hl
  have hown : s.vm.findClass RX9 = some m.cls := hown
  have hS : va_S (mA q) s.heap s.heap [] := va_S.rf
  have hl : lv_has ls 2 [(0, .ref (q 0))] := hl
  rw [f_X9_unclaim] at h
  refine lv_aload_n hx hb dX9_unclaim_0 rfl (lv_at hl 0 rfl) ?_
  refine va_get (D := D) (ci := 8) (v := .int mc.2) (C := RX9) (T := TX9) (N := 31) hx hb hts (fun w h => sub_z _ (inX9 w h)) hown hK hP 0 rfl rfl 8 (by decide) (hts _ (sub_z _ k_744)) (fun _ h => h) rfl dX9_unclaim_1 ?_
  refine lv_istore_n (lv' := [(1, .int mc.2), (0, .ref (q 0))]) hx hb dX9_unclaim_4 rfl hl (by decide) rfl (fun ls hl => ?_)
  refine lv_aload_n hx hb dX9_unclaim_5 rfl (lv_at hl 1 rfl) ?_
  refine lv_iconst (v := 0) hx hb dX9_unclaim_6 (by decide) ?_
  refine va_put (D := D) (ci := 8) (v := .int (0 : Int32)) (ty := .int) (C := RX9) (T := TX9) (N := 31) hx hb hts (fun w h => sub_z _ (inX9 w h)) tyX9 tyX9_ok nmX9 hown hK hP (mD.w hD) hS 0 rfl rfl 8 (by decide) (hts _ (sub_z _ k_744)) (fun _ h => h) rfl (by decide +kernel) rfl rfl (Nat.le_of_ble_eq_true rfl) dX9_unclaim_7 (fun H locs hP _ hS => ?_)
  have hP : va_P D vwCl (wM dT q mr mg (mc.1, (0 : Int32)) mn mh mf mp) H := hP
  refine lv_iload_n hx hb dX9_unclaim_10 rfl (lv_at hl 0 rfl) ?_
  obtain rfl := Option.some.inj h
  exact rI hx hb hr hlk hK hP hS dX9_unclaim_11

set_option maxRecDepth 100000 in
set_option maxHeartbeats 4000000 in
theorem c_X9_check {l : Launch} {D : va_G} {dT : Nat → ClassId} {q : Nat → Nat} (hD : mD q) {mr : tMR} {mg : tMG} {mc : tMC} {mn : tMN} {mh : tMH} {mf : tMF} {mp : tMP}  {v : Int32 × tMN} (h : f_X9_check mg mc mn = some v) : MG l yX9_check cX9_check 4 (some .int) 4 [.ref (q 0)] D (tyL dT) (wM dT q mr mg mc mn mh mf mp) (QI D (tyL dT) (mA q) (wM dT q mr mg mc v.2 mh mf mp) v.1) (mA q) := by
  refine MG.mk (by decide +kernel) (Nat.le_of_ble_eq_true rfl) ?_
  intro p e s m below meth c hx hb hr hml hown hts hlk hK hP ls hl
  have hown : s.vm.findClass RX9 = some m.cls := hown
  have hS : va_S (mA q) s.heap s.heap [] := va_S.rf
  have hl : lv_has ls 4 [(0, .ref (q 0))] := hl
  rw [f_X9_check] at h
  refine lv_iconst (v := 0) hx hb dX9_check_0 (by decide) ?_
  refine lv_istore_n (lv' := [(1, .int (0 : Int32)), (0, .ref (q 0))]) hx hb dX9_check_1 rfl hl (by decide) rfl (fun ls hl => ?_)
  refine lv_aload_n hx hb dX9_check_2 rfl (lv_at hl 1 rfl) ?_
  refine lv_lconst (v := 0) hx hb dX9_check_3 (by decide) ?_
  obtain ⟨v1, hv1, h⟩ := dq h
  refine cVv (As := [.long (0 : Int64)]) (rest := []) ⟨hx, hb, hml, hown, hts⟩ (c_X9_open (dT := dT) (mr := mr) (mg := mg) (mc := mc) (mn := mn) (mh := mh) (mf := mf) (mp := mp) hD hv1) (cwV 1 hts (good_V sub_z k_901 k_903 ks_22 k_9 k_904) rfl rfl rfl (by decide +kernel) (by decide)) (va_recv hK hP (ci := 8) (q0 := 0) rfl rfl) hK hP hS rfl hl.1 rfl (Nat.le_of_ble_eq_true rfl) dX9_check_4 (by decide) (fun H locs hP hS => ?_)
  refine lv_iconst (v := 0) hx hb dX9_check_7 (by decide) ?_
  refine lv_istore_n (lv' := [(2, .int (0 : Int32)), (1, .int (0 : Int32)), (0, .ref (q 0))]) hx hb dX9_check_8 rfl hl (by decide) rfl (fun ls hl => ?_)
  have hL9_10 : ∀ (n : Nat) (mn_9 : tMN) (x1_9 : Int32) (x2_9 : Int32), f_X9_check_9 n mg mc mn_9 x1_9 x2_9 = some v → ∀ (ls : Array Slot) (H : Heap) (locs : List Loc), lv_has ls 4 [(0, .ref (q 0)), (1, .int x1_9), (2, .int x2_9)] → va_P D vwCl (wM dT q mr mg mc mn_9 mh mf mp) H → va_S (mA q) s.heap H locs → W p l e (rmD 4) s m [.ref (q 0)].toArray below meth c H locs 0 0 (MQ below (QI D (tyL dT) (mA q) (wM dT q mr mg mc v.2 mh mf mp) v.1) [.ref (q 0)].toArray s 0 0 (mA q)) (F0 m 9 ls []) := by
    intro n
    induction n with
    | zero => intro mn_9 x1_9 x2_9 h; exact absurd h (by simp [f_X9_check_9])
    | succ n ih =>
      intro mn_9 x1_9 x2_9 h ls H locs hl hP hS
      rw [f_X9_check_9] at h
      refine lv_iload_n hx hb dX9_check_9 rfl (lv_at hl 2 rfl) ?_
      refine lv_aload_n hx hb dX9_check_10 rfl (lv_at hl 0 rfl) ?_
      refine va_get (D := D) (ci := 8) (v := .int mc.2) (C := RX9) (T := TX9) (N := 31) hx hb hts (fun w h => sub_z _ (inX9 w h)) hown hK hP 0 rfl rfl 8 (by decide) (hts _ (sub_z _ k_744)) (fun _ h => h) rfl dX9_check_11 ?_
      refine lv_icmp_ge (tgt := 69) hx hb dX9_check_14 (by decide) (fun k2 => ?_) (fun k2 => ?_)
      · rw [if_pos k2] at h
        refine lv_iload_n hx hb dX9_check_69 rfl (lv_at hl 1 rfl) ?_
        obtain rfl := Option.some.inj h
        exact rI hx hb hr hlk hK hP hS dX9_check_70
      · rw [if_neg k2] at h
        refine lv_aload_n hx hb dX9_check_17 rfl (lv_at hl 0 rfl) ?_
        refine lv_aload_n hx hb dX9_check_18 rfl (lv_at hl 0 rfl) ?_
        refine va_get (D := D) (ci := 8) (v := .ref (q 7)) (C := RX9) (T := TX9) (N := 31) hx hb hts (fun w h => sub_z _ (inX9 w h)) hown hK hP 0 rfl rfl 7 (by decide) (hts _ (sub_z _ k_743)) (fun _ h => h) rfl dX9_check_19 ?_
        refine lv_iload_n hx hb dX9_check_22 rfl (lv_at hl 2 rfl) ?_
        obtain ⟨k3, h⟩ := dg h
        refine va_iald (f := mc.1) hx hb hK hP 7 0 rfl rfl (inb_vp k3) dX9_check_23 ?_
        obtain ⟨v4, hv4, h⟩ := dq h
        refine cVi (As := [.int (mc.1 x2_9.toNatClampNeg)]) (rest := []) ⟨hx, hb, hml, hown, hts⟩ (c_X9_isAllowed (dT := dT) (mr := mr) (mg := mg) (mc := mc) (mn := mn_9) (mh := mh) (mf := mf) (mp := mp) hD hv4) (cwV 1 hts (good_V sub_z k_905 k_907 ks_23 k_9 k_908) rfl rfl rfl (by decide +kernel) (by decide)) (va_recv hK hP (ci := 8) (q0 := 0) rfl rfl) hK hP hS rfl hl.1 rfl (Nat.le_of_ble_eq_true rfl) dX9_check_24 (by decide) (fun H locs hP hS => ?_)
        refine lv_if_ne (tgt := 35) hx hb dX9_check_27 (by decide) (fun k5 => ?_) (fun k5 => ?_)
        · rw [if_neg k5] at h
          refine lv_aload_n hx hb dX9_check_35 rfl (lv_at hl 0 rfl) ?_
          refine lv_aload_n hx hb dX9_check_36 rfl (lv_at hl 0 rfl) ?_
          refine va_get (D := D) (ci := 8) (v := .ref (q 7)) (C := RX9) (T := TX9) (N := 31) hx hb hts (fun w h => sub_z _ (inX9 w h)) hown hK hP 0 rfl rfl 7 (by decide) (hts _ (sub_z _ k_743)) (fun _ h => h) rfl dX9_check_37 ?_
          refine lv_iload_n hx hb dX9_check_40 rfl (lv_at hl 2 rfl) ?_
          obtain ⟨k6, h⟩ := dg h
          refine va_iald (f := mc.1) hx hb hK hP 7 0 rfl rfl (inb_vp k6) dX9_check_41 ?_
          obtain ⟨v7, hv7, h⟩ := dq h
          refine cVv (As := [.int (mc.1 x2_9.toNatClampNeg)]) (rest := []) ⟨hx, hb, hml, hown, hts⟩ (c_X9_handle (dT := dT) (mr := mr) (mg := mg) (mc := mc) (mn := mn_9) (mh := mh) (mf := mf) (mp := mp) hD hv7) (cwV 1 hts (good_V sub_z k_928 k_930 ks_27 k_9 k_931) rfl rfl rfl (by decide +kernel) (by decide)) (va_recv hK hP (ci := 8) (q0 := 0) rfl rfl) hK hP hS rfl hl.1 rfl (Nat.le_of_ble_eq_true rfl) dX9_check_42 (by decide) (fun H locs hP hS => ?_)
          refine lv_aload_n hx hb dX9_check_45 rfl (lv_at hl 0 rfl) ?_
          obtain ⟨v8, hv8, h⟩ := dq h
          refine cVi (As := []) (rest := []) ⟨hx, hb, hml, hown, hts⟩ (c_X9_goOn (dT := dT) (mr := mr) (mg := mg) (mc := mc) (mn := v7) (mh := mh) (mf := mf) (mp := mp) hD hv8) (cwV 0 hts (good_V sub_z k_943 k_945 ks_29 k_9 k_946) rfl rfl rfl (by decide +kernel) (by decide)) (va_recv hK hP (ci := 8) (q0 := 0) rfl rfl) hK hP hS rfl hl.1 rfl (Nat.le_of_ble_eq_true rfl) dX9_check_46 (by decide) (fun H locs hP hS => ?_)
          refine lv_istore_n (lv' := [(3, .int v8.1), (0, .ref (q 0)), (1, .int x1_9), (2, .int x2_9)]) hx hb dX9_check_49 rfl hl (by decide) rfl (fun ls hl => ?_)
          refine lv_iload_n hx hb dX9_check_50 rfl (lv_at hl 0 rfl) ?_
          refine lv_if_ne (tgt := 59) hx hb dX9_check_51 (by decide) (fun k9 => ?_) (fun k9 => ?_)
          · rw [if_neg k9] at h
            refine lv_iload_n hx hb dX9_check_59 rfl (lv_at hl 2 rfl) ?_
            refine lv_iload_n hx hb dX9_check_60 rfl (lv_at hl 0 rfl) ?_
            refine lv_iadd hx hb dX9_check_61 ?_
            refine lv_istore_n (lv' := [(1, .int (x1_9 + v8.1)), (3, .int v8.1), (0, .ref (q 0)), (2, .int x2_9)]) hx hb dX9_check_62 rfl hl (by decide) rfl (fun ls hl => ?_)
            refine lv_iinc (v := (x2_9 + (1 : Int32))) (lv' := [(2, .int (x2_9 + (1 : Int32))), (1, .int (x1_9 + v8.1)), (3, .int v8.1), (0, .ref (q 0))]) hx hb dX9_check_63 hl (k := 3) rfl rfl (by decide) rfl (fun ls hl => ?_)
            refine lv_goto (tgt := 9) hx hb dX9_check_66 (by decide) ?_
            exact ih _ _ _ h _ _ _ (lv_sub hl [3, 1, 0] rfl) hP hS
          · rw [if_pos k9] at h
            refine lv_bipush (v := -2) hx hb dX9_check_54 (by decide) ?_
            refine lv_iload_n hx hb dX9_check_56 rfl (lv_at hl 3 rfl) ?_
            refine lv_isub hx hb dX9_check_57 ?_
            obtain rfl := Option.some.inj h
            exact rI hx hb hr hlk hK hP hS dX9_check_58
        · rw [if_pos k5] at h
          refine lv_bipush (v := -2) hx hb dX9_check_30 (by decide) ?_
          refine lv_iload_n hx hb dX9_check_32 rfl (lv_at hl 2 rfl) ?_
          refine lv_isub hx hb dX9_check_33 ?_
          obtain rfl := Option.some.inj h
          exact rI hx hb hr hlk hK hP hS dX9_check_34
  exact hL9_10 _ _ _ _ h _ _ _ (lv_sub hl [2, 1, 0] rfl) hP hS
