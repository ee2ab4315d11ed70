set_option maxRecDepth 100000 in
set_option maxHeartbeats 4000000 in
theorem c_X1_add {l : Launch} {D : va_G} {dT : Nat → ClassId} {q : Nat → Nat} (hD : xD q) {rs : (Nat → tRow)} {g : tG_} {bh : tBH} {c1 : tC} {c2 : tC} {re : tRE} {pl : tPL} {cl : tCL} {a1 : Int32} {v : tCL} (h : f_X1_add cl a1 = some v) : MG l yX1_add cX1_add 2 none 0 [.ref (q 39), .int a1] D (tyL dT) (wX dT q rs g bh c1 c2 re pl cl) (QV D (tyL dT) (xA q) (wX dT q rs g bh c1 c2 re pl v)) (xA q) := by
  refine MG.mk (by decide +kernel) (Nat.le_of_ble_eq_true rfl) ?_
  intro p e s m below meth c hx hb hr hml hown hts hlk hK hP ls hl
  have hown : s.vm.findClass RX1 = some m.cls := hown
  have hS : va_S (xA q) s.heap s.heap [] := va_S.rf
  have hl : lv_has ls 2 [(0, .ref (q 39)), (1, .int a1)] := hl
  rw [f_X1_add] at h
  refine lv_aload_n hx hb dX1_add_0 rfl (lv_at hl 0 rfl) ?_
  refine va_get (D := D) (ci := 1) (v := .int cl.2) (C := RX1) (T := TX1) (N := 2) hx hb hts (fun w h => sub_z _ (inX1 w h)) hown hK hP 39 rfl rfl 1 (by decide) (hts _ (sub_z _ k_206)) (fun _ h => h) rfl dX1_add_1 ?_
  refine lv_bipush (v := 60) hx hb dX1_add_4 (by decide) ?_
  refine lv_icmp_ge (tgt := 29) hx hb dX1_add_6 (by decide) (fun k1 => ?_) (fun k1 => ?_)
  · rw [if_pos k1] at h
    obtain rfl := Option.some.inj h
    exact rV hx hb hr hlk hK hP hS dX1_add_29
  · rw [if_neg k1] at h
    refine lv_aload_n hx hb dX1_add_9 rfl (lv_at hl 0 rfl) ?_
    refine va_get (D := D) (ci := 1) (v := .ref (q 40)) (C := RX1) (T := TX1) (N := 2) hx hb hts (fun w h => sub_z _ (inX1 w h)) hown hK hP 39 rfl rfl 0 (by decide) (hts _ (sub_z _ k_205)) (fun _ h => h) rfl dX1_add_10 ?_
    refine lv_aload_n hx hb dX1_add_13 rfl (lv_at hl 0 rfl) ?_
    refine va_get (D := D) (ci := 1) (v := .int cl.2) (C := RX1) (T := TX1) (N := 2) hx hb hts (fun w h => sub_z _ (inX1 w h)) hown hK hP 39 rfl rfl 1 (by decide) (hts _ (sub_z _ k_206)) (fun _ h => h) rfl dX1_add_14 ?_
    refine lv_iload_n hx hb dX1_add_17 rfl (lv_at hl 1 rfl) ?_
    obtain ⟨k2, h⟩ := dg h
    refine va_iast (f := cl.1) hx hb hK hP (xD.w hD) hS 40 0 rfl rfl (inb_vp k2) dX1_add_18 (fun H locs hP _ hS => ?_)
    have hP : va_P D vwCl (wX dT q rs g bh c1 c2 re pl ((upd cl.1 cl.2.toNatClampNeg a1), cl.2)) H := hP
    refine lv_aload_n hx hb dX1_add_19 rfl (lv_at hl 0 rfl) ?_
    refine lv_dup hx hb dX1_add_20 rfl ?_
    refine va_get (D := D) (ci := 1) (v := .int cl.2) (C := RX1) (T := TX1) (N := 2) hx hb hts (fun w h => sub_z _ (inX1 w h)) hown hK hP 39 rfl rfl 1 (by decide) (hts _ (sub_z _ k_206)) (fun _ h => h) rfl dX1_add_21 ?_
    refine lv_iconst (v := 1) hx hb dX1_add_24 (by decide) ?_
    refine lv_iadd hx hb dX1_add_25 ?_
    refine va_put (D := D) (ci := 1) (v := .int (cl.2 + (1 : Int32))) (ty := .int) (C := RX1) (T := TX1) (N := 2) hx hb hts (fun w h => sub_z _ (inX1 w h)) tyX1 tyX1_ok nmX1 hown hK hP (xD.w hD) hS 39 rfl rfl 1 (by decide) (hts _ (sub_z _ k_206)) (fun _ h => h) rfl (by decide +kernel) rfl rfl (Nat.le_of_ble_eq_true rfl) dX1_add_26 (fun H locs hP _ hS => ?_)
    have hP : va_P D vwCl (wX dT q rs g bh c1 c2 re pl ((upd cl.1 cl.2.toNatClampNeg a1), (cl.2 + (1 : Int32)))) H := hP
    obtain rfl := Option.some.inj h
    exact rV hx hb hr hlk hK hP hS dX1_add_29

set_option maxRecDepth 100000 in
set_option maxHeartbeats 4000000 in
theorem c_X1_change {l : Launch} {D : va_G} {dT : Nat → ClassId} {q : Nat → Nat} (hD : xD q) {rs : (Nat → tRow)} {g : tG_} {bh : tBH} {c1 : tC} {c2 : tC} {re : tRE} {pl : tPL} {cl : tCL} {a1 : Int32} {a2 : Int32} {v : tCL} (h : f_X1_change cl a1 a2 = some v) : MG l yX1_change cX1_change 3 none 0 [.ref (q 39), .int a1, .int a2] D (tyL dT) (wX dT q rs g bh c1 c2 re pl cl) (QV D (tyL dT) (xA q) (wX dT q rs g bh c1 c2 re pl v)) (xA q) := by
  refine MG.mk (by decide +kernel) (Nat.le_of_ble_eq_true rfl) ?_
  intro p e s m below meth c hx hb hr hml hown hts hlk hK hP ls hl
  have hown : s.vm.findClass RX1 = some m.cls := hown
  have hS : va_S (xA q) s.heap s.heap [] := va_S.rf
  have hl : lv_has ls 3 [(0, .ref (q 39)), (1, .int a1), (2, .int a2)] := hl
  rw [f_X1_change] at h
  refine lv_aload_n hx hb dX1_change_0 rfl (lv_at hl 0 rfl) ?_
  refine va_get (D := D) (ci := 1) (v := .ref (q 40)) (C := RX1) (T := TX1) (N := 2) hx hb hts (fun w h => sub_z _ (inX1 w h)) hown hK hP 39 rfl rfl 0 (by decide) (hts _ (sub_z _ k_205)) (fun _ h => h) rfl dX1_change_1 ?_
  refine lv_iload_n hx hb dX1_change_4 rfl (lv_at hl 1 rfl) ?_
  refine lv_iload_n hx hb dX1_change_5 rfl (lv_at hl 2 rfl) ?_
  obtain ⟨k1, h⟩ := dg h
  refine va_iast (f := cl.1) hx hb hK hP (xD.w hD) hS 40 0 rfl rfl (inb_vp k1) dX1_change_6 (fun H locs hP _ hS => ?_)
  have hP : va_P D vwCl (wX dT q rs g bh c1 c2 re pl ((upd cl.1 a1.toNatClampNeg a2), cl.2)) H := hP
  obtain rfl := Option.some.inj h
  exact rV hx hb hr hlk hK hP hS dX1_change_7

set_option maxRecDepth 100000 in
set_option maxHeartbeats 4000000 in
theorem c_X1_removeAll {l : Launch} {D : va_G} {dT : Nat → ClassId} {q : Nat → Nat} (hD : xD q) {rs : (Nat → tRow)} {g : tG_} {bh : tBH} {c1 : tC} {c2 : tC} {re : tRE} {pl : tPL} {cl : tCL}  {v : tCL} (h : f_X1_removeAll cl = some v) : MG l yX1_removeAll cX1_removeAll 1 none 0 [.ref (q 39)] D (tyL dT) (wX dT q rs g bh c1 c2 re pl cl) (QV D (tyL dT) (xA q) (wX dT q rs g bh c1 c2 re pl v)) (xA q) := by
  refine MG.mk (by decide +kernel) (Nat.le_of_ble_eq_true rfl) ?_
  intro p e s m below meth c hx hb hr hml hown hts hlk hK hP ls hl
  have hown : s.vm.findClass RX1 = some m.cls := hown
  have hS : va_S (xA q) s.heap s.heap [] := va_S.rf
  have hl : lv_has ls 1 [(0, .ref (q 39))] := hl
  rw [f_X1_removeAll] at h
  refine lv_aload_n hx hb dX1_removeAll_0 rfl (lv_at hl 0 rfl) ?_
  refine lv_iconst (v := 0) hx hb dX1_removeAll_1 (by decide) ?_
  refine va_put (D := D) (ci := 1) (v := .int (0 : Int32)) (ty := .int) (C := RX1) (T := TX1) (N := 2) hx hb hts (fun w h => sub_z _ (inX1 w h)) tyX1 tyX1_ok nmX1 hown hK hP (xD.w hD) hS 39 rfl rfl 1 (by decide) (hts _ (sub_z _ k_206)) (fun _ h => h) rfl (by decide +kernel) rfl rfl (Nat.le_of_ble_eq_true rfl) dX1_removeAll_2 (fun H locs hP _ hS => ?_)
  have hP : va_P D vwCl (wX dT q rs g bh c1 c2 re pl (cl.1, (0 : Int32))) H := hP
  obtain rfl := Option.some.inj h
  exact rV hx hb hr hlk hK hP hS dX1_removeAll_5

set_option maxRecDepth 100000 in
set_option maxHeartbeats 4000000 in
theorem c_X1_isFull {l : Launch} {D : va_G} {dT : Nat → ClassId} {q : Nat → Nat} (hD : xD q) {rs : (Nat → tRow)} {g : tG_} {bh : tBH} {c1 : tC} {c2 : tC} {re : tRE} {pl : tPL} {cl : tCL}  {v : Int32} (h : f_X1_isFull cl = some v) : MG l yX1_isFull cX1_isFull 1 (some .boolean) 0 [.ref (q 39)] D (tyL dT) (wX dT q rs g bh c1 c2 re pl cl) (QI D (tyL dT) (xA q) (wX dT q rs g bh c1 c2 re pl cl) v) (xA q) := by
  refine MG.mk (by decide +kernel) (Nat.le_of_ble_eq_true rfl) ?_
  intro p e s m below meth c hx hb hr hml hown hts hlk hK hP ls hl
  have hown : s.vm.findClass RX1 = some m.cls := hown
  have hS : va_S (xA q) s.heap s.heap [] := va_S.rf
  have hl : lv_has ls 1 [(0, .ref (q 39))] := hl
  rw [f_X1_isFull] at h
  refine lv_aload_n hx hb dX1_isFull_0 rfl (lv_at hl 0 rfl) ?_
  refine va_get (D := D) (ci := 1) (v := .int cl.2) (C := RX1) (T := TX1) (N := 2) hx hb hts (fun w h => sub_z _ (inX1 w h)) hown hK hP 39 rfl rfl 1 (by decide) (hts _ (sub_z _ k_206)) (fun _ h => h) rfl dX1_isFull_1 ?_
  refine lv_bipush (v := 60) hx hb dX1_isFull_4 (by decide) ?_
  refine lv_icmp_lt (tgt := 13) hx hb dX1_isFull_6 (by decide) (fun k1 => ?_) (fun k1 => ?_)
  · rw [if_pos k1] at h
    refine lv_iconst (v := 0) hx hb dX1_isFull_13 (by decide) ?_
    obtain rfl := Option.some.inj h
    exact rZ (v := (0 : Int32)) hx hb hr hlk rfl hK hP hS dX1_isFull_14
  · rw [if_neg k1] at h
    refine lv_iconst (v := 1) hx hb dX1_isFull_9 (by decide) ?_
    refine lv_goto (tgt := 14) hx hb dX1_isFull_10 (by decide) ?_
    obtain rfl := Option.some.inj h
    exact rZ (v := (1 : Int32)) hx hb hr hlk rfl hK hP hS dX1_isFull_14

set_option maxRecDepth 100000 in
set_option maxHeartbeats 4000000 in
theorem c_X1_has {l : Launch} {D : va_G} {dT : Nat → ClassId} {q : Nat → Nat} (hD : xD q) {rs : (Nat → tRow)} {g : tG_} {bh : tBH} {c1 : tC} {c2 : tC} {re : tRE} {pl : tPL} {cl : tCL} {a1 : Int32} {v : Int32} (h : f_X1_has cl a1 = some v) : MG l yX1_has cX1_has 2 (some .boolean) 0 [.ref (q 39), .int a1] D (tyL dT) (wX dT q rs g bh c1 c2 re pl cl) (QI D (tyL dT) (xA q) (wX dT q rs g bh c1 c2 re pl cl) v) (xA q) := by
  refine MG.mk (by decide +kernel) (Nat.le_of_ble_eq_true rfl) ?_
  intro p e s m below meth c hx hb hr hml hown hts hlk hK hP ls hl
  have hown : s.vm.findClass RX1 = some m.cls := hown
  have hS : va_S (xA q) s.heap s.heap [] := va_S.rf
  have hl : lv_has ls 2 [(0, .ref (q 39)), (1, .int a1)] := hl
  rw [f_X1_has] at h
  refine lv_iload_n hx hb dX1_has_0 rfl (lv_at hl 1 rfl) ?_
  refine lv_if_lt (tgt := 16) hx hb dX1_has_1 (by decide) (fun k1 => ?_) (fun k1 => ?_)
  · rw [if_pos k1] at h
    refine lv_iconst (v := 0) hx hb dX1_has_16 (by decide) ?_
    obtain rfl := Option.some.inj h
    exact rZ (v := (0 : Int32)) hx hb hr hlk rfl hK hP hS dX1_has_17
  · rw [if_neg k1] at h
    refine lv_iload_n hx hb dX1_has_4 rfl (lv_at hl 1 rfl) ?_
    refine lv_aload_n hx hb dX1_has_5 rfl (lv_at hl 0 rfl) ?_
    refine va_get (D := D) (ci := 1) (v := .int cl.2) (C := RX1) (T := TX1) (N := 2) hx hb hts (fun w h => sub_z _ (inX1 w h)) hown hK hP 39 rfl rfl 1 (by decide) (hts _ (sub_z _ k_206)) (fun _ h => h) rfl dX1_has_6 ?_
    refine lv_icmp_ge (tgt := 16) hx hb dX1_has_9 (by decide) (fun k2 => ?_) (fun k2 => ?_)
    · rw [if_pos k2] at h
      refine lv_iconst (v := 0) hx hb dX1_has_16 (by decide) ?_
      obtain rfl := Option.some.inj h
      exact rZ (v := (0 : Int32)) hx hb hr hlk rfl hK hP hS dX1_has_17
    · rw [if_neg k2] at h
      refine lv_iconst (v := 1) hx hb dX1_has_12 (by decide) ?_
      refine lv_goto (tgt := 17) hx hb dX1_has_13 (by decide) ?_
      obtain rfl := Option.some.inj h
      exact rZ (v := (1 : Int32)) hx hb hr hlk rfl hK hP hS dX1_has_17

set_option maxRecDepth 100000 in
set_option maxHeartbeats 4000000 in
theorem c_X1_count {l : Launch} {D : va_G} {dT : Nat → ClassId} {q : Nat → Nat} (hD : xD q) {rs : (Nat → tRow)} {g : tG_} {bh : tBH} {c1 : tC} {c2 : tC} {re : tRE} {pl : tPL} {cl : tCL}  {v : Int32} (h : f_X1_count cl = some v) : MG l yX1_count cX1_count 1 (some .int) 0 [.ref (q 39)] D (tyL dT) (wX dT q rs g bh c1 c2 re pl cl) (QI D (tyL dT) (xA q) (wX dT q rs g bh c1 c2 re pl cl) v) (xA q) := by
  refine MG.mk (by decide +kernel) (Nat.le_of_ble_eq_true rfl) ?_
  intro p e s m below meth c hx hb hr hml hown hts hlk hK hP ls hl
  have hown : s.vm.findClass RX1 = some m.cls := hown
  have hS : va_S (xA q) s.heap s.heap [] := va_S.rf
  have hl : lv_has ls 1 [(0, .ref (q 39))] := hl
  rw [f_X1_count] at h
  refine lv_aload_n hx hb dX1_count_0 rfl (lv_at hl 0 rfl) ?_
  refine va_get (D := D) (ci := 1) (v := .int cl.2) (C := RX1) (T := TX1) (N := 2) hx hb hts (fun w h => sub_z _ (inX1 w h)) hown hK hP 39 rfl rfl 1 (by decide) (hts _ (sub_z _ k_206)) (fun _ h => h) rfl dX1_count_1 ?_
  obtain rfl := Option.some.inj h
  exact rI hx hb hr hlk hK hP hS dX1_count_4

set_option maxRecDepth 100000 in
set_option maxHeartbeats 4000000 in
theorem c_X1_goThrough {l : Launch} {D : va_G} {dT : Nat → ClassId} {q : Nat → Nat} (hD : xD q) {rs : (Nat → tRow)} {g : tG_} {bh : tBH} {c1 : tC} {c2 : tC} {re : tRE} {pl : tPL} {cl : tCL}  {v : Int32 × tC} (h : f_X1_goThrough g c2 cl = some v) : MG l yX1_goThrough cX1_goThrough 5 (some .int) 3 [.ref (q 39), .ref (q 23)] D (tyL dT) (wX dT q rs g bh c1 c2 re pl cl) (QI D (tyL dT) (xA q) (wX dT q rs g bh c1 v.2 re pl cl) v.1) (xA q) := by
  refine MG.mk (by decide +kernel) (Nat.le_of_ble_eq_true rfl) ?_
  intro p e s m below meth c hx hb hr hml hown hts hlk hK hP ls hl
  have hown : s.vm.findClass RX1 = some m.cls := hown
  have hS : va_S (xA q) s.heap s.heap [] := va_S.rf
  have hl : lv_has ls 5 [(0, .ref (q 39)), (1, .ref (q 23))] := hl
  rw [f_X1_goThrough] at h
  refine lv_iconst (v := 0) hx hb dX1_goThrough_0 (by decide) ?_
  refine lv_istore_n (lv' := [(2, .int (0 : Int32)), (0, .ref (q 39)), (1, .ref (q 23))]) hx hb dX1_goThrough_1 rfl hl (by decide) rfl (fun ls hl => ?_)
  refine lv_aload_n hx hb dX1_goThrough_2 rfl (lv_at hl 2 rfl) ?_
  refine lv_lconst (v := 0) hx hb dX1_goThrough_3 (by decide) ?_
  obtain ⟨v1, hv1, h⟩ := dq h
  refine cVv (As := [.long (0 : Int64)]) (rest := []) ⟨hx, hb, hml, hown, hts⟩ (c_X2_take_2 (dT := dT) (rs := rs) (g := g) (bh := bh) (c1 := c1) (c2 := c2) (re := re) (pl := pl) (cl := cl) hD hv1) (cwV 1 hts (good_V sub_z k_719 k_317 k_318 k_5 k_319) rfl rfl rfl (by decide +kernel) (by decide)) (va_recv hK hP (ci := 2) (q0 := 23) rfl rfl) hK hP hS rfl hl.1 rfl (Nat.le_of_ble_eq_true rfl) dX1_goThrough_4 (by decide) (fun H locs hP hS => ?_)
  refine lv_iconst (v := 0) hx hb dX1_goThrough_7 (by decide) ?_
  refine lv_istore_n (lv' := [(3, .int (0 : Int32)), (2, .int (0 : Int32)), (0, .ref (q 39)), (1, .ref (q 23))]) hx hb dX1_goThrough_8 rfl hl (by decide) rfl (fun ls hl => ?_)
  have hL9_11 : ∀ (n : Nat) (c2_9 : tC) (x2_9 : Int32) (x3_9 : Int32), f_X1_goThrough_9 n g c2_9 cl x2_9 x3_9 = some v → ∀ (ls : Array Slot) (H : Heap) (locs : List Loc), lv_has ls 5 [(0, .ref (q 39)), (1, .ref (q 23)), (2, .int x2_9), (3, .int x3_9)] → va_P D vwCl (wX dT q rs g bh c1 c2_9 re pl cl) H → va_S (xA q) s.heap H locs → W p l e (rmD 3) s m [.ref (q 39), .ref (q 23)].toArray below meth c H locs 0 0 (MQ below (QI D (tyL dT) (xA q) (wX dT q rs g bh c1 v.2 re pl cl) v.1) [.ref (q 39), .ref (q 23)].toArray s 0 0 (xA q)) (F0 m 9 ls []) := by
    intro n
    induction n with
    | zero => intro c2_9 x2_9 x3_9 h; exact absurd h (by simp [f_X1_goThrough_9])
    | succ n ih =>
      intro c2_9 x2_9 x3_9 h ls H locs hl hP hS
      rw [f_X1_goThrough_9] at h
      refine lv_iload_n hx hb dX1_goThrough_9 rfl (lv_at hl 3 rfl) ?_
      refine lv_aload_n hx hb dX1_goThrough_10 rfl (lv_at hl 0 rfl) ?_
      refine va_get (D := D) (ci := 1) (v := .int cl.2) (C := RX1) (T := TX1) (N := 2) hx hb hts (fun w h => sub_z _ (inX1 w h)) hown hK hP 39 rfl rfl 1 (by decide) (hts _ (sub_z _ k_206)) (fun _ h => h) rfl dX1_goThrough_11 ?_
      refine lv_icmp_ge (tgt := 78) hx hb dX1_goThrough_14 (by decide) (fun k2 => ?_) (fun k2 => ?_)
      · rw [if_pos k2] at h
        refine lv_iload_n hx hb dX1_goThrough_78 rfl (lv_at hl 2 rfl) ?_
        obtain rfl := Option.some.inj h
        exact rI hx hb hr hlk hK hP hS dX1_goThrough_79
      · rw [if_neg k2] at h
        refine lv_aload_n hx hb dX1_goThrough_17 rfl (lv_at hl 1 rfl) ?_
        refine lv_aload_n hx hb dX1_goThrough_18 rfl (lv_at hl 0 rfl) ?_
        refine va_get (D := D) (ci := 1) (v := .ref (q 40)) (C := RX1) (T := TX1) (N := 2) hx hb hts (fun w h => sub_z _ (inX1 w h)) hown hK hP 39 rfl rfl 0 (by decide) (hts _ (sub_z _ k_205)) (fun _ h => h) rfl dX1_goThrough_19 ?_
        refine lv_iload_n hx hb dX1_goThrough_22 rfl (lv_at hl 3 rfl) ?_
        obtain ⟨k3, h⟩ := dg h
        refine va_iald (f := cl.1) hx hb hK hP 40 0 rfl rfl (inb_vp k3) dX1_goThrough_23 ?_
        obtain ⟨v4, hv4, h⟩ := dq h
        refine cVi (As := [.int (cl.1 x3_9.toNatClampNeg)]) (rest := []) ⟨hx, hb, hml, hown, hts⟩ (c_X2_allows_2 (dT := dT) (rs := rs) (g := g) (bh := bh) (c1 := c1) (c2 := c2_9) (re := re) (pl := pl) (cl := cl) hD hv4) (cwV 1 hts (good_V sub_z k_720 k_389 k_390 k_5 k_391) rfl rfl rfl (by decide +kernel) (by decide)) (va_recv hK hP (ci := 2) (q0 := 23) rfl rfl) hK hP hS rfl hl.1 rfl (Nat.le_of_ble_eq_true rfl) dX1_goThrough_24 (by decide) (fun H locs hP hS => ?_)
        refine lv_if_ne (tgt := 35) hx hb dX1_goThrough_27 (by decide) (fun k5 => ?_) (fun k5 => ?_)
        · rw [if_neg k5] at h
          refine lv_aload_n hx hb dX1_goThrough_35 rfl (lv_at hl 1 rfl) ?_
          refine lv_aload_n hx hb dX1_goThrough_36 rfl (lv_at hl 0 rfl) ?_
          refine va_get (D := D) (ci := 1) (v := .ref (q 40)) (C := RX1) (T := TX1) (N := 2) hx hb hts (fun w h => sub_z _ (inX1 w h)) hown hK hP 39 rfl rfl 0 (by decide) (hts _ (sub_z _ k_205)) (fun _ h => h) rfl dX1_goThrough_37 ?_
          refine lv_iload_n hx hb dX1_goThrough_40 rfl (lv_at hl 3 rfl) ?_
          obtain ⟨k6, h⟩ := dg h
          refine va_iald (f := cl.1) hx hb hK hP 40 0 rfl rfl (inb_vp k6) dX1_goThrough_41 ?_
          obtain ⟨v7, hv7, h⟩ := dq h
          refine cVv (As := [.int (cl.1 x3_9.toNatClampNeg)]) (rest := []) ⟨hx, hb, hml, hown, hts⟩ (c_X2_handle_2 (dT := dT) (rs := rs) (g := g) (bh := bh) (c1 := c1) (c2 := c2_9) (re := re) (pl := pl) (cl := cl) hD hv7) (cwV 1 hts (good_V sub_z k_721 k_430 k_431 k_5 k_432) rfl rfl rfl (by decide +kernel) (by decide)) (va_recv hK hP (ci := 2) (q0 := 23) rfl rfl) hK hP hS rfl hl.1 rfl (Nat.le_of_ble_eq_true rfl) dX1_goThrough_42 (by decide) (fun H locs hP hS => ?_)
          refine lv_aload_n hx hb dX1_goThrough_45 rfl (lv_at hl 1 rfl) ?_
          obtain ⟨v8, hv8, h⟩ := dq h
          refine cVi (As := []) (rest := []) ⟨hx, hb, hml, hown, hts⟩ (c_X2_untilEvent_2 (dT := dT) (rs := rs) (g := g) (bh := bh) (c1 := c1) (c2 := v7) (re := re) (pl := pl) (cl := cl) hD hv8) (cwV 0 hts (good_V sub_z k_722 k_457 k_458 k_5 k_459) rfl rfl rfl (by decide +kernel) (by decide)) (va_recv hK hP (ci := 2) (q0 := 23) rfl rfl) hK hP hS rfl hl.1 rfl (Nat.le_of_ble_eq_true rfl) dX1_goThrough_46 (by decide) (fun H locs hP hS => ?_)
          refine lv_istore (lv' := [(4, .int v8), (0, .ref (q 39)), (1, .ref (q 23)), (2, .int x2_9), (3, .int x3_9)]) hx hb dX1_goThrough_49 hl (by decide) rfl (fun ls hl => ?_)
          refine lv_iload hx hb dX1_goThrough_51 (lv_at hl 0 rfl) ?_
          refine lv_if_ne (tgt := 61) hx hb dX1_goThrough_53 (by decide) (fun k9 => ?_) (fun k9 => ?_)
          · rw [if_neg k9] at h
            refine lv_aload_n hx hb dX1_goThrough_61 rfl (lv_at hl 2 rfl) ?_
            refine lv_iload hx hb dX1_goThrough_62 (lv_at hl 0 rfl) ?_
            obtain ⟨v10, hv10, h⟩ := dq h
            refine cVv (As := [.int v8]) (rest := []) ⟨hx, hb, hml, hown, hts⟩ (c_X2_letPass_2 (dT := dT) (rs := rs) (g := g) (bh := bh) (c1 := c1) (c2 := v7) (re := re) (pl := pl) (cl := cl) hD hv10) (cwV 1 hts (good_V sub_z k_723 k_462 k_463 k_5 k_464) rfl rfl rfl (by decide +kernel) (by decide)) (va_recv hK hP (ci := 2) (q0 := 23) rfl rfl) hK hP hS rfl hl.1 rfl (Nat.le_of_ble_eq_true rfl) dX1_goThrough_64 (by decide) (fun H locs hP hS => ?_)
            refine lv_iload_n hx hb dX1_goThrough_67 rfl (lv_at hl 3 rfl) ?_
            refine lv_iload hx hb dX1_goThrough_68 (lv_at hl 0 rfl) ?_
            refine lv_iadd hx hb dX1_goThrough_70 ?_
            refine lv_istore_n (lv' := [(2, .int (x2_9 + v8)), (4, .int v8), (0, .ref (q 39)), (1, .ref (q 23)), (3, .int x3_9)]) hx hb dX1_goThrough_71 rfl hl (by decide) rfl (fun ls hl => ?_)
            refine lv_iinc (v := (x3_9 + (1 : Int32))) (lv' := [(3, .int (x3_9 + (1 : Int32))), (2, .int (x2_9 + v8)), (4, .int v8), (0, .ref (q 39)), (1, .ref (q 23))]) hx hb dX1_goThrough_72 hl (k := 4) rfl rfl (by decide) rfl (fun ls hl => ?_)
            refine lv_goto (tgt := 9) hx hb dX1_goThrough_75 (by decide) ?_
            exact ih _ _ _ h _ _ _ (lv_sub hl [3, 4, 1, 0] rfl) hP hS
          · rw [if_pos k9] at h
            refine lv_bipush (v := -2) hx hb dX1_goThrough_56 (by decide) ?_
            refine lv_iload_n hx hb dX1_goThrough_58 rfl (lv_at hl 4 rfl) ?_
            refine lv_isub hx hb dX1_goThrough_59 ?_
            obtain rfl := Option.some.inj h
            exact rI hx hb hr hlk hK hP hS dX1_goThrough_60
        · rw [if_pos k5] at h
          refine lv_bipush (v := -2) hx hb dX1_goThrough_30 (by decide) ?_
          refine lv_iload_n hx hb dX1_goThrough_32 rfl (lv_at hl 3 rfl) ?_
          refine lv_isub hx hb dX1_goThrough_33 ?_
          obtain rfl := Option.some.inj h
          exact rI hx hb hr hlk hK hP hS dX1_goThrough_34
  exact hL9_11 _ _ _ _ h _ _ _ (lv_sub hl [2, 3, 1, 0] rfl) hP hS
