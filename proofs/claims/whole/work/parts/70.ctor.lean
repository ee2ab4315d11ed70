/-! constructors -/
abbrev rmC (d K N : Nat) : Room := { frames := d, cells := K, slots := N, locals := 40 * d }
theorem va_RA_eq {U : State} {a b : ClassId} {ty : FieldType} (h1 : va_RA U a ty) (h2 : va_RA U b ty) : a = b := by
  cases ty with
  | object C =>
    obtain ⟨_, _, _, _, _, h1⟩ := h1
    obtain ⟨_, _, _, _, _, h2⟩ := h2
    exact Option.some.inj (h1.symm.trans h2)
  | _ => exact Option.some.inj (Eq.trans (Eq.symm h1) h2)
theorem va_D_one {a : Nat} {e : va_E} : va_D (fun _ => True) [(a, e)] := by
  refine ⟨fun i j p q hi hj _ => ?_, fun _ _ _ => trivial⟩
  have h1 : i < 1 := (List.getElem?_eq_some_iff.mp hi).1
  have h2 : j < 1 := (List.getElem?_eq_some_iff.mp hj).1
  omega
theorem va_at_q {D : va_G} {cl : List vw_C} {a : Nat} {cA : ClassId} {n : Nat} {f g : Nat → Option Nat} {H : Heap} (h : va_at D cl (a, .inl (cA, n, .inr (.inr (.inr (.inr f))))) H) (e : ∀ j, j < n → f j = g j) : va_at D cl (a, .inl (cA, n, .inr (.inr (.inr (.inr g))))) H := by
  have h1 : H[a]? = some (arrV cA n (fun j => va_rf (f j))) := h
  show H[a]? = some (arrV cA n (fun j => va_rf (g j)))
  have e2 : (fun j : Fin n => va_rf (f j.val)) = (fun j : Fin n => va_rf (g j.val)) := funext fun j => by rw [e j.val j.isLt]
  rw [h1]
  unfold arrV
  rw [e2]
theorem va_P_rep {D : va_G} {cl : List vw_C} {ws : va_W} {H : Heap} {p a : Nat} {e : va_E} (h : va_P D cl ws H) (he : va_at D cl (a, e) H) : va_P D cl (ws.set p (a, e)) H := by
  intro k q hk
  rw [List.getElem?_set] at hk
  split at hk
  · split at hk
    · cases hk; exact he
    · cases hk
  · exact h k q hk
section InitR
variable {p : Program} {l : Launch} {e : Env} {R : Room} {s : State} {m : MethodId} {args : Array Value} {below : List Frame} {meth : Method} {c : Code} {H : Heap} {locs : List Loc} {cells slots : Nat} {Q : State → Prop} {cc : ByteArray} {pc : Nat} {ls : Array Slot} {rest : List Value} {D : va_G} {cl : List vw_C} {A : Nat → Prop} {tys : List (ClassId × FieldType)} {ws : va_W} {H0 : Heap}
theorem newT (hexec : p.tables.exec = Jvm.exec) (hb : c.code = cc) {atype : ArrayType} (harr : (Cond.arrayClass (newarray.typeOf atype)).before args s = true) {ty : FieldType} (hty : newarray.typeOf atype = ty) (hK : va_K D cl tys s) (hP : va_P D cl ws H) (hD : va_D A ws) (hS : va_S A H0 H locs) (hA : ∀ q, H0.size ≤ q → A q) {t0 : Nat} {dTi : ClassId} (ht : tys[t0]? = some (dTi, ty)) {n : Int32} {N' : Nat} {a0 : vp_A} (ha : ∀ cA : ClassId, vp_cell cA a0 = arrV cA N' (fun _ => defaultValue ty)) (hn : ¬ n < 0) (hN : n.toNatClampNeg = N') (hbytes : N' * componentBytes ty ≤ 536870912) (hcells : cells + 1 ≤ R.cells) (hslots : slots + N' ≤ R.slots) (hdg : decode cc pc = .ok (.newarray atype, 2))
    (kk : ∀ (q : Nat) (H1 : Heap), va_P D cl (ws ++ [(q, .inl (dTi, a0))]) H1 → va_D A (ws ++ [(q, .inl (dTi, a0))]) → va_S A H0 H1 locs → W p l e R s m args below meth c H1 locs (cells + 1) (slots + N') Q (F0 m (pc + 2) ls (.ref q :: rest))) : W p l e R s m args below meth c H locs cells slots Q (F0 m pc ls (.int n :: rest)) := by
  refine va_newa hexec hb harr hty hK hP hD hS hA ha hn hN hbytes hcells hslots hdg (fun q cA H1 hK1 hP1 hD1 hS1 => ?_)
  have e1 : cA = dTi := va_RA_eq (hK1.2 tys.length (cA, ty) (by simp)).2 (hK.2 t0 _ ht).2
  subst e1
  exact kk q H1 hP1 hD1 hS1
theorem newqT (hexec : p.tables.exec = Jvm.exec) (hb : c.code = cc) {own C : String} {index : Nat} (hown : s.vm.findClass own = some m.cls) (hclink : (Cond.classLink own index C).before args s = true) (hover : va_AO C s) (hK : va_K D cl tys s) (hP : va_P D cl ws H) (hD : va_D A ws) (hS : va_S A H0 H locs) (hA : ∀ q, H0.size ≤ q → A q) {t0 : Nat} {dTi : ClassId} (ht : tys[t0]? = some (dTi, .object C)) {n : Int32} {N' : Nat} (hn : ¬ n < 0) (hN : n.toNatClampNeg = N') (hbytes : N' * 4 ≤ 536870912) (hcells : cells + 1 ≤ R.cells) (hslots : slots + N' ≤ R.slots) (hdg : decode cc pc = .ok (.anewarray index, 3))
    (kk : ∀ (q : Nat) (H1 : Heap), va_P D cl (ws ++ [(q, .inl (dTi, N', .inr (.inr (.inr (.inr (fun _ => none))))))]) H1 → va_D A (ws ++ [(q, .inl (dTi, N', .inr (.inr (.inr (.inr (fun _ => none))))))]) → va_S A H0 H1 locs → W p l e R s m args below meth c H1 locs (cells + 1) (slots + N') Q (F0 m (pc + 3) ls (.ref q :: rest))) : W p l e R s m args below meth c H locs cells slots Q (F0 m pc ls (.int n :: rest)) := by
  refine va_newq hexec hb hown hclink hover hK hP hD hS hA hn hN hbytes hcells hslots hdg (fun q cA H1 hK1 hP1 hD1 hS1 => ?_)
  have e1 : cA = dTi := va_RA_eq (hK1.2 tys.length (cA, .object C) (by simp)).2 (hK.2 t0 _ ht).2
  subst e1
  exact kk q H1 hP1 hD1 hS1
end InitR
theorem k_oi : Cond.code Lib.objectInit ⟨#[0xb1]⟩ 1 none ∈ tG := mem_t 23 (by decide +kernel) (by decide +kernel)
theorem good_C {big : List Cond} (hb : ∀ w ∈ tG, w ∈ big) {y : MethodName} {c : ByteArray} {n : Nat} {ret : Option FieldType} (h5 : Cond.code y c n ret ∈ tG) : GoodIn big (wz y c n ret) := by
  refine good_l hb (fun w hw => ?_)
  rcases List.mem_cons.mp hw with rfl | hw
  · exact h5
  · exact hw
abbrev BC (D : va_G) (tys : List (ClassId × FieldType)) (sz : Nat) (w : va_W) (U : State) : Prop := U.heap.size = sz ∧ va_P D vwCl w U.heap ∧ va_K D vwCl tys U
theorem BC_blind {as : List Value} {D : va_G} {tys : List (ClassId × FieldType)} {sz : Nat} {w : va_W} : FrameBlind (va_Pc as (BC D tys sz w)) := fun a U g mk q => ⟨q.1, q.2.1, q.2.2.1, va_K.moved (u := U) (U := U.calling g mk a) (Vm.Alike.refl U.vm) q.2.2.2⟩
abbrev QC (D : va_G) (A : Nat → Prop) (h0 : Nat) (w : (Nat → Nat) → va_W) : Array Value → State → Outcome → State → Prop := va_Qv (fun u : Nat → Nat => u 0 = h0) (fun u t => va_P D vwCl (w u) t.heap ∧ va_D A (w u)) A
def NX (U : State) : Prop := va_Nw (.methodLinkNest RX8 9 yX7_init RX8) U ∧ va_Nw (.methodLinkNest RX8 18 yX3_init RX8) U ∧ va_Nw (.methodLinkNest RX8 61 yX1_init RX8) U ∧ va_AO "SandBench$Row" U
theorem NX.same {u U : State} (h : u.vm = U.vm) (hZ : NX u) : NX U := ⟨va_Nw.same rfl h hZ.1, va_Nw.same rfl h hZ.2.1, va_Nw.same rfl h hZ.2.2.1, va_AO.moved (by rw [h]; exact Vm.Alike.refl _) hZ.2.2.2⟩
theorem NX.warm {s U : State} (hW : s.WarmedH U.vm) (hZ : NX s) : NX U := ⟨va_Nw.warmM hW hZ.1, va_Nw.warmM hW hZ.2.1, va_Nw.warmM hW hZ.2.2.1, va_AO.moved hW.alike hZ.2.2.2⟩
theorem BCN_blind {as : List Value} {D : va_G} {tys : List (ClassId × FieldType)} {sz : Nat} {w : va_W} : FrameBlind (va_Pc as (fun U => BC D tys sz w U ∧ NX U)) := fun a U g mk q => ⟨q.1, ⟨q.2.1.1, q.2.1.2.1, va_K.moved (u := U) (U := U.calling g mk a) (Vm.Alike.refl U.vm) q.2.1.2.2⟩, NX.same (u := U) (U := U.calling g mk a) rfl q.2.2⟩
section LawR
variable {p : Program} {l : Launch} {e : Env} {R : Room} {s : State} {m : MethodId} {args : Array Value} {below : List Frame} {meth : Method} {c : Code} {H : Heap} {locs : List Loc} {cells slots : Nat} {Q : State → Prop} {cc : ByteArray} {pc : Nat} {ls : Array Slot} {rest st : List Value} {D : va_G} {A A0 : Nat → Prop} {tys : List (ClassId × FieldType)} {w w' w2 : va_W}
variable {y : MethodName} {bytes : ByteArray} {maxL nL n index d : Nat} {ret : Option FieldType} {Ts : List Cond} {own C : String} {b : Addr} {As : List Value}
theorem va_P_off {cl : List vw_C} {H1 : Heap} (hP2 : va_P D cl w2 H) (hdis : ∀ (k : Nat) (q : Nat × va_E), w2[k]? = some q → ¬ A q.1) (hk : ∀ q : Nat, q < H.size → ¬ A q → H1[q]? = H[q]?) : va_P D cl w2 H1 := fun k q hq => (hP2 k q hq).kept (hk q.1 (hP2 k q hq).lt (hdis k q hq))
theorem lCi {r : Int32} (S : CallFix p m c cc nL s args Ts own) (hM : MG l y bytes maxL ret d (.ref b :: As) D tys w (QI D tys A w' r) A) (cw : CallW R s args own C index y bytes maxL ret (wz y bytes maxL ret) (rmD d) 0 0 n) (hrv : ∃ cell : Cell, H[b]? = some cell ∧ cell.vm.isStatics = false ∧ s.vm.findClass C = some cell.cls)
    (hK : va_K D vwCl tys s) (hP : va_P D vwCl w H) (hS : va_S A0 s.heap H locs) (hA : ∀ a, A a → A0 a) (hn : As.length = n) (hz : ls.size = nL) (hst : st = As.reverse ++ .ref b :: rest) (hW : (rest.map fun v => v.category).sum ≤ 8) (hdg : decode cc pc = .ok (.invokevirtual index, 3)) (hc : cells ≤ R.cells ∧ slots ≤ R.slots) (hP2 : va_P D vwCl w2 H) (hdis : ∀ (k : Nat) (q : Nat × va_E), w2[k]? = some q → ¬ A q.1)
    (kk : ∀ (H1 : Heap) (locs1 : List Loc), va_P D vwCl w' H1 → va_P D vwCl w2 H1 → va_S A0 s.heap H1 locs1 → W p l e R s m args below meth c H1 locs1 cells slots Q (F0 m (pc + 3) ls (.int r :: rest))) : W p l e R s m args below meth c H locs cells slots Q (F0 m pc ls st) := by
  subst hst
  refine va_calli (va_runV (As := As) (rest := rest) S hM cw ⟨BW_blind, hrv, fun U hU hWm => ⟨rfl, by rw [hU]; exact hP, va_K.moved hWm.alike hK⟩⟩ rfl hn hz rfl (lv_room hW) hdg hc) hS (fun q _ h => hA q h) hA (fun r' u t H1 locs1 ht hvm hw hB hsz hk hS1 => ?_)
  subst hw
  exact kk H1 locs1 (by rw [← ht]; exact hB.1) (va_P_off hP2 hdis hk) hS1
theorem lCv (S : CallFix p m c cc nL s args Ts own) (hM : MG l y bytes maxL ret d (.ref b :: As) D tys w (QV D tys A w') A) (cw : CallW R s args own C index y bytes maxL ret (wz y bytes maxL ret) (rmD d) 0 0 n) (hrv : ∃ cell : Cell, H[b]? = some cell ∧ cell.vm.isStatics = false ∧ s.vm.findClass C = some cell.cls)
    (hK : va_K D vwCl tys s) (hP : va_P D vwCl w H) (hS : va_S A0 s.heap H locs) (hA : ∀ a, A a → A0 a) (hn : As.length = n) (hz : ls.size = nL) (hst : st = As.reverse ++ .ref b :: rest) (hW : (rest.map fun v => v.category).sum ≤ 8) (hdg : decode cc pc = .ok (.invokevirtual index, 3)) (hc : cells ≤ R.cells ∧ slots ≤ R.slots) (hP2 : va_P D vwCl w2 H) (hdis : ∀ (k : Nat) (q : Nat × va_E), w2[k]? = some q → ¬ A q.1)
    (kk : ∀ (H1 : Heap) (locs1 : List Loc), va_P D vwCl w' H1 → va_P D vwCl w2 H1 → va_S A0 s.heap H1 locs1 → W p l e R s m args below meth c H1 locs1 cells slots Q (F0 m (pc + 3) ls rest)) : W p l e R s m args below meth c H locs cells slots Q (F0 m pc ls st) := by
  subst hst
  refine va_callv (va_runV (As := As) (rest := rest) S hM cw ⟨BW_blind, hrv, fun U hU hWm => ⟨rfl, by rw [hU]; exact hP, va_K.moved hWm.alike hK⟩⟩ rfl hn hz rfl (lv_room hW) hdg hc) hS (fun q _ h => hA q h) hA (fun u t H1 locs1 ht hvm hw hB hsz hk hS1 => ?_)
  exact kk H1 locs1 (by rw [← ht]; exact hB.1) (va_P_off hP2 hdis hk) hS1
end LawR
theorem nthL {q : Nat → Nat} {n k : Nat} {p : Nat × va_E} (h : ((List.range n).map (fun k => (q k, (.inr (0, []) : va_E))))[k]? = some p) : k < n ∧ p.1 = q k := by
  rw [List.getElem?_map] at h
  by_cases hk : k < n
  · rw [List.getElem?_range hk] at h
    cases h
    exact ⟨hk, rfl⟩
  · rw [List.getElem?_eq_none (by simpa using hk)] at h
    cases h
theorem xD_of {A : Nat → Prop} {dT : Nat → ClassId} {q : Nat → Nat} {rs : (Nat → tRow)} {g : tG_} {bh : tBH} {c1 : tC} {c2 : tC} {re : tRE} {pl : tPL} {cl : tCL} (h : va_D A (wX dT q rs g bh c1 c2 re pl cl)) : xD q := by
  have h1 : va_D A ((List.range 41).map (fun k => (q k, (.inr (0, []) : va_E)))) := va_D_addr h rfl
  refine ⟨h1.1, fun k p hk => ?_⟩
  obtain ⟨a, b⟩ := nthL (n := 41) hk
  exact ⟨k, a, b⟩
theorem xA_of {A : Nat → Prop} {dT : Nat → ClassId} {q : Nat → Nat} {rs : (Nat → tRow)} {g : tG_} {bh : tBH} {c1 : tC} {c2 : tC} {re : tRE} {pl : tPL} {cl : tCL} (h : va_D A (wX dT q rs g bh c1 c2 re pl cl)) : ∀ a, xA q a → A a := by
  have h1 : va_D A ((List.range 41).map (fun k => (q k, (.inr (0, []) : va_E)))) := va_D_addr h rfl
  rintro a ⟨k, hk, rfl⟩
  exact h1.2 k (q k, .inr (0, [])) (by rw [List.getElem?_map, List.getElem?_range hk]; rfl)
theorem mD_of {A : Nat → Prop} {dT : Nat → ClassId} {q : Nat → Nat} {mr : tMR} {mg : tMG} {mc : tMC} {mn : tMN} {mh : tMH} {mf : tMF} {mp : tMP} (h : va_D A (wM dT q mr mg mc mn mh mf mp)) : mD q := by
  have h1 : va_D A ((List.range 23).map (fun k => (q k, (.inr (0, []) : va_E)))) := va_D_addr h rfl
  refine ⟨h1.1, fun k p hk => ?_⟩
  obtain ⟨a, b⟩ := nthL (n := 23) hk
  exact ⟨k, a, b⟩
theorem mA_of {A : Nat → Prop} {dT : Nat → ClassId} {q : Nat → Nat} {mr : tMR} {mg : tMG} {mc : tMC} {mn : tMN} {mh : tMH} {mf : tMF} {mp : tMP} (h : va_D A (wM dT q mr mg mc mn mh mf mp)) : ∀ a, mA q a → A a := by
  have h1 : va_D A ((List.range 23).map (fun k => (q k, (.inr (0, []) : va_E)))) := va_D_addr h rfl
  rintro a ⟨k, hk, rfl⟩
  exact h1.2 k (q k, .inr (0, [])) (by rw [List.getElem?_map, List.getElem?_range hk]; rfl)
