-- ===== end of PART A; then your names; then what follows =====
/-! THE CLAIM OUT OF ONE WALK OF THE LAW'S BODY. Your part is whole_start (and what it stands on); all else here is the same for every law, but numbers. -/
def R_law : String := "SandBenchLaw"
def lw_P (b : Addr) (xs : List Int32) (args : Array Value) (s : State) : Prop := args = #[.ref b] ∧ s.IntsAt b xs ∧ xs.length ≤ 2560 ∧ (Jvm.Cond.and given_1 narrow_1).before args s = true
def lw_Q (_ : Array Value) (s : State) (o : Outcome) (t : State) : Prop := o = .returned (some (.int 1)) ∧ Framed s o t [] 600000 7302250
def lw_Z (below : List Frame) (a : Array Value) (s : State) : State → Prop := fun t => ∃ o, t.status = .running ∧ Ended t below o ∧ lw_Q a s o t
/-- the law's own end, with 1 on the stack, nothing written that was there before, its room as the claim has it -/
theorem lw_ret {p : Program} {l : Launch} {e : Env} {s : State} {m : MethodId} {below : List Frame} {meth : Method} {c : Code} {b : Nat} (hx : p.tables.exec = Jvm.exec) (hb : c.code = code) (hr : meth.sig.returnType = ret) (hlocks : meth.locks = false) {pc : Nat} {H : Heap} {ls : Array Slot} (hdg : decode code pc = .ok (.ireturn, 1)) : W p l e room_1 s m #[Value.ref b] below meth c H [] 600000 7302250 (lw_Z below #[Value.ref b] s) (F0 m pc ls [.int 1]) := by
  intro T hT X
  obtain ⟨fs, hret, hrun, hended, hW, hframe⟩ := X.leave (v := some (.int 1)) (hlocks := hlocks) (fun h => by rw [hr] at h; cases h)
  have hmeth' : T.vm.method? m = some meth := X.method'
  refine ⟨T.setFrames fs, ?_, .returned (some (.int 1)), hrun, hended, rfl, ⟨_, rfl⟩, hW, hframe⟩
  jvm_step X.here [X.here.top, hx, hb, hdg, hmeth', hr, ret, narrow_b1]
  (try refine ⟨rfl, ?_⟩); (try refine ⟨rfl, ?_⟩)
  first | (intro acts; rw [hret _ acts rfl rfl rfl]) | rw [hret _ _ rfl rfl rfl]
  exact Steps.refl _
/-- what holds at the law's entry: the machine, the code, the tables' words (any of lw_tbl by 'hts w (by decide +kernel)'), the script of L ints xs at the cell b, what the Statement gives of the start (any of its parts by flat_of_before) -/
def lw_At (p : Program) (s : State) (m : MethodId) (meth : Method) (c : Code) (b L : Nat) (xs : Nat → Int32) : Prop :=
  p.tables.exec = Jvm.exec ∧ c.code = code ∧ meth.sig.returnType = ret ∧ c.maxLocals = 4 ∧ s.vm.findClass R_law = some m.cls ∧ (∀ w ∈ lw_tbl, w.before #[Value.ref b] s = true) ∧ va_X b L xs s s.heap ∧ b < s.heap.size ∧ meth.locks = false ∧ (Jvm.Cond.and given_1 narrow_1).before #[Value.ref b] s = true

theorem tG_sub : ∀ w ∈ tG, w ∈ lw_tbl := fun _ h => (List.mem_filter.mp h).1
theorem law_le {L i : Nat} {x : Int32} (hL : L ≤ 2560) (hi : i ≤ 2600) (hx : x = nI i) (h : ¬ (Int32.ofNat L - 5 < x)) : i + 5 ≤ L := by
  subst hx
  have h1 : (nI L - nI 5).toInt = (L : Int) - 5 := pk_sub_toInt (by omega) (by omega)
  have h2 : (nI i).toInt = (i : Int) := nI_toInt (by omega)
  have h3 : ¬ ((nI L - nI 5).toInt < (nI i).toInt) := fun q => h (Int32.lt_iff_toInt_lt.mpr q)
  rw [h1, h2] at h3
  omega
theorem law_ix {L i : Nat} {x : Int32} (hL : L ≤ 2560) (hx : x = nI i) (h : i + 5 ≤ L) (k : Nat) (hk : k < 5) : vp_in (x + nI k) L := by
  subst hx
  rw [nI_add]
  exact vp_in_nI (by omega) (by omega)
set_option maxRecDepth 100000 in
set_option maxHeartbeats 40000000 in
theorem law_loop {p : Program} {e : Env} {s : State} {m : MethodId} {below : List Frame} {meth : Method} {c : Code} (l : Launch) {b L : Nat} {xs : Nat → Int32} (hL : L ≤ 2560) (C0 : lw_At p s m meth c b L xs) {D : va_G} {dT : Nat → ClassId} (hK : va_K D vwCl (tyL dT) s) {q r : Nat → Nat} (hDX : xD q) (hDM : mD r) (hAX : ∀ a, xA q a → s.heap.size ≤ a) (hAM : ∀ a, mA r a → s.heap.size ≤ a) (hXM : ∀ a, xA q a → ¬ mA r a) : ∀ (n i : Nat) (x3 : Int32) (rs : (Nat → tRow)) (g : tG_) (bh : tBH) (c1 : tC) (c2 : tC) (re : tRE) (pl : tPL) (cl : tCL) (mr : tMR) (mg : tMG) (mc : tMC) (mn : tMN) (mh : tMH) (mf : tMF) (mp : tMP), i ≤ L + 5 → L < i + 5 * n → x3 = nI i → Rel rs g bh c1 c2 re pl cl mr mg mc mn mh mf mp → ∀ (H : Heap) (locs : List Loc) (ls : Array Slot), va_P D vwCl (wX dT q rs g bh c1 c2 re pl cl) H → va_P D vwCl (wM dT r mr mg mc mn mh mf mp) H → va_S (fun a : Nat => s.heap.size ≤ a) s.heap H locs → lv_has ls 4 [(0, .ref b), (1, .ref (q 0)), (2, .ref (r 0)), (3, .int x3)] → W p l e room_1 s m #[Value.ref b] below meth c H locs 600000 7302250 (lw_Z below #[Value.ref b] s) (F0 m 18 ls []) := by
  obtain ⟨hx, hb, hr, hml, hown, hts, hX, hbl, hlocks, hgv⟩ := id C0
  have hb : c.code = cL_law := hb
  have hown : s.vm.findClass RL = some m.cls := hown
  have hbA : ¬ (fun a : Nat => s.heap.size ≤ a) b := Nat.not_le.mpr hbl
  intro n
  induction n with
  | zero =>
    intro i x3 rs g bh c1 c2 re pl cl mr mg mc mn mh mf mp hi hn hx3 hR H locs ls hP hM hS hl
    refine lv_iload_n hx hb dL_law_18 rfl (lv_at hl 3 rfl) ?_
    refine lv_aload_n hx hb dL_law_19 rfl (lv_at hl 0 rfl) ?_
    refine va_slen hx hb hX hbl hbA hS dL_law_20 ?_
    refine lv_iconst (v := 5) hx hb dL_law_21 (by decide) ?_
    refine lv_isub hx hb dL_law_22 ?_
    refine lv_icmp_gt (tgt := 870) hx hb dL_law_23 (by decide) (fun k0 => ?_) (fun k0 => ?_)
    · refine lv_iconst (v := 1) hx hb dL_law_870 (by decide) ?_
      refine va_forget (fun q hq => hS.2.2 q hq) ?_
      exact lw_ret hx hb hr hlocks dL_law_871
    · exact absurd (law_le hL (by omega) hx3 k0) (by omega)
  | succ n ih =>
    intro i x3 rs g bh c1 c2 re pl cl mr mg mc mn mh mf mp hi hn hx3 hR H locs ls hP hM hS hl
    refine lv_iload_n hx hb dL_law_18 rfl (lv_at hl 3 rfl) ?_
    refine lv_aload_n hx hb dL_law_19 rfl (lv_at hl 0 rfl) ?_
    refine va_slen hx hb hX hbl hbA hS dL_law_20 ?_
    refine lv_iconst (v := 5) hx hb dL_law_21 (by decide) ?_
    refine lv_isub hx hb dL_law_22 ?_
    refine lv_icmp_gt (tgt := 870) hx hb dL_law_23 (by decide) (fun k0 => ?_) (fun k0 => ?_)
    · refine lv_iconst (v := 1) hx hb dL_law_870 (by decide) ?_
      refine va_forget (fun q hq => hS.2.2 q hq) ?_
      exact lw_ret hx hb hr hlocks dL_law_871
    · have hi5 := law_le hL (by omega) hx3 k0
      have hix := law_ix hL hx3 hi5
      refine lv_aload_n hx hb dL_law_26 rfl (lv_at hl 0 rfl) ?_
      refine lv_iload_n hx hb dL_law_27 rfl (lv_at hl 3 rfl) ?_
      refine va_sld hx hb hX hbl hbA hS (by rw [hx3]; exact vp_in_nI (by omega) (by omega)) dL_law_28 ?_
      refine lv_bipush (v := 31) hx hb dL_law_29 (by decide) ?_
      refine lv_iand hx hb dL_law_31 ?_
      by_cases cs_0 : (xs x3.toNatClampNeg &&& 31) = 0
      · refine lv_tableIn (tgt := 160) (off := 128) hx hb dL_law_32 (by rw [cs_0]; decide) (by rw [cs_0]; decide) (by rw [cs_0]; rfl) (by decide) ?_
        obtain ⟨x, y, hfx, hfy, he, hR1⟩ := op_row hR (xs (x3 + 1).toNatClampNeg) (xs (x3 + 2).toNatClampNeg) (xs (x3 + 3).toNatClampNeg)
        refine lv_aload_n hx hb dL_law_160 rfl (lv_at hl 1 rfl) ?_
        refine lv_aload_n hx hb dL_law_161 rfl (lv_at hl 0 rfl) ?_
        refine lv_iload_n hx hb dL_law_162 rfl (lv_at hl 3 rfl) ?_
        refine lv_iconst (v := 1) hx hb dL_law_163 (by decide) ?_
        refine lv_iadd hx hb dL_law_164 ?_
        refine va_sld hx hb hX hbl hbA hS (hix 1 (by decide)) dL_law_165 ?_
        refine lv_aload_n hx hb dL_law_166 rfl (lv_at hl 0 rfl) ?_
        refine lv_iload_n hx hb dL_law_167 rfl (lv_at hl 3 rfl) ?_
        refine lv_iconst (v := 2) hx hb dL_law_168 (by decide) ?_
        refine lv_iadd hx hb dL_law_169 ?_
        refine va_sld hx hb hX hbl hbA hS (hix 2 (by decide)) dL_law_170 ?_
        refine lv_aload_n hx hb dL_law_171 rfl (lv_at hl 0 rfl) ?_
        refine lv_iload_n hx hb dL_law_172 rfl (lv_at hl 3 rfl) ?_
        refine lv_iconst (v := 3) hx hb dL_law_173 (by decide) ?_
        refine lv_iadd hx hb dL_law_174 ?_
        refine va_sld hx hb hX hbl hbA hS (hix 3 (by decide)) dL_law_175 ?_
        refine lCi (As := [.int (xs (x3 + 1).toNatClampNeg), .int (xs (x3 + 2).toNatClampNeg), .int (xs (x3 + 3).toNatClampNeg)]) (rest := []) ⟨hx, hb, hml, hown, hts⟩ (c_X8_row (dT := dT) hDX hfx) (cwV 3 hts (good_V tG_sub k_234 k_235 k_236 k_1 k_237) rfl rfl rfl (by decide +kernel) (by decide)) (va_recv hK hP (ci := 7) (q0 := 0) rfl rfl) hK hP hS hAX rfl hl.1 rfl (Nat.le_of_ble_eq_true rfl) dL_law_176 (by decide) hM (fun k p hk hq => hXM _ hq ((mD.w hDM).2 k p hk)) (fun H locs hP hM hS => ?_)
        refine lv_aload_n hx hb dL_law_179 rfl (lv_at hl 2 rfl) ?_
        refine lv_aload_n hx hb dL_law_180 rfl (lv_at hl 0 rfl) ?_
        refine lv_iload_n hx hb dL_law_181 rfl (lv_at hl 3 rfl) ?_
        refine lv_iconst (v := 1) hx hb dL_law_182 (by decide) ?_
        refine lv_iadd hx hb dL_law_183 ?_
        refine va_sld hx hb hX hbl hbA hS (hix 1 (by decide)) dL_law_184 ?_
        refine lv_aload_n hx hb dL_law_185 rfl (lv_at hl 0 rfl) ?_
        refine lv_iload_n hx hb dL_law_186 rfl (lv_at hl 3 rfl) ?_
        refine lv_iconst (v := 2) hx hb dL_law_187 (by decide) ?_
        refine lv_iadd hx hb dL_law_188 ?_
        refine va_sld hx hb hX hbl hbA hS (hix 2 (by decide)) dL_law_189 ?_
        refine lv_aload_n hx hb dL_law_190 rfl (lv_at hl 0 rfl) ?_
        refine lv_iload_n hx hb dL_law_191 rfl (lv_at hl 3 rfl) ?_
        refine lv_iconst (v := 3) hx hb dL_law_192 (by decide) ?_
        refine lv_iadd hx hb dL_law_193 ?_
        refine va_sld hx hb hX hbl hbA hS (hix 3 (by decide)) dL_law_194 ?_
        refine lCi (As := [.int (xs (x3 + 1).toNatClampNeg), .int (xs (x3 + 2).toNatClampNeg), .int (xs (x3 + 3).toNatClampNeg)]) (rest := [.int x.1]) ⟨hx, hb, hml, hown, hts⟩ (c_X9_row (dT := dT) hDM hfy) (cwV 3 hts (good_V tG_sub k_830 k_831 k_832 k_9 k_833) rfl rfl rfl (by decide +kernel) (by decide)) (va_recv hK hM (ci := 8) (q0 := 0) rfl rfl) hK hM hS hAM rfl hl.1 rfl (Nat.le_of_ble_eq_true rfl) dL_law_195 (by decide) hP (fun k p hk hq => hXM _ ((xD.w hDX).2 k p hk) hq) (fun H locs hM hP hS => ?_)
        refine lv_icmp_eq (tgt := 864) hx hb dL_law_198 (by decide) (fun _ => ?_) (fun k1 => absurd he k1)
        refine lv_iinc (v := x3 + 5) (lv' := [(3, .int (x3 + 5)), (0, .ref b), (1, .ref (q 0)), (2, .ref (r 0))]) hx hb dL_law_864 hl (k := 3) rfl rfl (by decide) rfl (fun ls hl => ?_)
        refine lv_goto (tgt := 18) hx hb dL_law_867 (by decide) ?_
        exact ih (i + 5) _ _ _ _ _ _ _ _ _ _ _ _ _ _ _ _ (by omega) (by omega) (by rw [hx3]; exact nI_add i 5) hR1 _ _ _ hP hM hS (lv_sub hl [1, 2, 3, 0] rfl)
      · by_cases cs_1 : (xs x3.toNatClampNeg &&& 31) = 1
        · refine lv_tableIn (tgt := 203) (off := 171) hx hb dL_law_32 (by rw [cs_1]; decide) (by rw [cs_1]; decide) (by rw [cs_1]; rfl) (by decide) ?_
          obtain ⟨x, y, hfx, hfy, he, hR1⟩ := op_cell hR (xs (x3 + 1).toNatClampNeg) (xs (x3 + 2).toNatClampNeg) (xs (x3 + 3).toNatClampNeg)
          refine lv_aload_n hx hb dL_law_203 rfl (lv_at hl 1 rfl) ?_
          refine lv_aload_n hx hb dL_law_204 rfl (lv_at hl 0 rfl) ?_
          refine lv_iload_n hx hb dL_law_205 rfl (lv_at hl 3 rfl) ?_
          refine lv_iconst (v := 1) hx hb dL_law_206 (by decide) ?_
          refine lv_iadd hx hb dL_law_207 ?_
          refine va_sld hx hb hX hbl hbA hS (hix 1 (by decide)) dL_law_208 ?_
          refine lv_aload_n hx hb dL_law_209 rfl (lv_at hl 0 rfl) ?_
          refine lv_iload_n hx hb dL_law_210 rfl (lv_at hl 3 rfl) ?_
          refine lv_iconst (v := 2) hx hb dL_law_211 (by decide) ?_
          refine lv_iadd hx hb dL_law_212 ?_
          refine va_sld hx hb hX hbl hbA hS (hix 2 (by decide)) dL_law_213 ?_
          refine lv_aload_n hx hb dL_law_214 rfl (lv_at hl 0 rfl) ?_
          refine lv_iload_n hx hb dL_law_215 rfl (lv_at hl 3 rfl) ?_
          refine lv_iconst (v := 3) hx hb dL_law_216 (by decide) ?_
          refine lv_iadd hx hb dL_law_217 ?_
          refine va_sld hx hb hX hbl hbA hS (hix 3 (by decide)) dL_law_218 ?_
          refine lCi (As := [.int (xs (x3 + 1).toNatClampNeg), .int (xs (x3 + 2).toNatClampNeg), .int (xs (x3 + 3).toNatClampNeg)]) (rest := []) ⟨hx, hb, hml, hown, hts⟩ (c_X8_cell (dT := dT) hDX hfx) (cwV 3 hts (good_V tG_sub k_248 k_249 k_250 k_1 k_251) rfl rfl rfl (by decide +kernel) (by decide)) (va_recv hK hP (ci := 7) (q0 := 0) rfl rfl) hK hP hS hAX rfl hl.1 rfl (Nat.le_of_ble_eq_true rfl) dL_law_219 (by decide) hM (fun k p hk hq => hXM _ hq ((mD.w hDM).2 k p hk)) (fun H locs hP hM hS => ?_)
          refine lv_aload_n hx hb dL_law_222 rfl (lv_at hl 2 rfl) ?_
          refine lv_aload_n hx hb dL_law_223 rfl (lv_at hl 0 rfl) ?_
          refine lv_iload_n hx hb dL_law_224 rfl (lv_at hl 3 rfl) ?_
          refine lv_iconst (v := 1) hx hb dL_law_225 (by decide) ?_
          refine lv_iadd hx hb dL_law_226 ?_
          refine va_sld hx hb hX hbl hbA hS (hix 1 (by decide)) dL_law_227 ?_
          refine lv_aload_n hx hb dL_law_228 rfl (lv_at hl 0 rfl) ?_
          refine lv_iload_n hx hb dL_law_229 rfl (lv_at hl 3 rfl) ?_
          refine lv_iconst (v := 2) hx hb dL_law_230 (by decide) ?_
          refine lv_iadd hx hb dL_law_231 ?_
          refine va_sld hx hb hX hbl hbA hS (hix 2 (by decide)) dL_law_232 ?_
          refine lv_aload_n hx hb dL_law_233 rfl (lv_at hl 0 rfl) ?_
          refine lv_iload_n hx hb dL_law_234 rfl (lv_at hl 3 rfl) ?_
          refine lv_iconst (v := 3) hx hb dL_law_235 (by decide) ?_
          refine lv_iadd hx hb dL_law_236 ?_
          refine va_sld hx hb hX hbl hbA hS (hix 3 (by decide)) dL_law_237 ?_
          refine lCi (As := [.int (xs (x3 + 1).toNatClampNeg), .int (xs (x3 + 2).toNatClampNeg), .int (xs (x3 + 3).toNatClampNeg)]) (rest := [.int x.1]) ⟨hx, hb, hml, hown, hts⟩ (c_X9_cell (dT := dT) hDM hfy) (cwV 3 hts (good_V tG_sub k_840 k_841 k_842 k_9 k_843) rfl rfl rfl (by decide +kernel) (by decide)) (va_recv hK hM (ci := 8) (q0 := 0) rfl rfl) hK hM hS hAM rfl hl.1 rfl (Nat.le_of_ble_eq_true rfl) dL_law_238 (by decide) hP (fun k p hk hq => hXM _ ((xD.w hDX).2 k p hk) hq) (fun H locs hM hP hS => ?_)
          refine lv_icmp_eq (tgt := 864) hx hb dL_law_241 (by decide) (fun _ => ?_) (fun k1 => absurd he k1)
          refine lv_iinc (v := x3 + 5) (lv' := [(3, .int (x3 + 5)), (0, .ref b), (1, .ref (q 0)), (2, .ref (r 0))]) hx hb dL_law_864 hl (k := 3) rfl rfl (by decide) rfl (fun ls hl => ?_)
          refine lv_goto (tgt := 18) hx hb dL_law_867 (by decide) ?_
          exact ih (i + 5) _ _ _ _ _ _ _ _ _ _ _ _ _ _ _ _ (by omega) (by omega) (by rw [hx3]; exact nI_add i 5) hR1 _ _ _ hP hM hS (lv_sub hl [1, 2, 3, 0] rfl)
        · by_cases cs_2 : (xs x3.toNatClampNeg &&& 31) = 2
          · refine lv_tableIn (tgt := 246) (off := 214) hx hb dL_law_32 (by rw [cs_2]; decide) (by rw [cs_2]; decide) (by rw [cs_2]; rfl) (by decide) ?_
            obtain ⟨x, y, hfx, hfy, he, hR1⟩ := op_told hR (xs (x3 + 1).toNatClampNeg) (xs (x3 + 2).toNatClampNeg)
            refine lv_aload_n hx hb dL_law_246 rfl (lv_at hl 1 rfl) ?_
            refine lv_aload_n hx hb dL_law_247 rfl (lv_at hl 0 rfl) ?_
            refine lv_iload_n hx hb dL_law_248 rfl (lv_at hl 3 rfl) ?_
            refine lv_iconst (v := 1) hx hb dL_law_249 (by decide) ?_
            refine lv_iadd hx hb dL_law_250 ?_
            refine va_sld hx hb hX hbl hbA hS (hix 1 (by decide)) dL_law_251 ?_
            refine lv_aload_n hx hb dL_law_252 rfl (lv_at hl 0 rfl) ?_
            refine lv_iload_n hx hb dL_law_253 rfl (lv_at hl 3 rfl) ?_
            refine lv_iconst (v := 2) hx hb dL_law_254 (by decide) ?_
            refine lv_iadd hx hb dL_law_255 ?_
            refine va_sld hx hb hX hbl hbA hS (hix 2 (by decide)) dL_law_256 ?_
            refine lCi (As := [.int (xs (x3 + 1).toNatClampNeg), .int (xs (x3 + 2).toNatClampNeg)]) (rest := []) ⟨hx, hb, hml, hown, hts⟩ (c_X8_told (dT := dT) hDX hfx) (cwV 2 hts (good_V tG_sub k_264 k_265 k_266 k_1 k_267) rfl rfl rfl (by decide +kernel) (by decide)) (va_recv hK hP (ci := 7) (q0 := 0) rfl rfl) hK hP hS hAX rfl hl.1 rfl (Nat.le_of_ble_eq_true rfl) dL_law_257 (by decide) hM (fun k p hk hq => hXM _ hq ((mD.w hDM).2 k p hk)) (fun H locs hP hM hS => ?_)
            refine lv_aload_n hx hb dL_law_260 rfl (lv_at hl 2 rfl) ?_
            refine lv_aload_n hx hb dL_law_261 rfl (lv_at hl 0 rfl) ?_
            refine lv_iload_n hx hb dL_law_262 rfl (lv_at hl 3 rfl) ?_
            refine lv_iconst (v := 1) hx hb dL_law_263 (by decide) ?_
            refine lv_iadd hx hb dL_law_264 ?_
            refine va_sld hx hb hX hbl hbA hS (hix 1 (by decide)) dL_law_265 ?_
            refine lv_aload_n hx hb dL_law_266 rfl (lv_at hl 0 rfl) ?_
            refine lv_iload_n hx hb dL_law_267 rfl (lv_at hl 3 rfl) ?_
            refine lv_iconst (v := 2) hx hb dL_law_268 (by decide) ?_
            refine lv_iadd hx hb dL_law_269 ?_
            refine va_sld hx hb hX hbl hbA hS (hix 2 (by decide)) dL_law_270 ?_
            refine lCi (As := [.int (xs (x3 + 1).toNatClampNeg), .int (xs (x3 + 2).toNatClampNeg)]) (rest := [.int x]) ⟨hx, hb, hml, hown, hts⟩ (c_X9_told (dT := dT) hDM hfy) (cwV 2 hts (good_V tG_sub k_844 k_845 k_846 k_9 k_847) rfl rfl rfl (by decide +kernel) (by decide)) (va_recv hK hM (ci := 8) (q0 := 0) rfl rfl) hK hM hS hAM rfl hl.1 rfl (Nat.le_of_ble_eq_true rfl) dL_law_271 (by decide) hP (fun k p hk hq => hXM _ ((xD.w hDX).2 k p hk) hq) (fun H locs hM hP hS => ?_)
            refine lv_icmp_eq (tgt := 864) hx hb dL_law_274 (by decide) (fun _ => ?_) (fun k1 => absurd he k1)
            refine lv_iinc (v := x3 + 5) (lv' := [(3, .int (x3 + 5)), (0, .ref b), (1, .ref (q 0)), (2, .ref (r 0))]) hx hb dL_law_864 hl (k := 3) rfl rfl (by decide) rfl (fun ls hl => ?_)
            refine lv_goto (tgt := 18) hx hb dL_law_867 (by decide) ?_
            exact ih (i + 5) _ _ _ _ _ _ _ _ _ _ _ _ _ _ _ _ (by omega) (by omega) (by rw [hx3]; exact nI_add i 5) hR1 _ _ _ hP hM hS (lv_sub hl [1, 2, 3, 0] rfl)
          · by_cases cs_3 : (xs x3.toNatClampNeg &&& 31) = 3
            · refine lv_tableIn (tgt := 279) (off := 247) hx hb dL_law_32 (by rw [cs_3]; decide) (by rw [cs_3]; decide) (by rw [cs_3]; rfl) (by decide) ?_
              obtain ⟨x, y, hfx, hfy, he, hR1⟩ := op_lose hR (xs (x3 + 1).toNatClampNeg)
              refine lv_aload_n hx hb dL_law_279 rfl (lv_at hl 1 rfl) ?_
              refine lv_aload_n hx hb dL_law_280 rfl (lv_at hl 0 rfl) ?_
              refine lv_iload_n hx hb dL_law_281 rfl (lv_at hl 3 rfl) ?_
              refine lv_iconst (v := 1) hx hb dL_law_282 (by decide) ?_
              refine lv_iadd hx hb dL_law_283 ?_
              refine va_sld hx hb hX hbl hbA hS (hix 1 (by decide)) dL_law_284 ?_
              refine lCi (As := [.int (xs (x3 + 1).toNatClampNeg)]) (rest := []) ⟨hx, hb, hml, hown, hts⟩ (c_X8_lose (dT := dT) hDX hfx) (cwV 1 hts (good_V tG_sub k_273 k_274 k_275 k_1 k_276) rfl rfl rfl (by decide +kernel) (by decide)) (va_recv hK hP (ci := 7) (q0 := 0) rfl rfl) hK hP hS hAX rfl hl.1 rfl (Nat.le_of_ble_eq_true rfl) dL_law_285 (by decide) hM (fun k p hk hq => hXM _ hq ((mD.w hDM).2 k p hk)) (fun H locs hP hM hS => ?_)
              refine lv_aload_n hx hb dL_law_288 rfl (lv_at hl 2 rfl) ?_
              refine lv_aload_n hx hb dL_law_289 rfl (lv_at hl 0 rfl) ?_
              refine lv_iload_n hx hb dL_law_290 rfl (lv_at hl 3 rfl) ?_
              refine lv_iconst (v := 1) hx hb dL_law_291 (by decide) ?_
              refine lv_iadd hx hb dL_law_292 ?_
              refine va_sld hx hb hX hbl hbA hS (hix 1 (by decide)) dL_law_293 ?_
              refine lCi (As := [.int (xs (x3 + 1).toNatClampNeg)]) (rest := [.int x.1]) ⟨hx, hb, hml, hown, hts⟩ (c_X9_lose (dT := dT) hDM hfy) (cwV 1 hts (good_V tG_sub k_849 k_850 k_851 k_9 k_852) rfl rfl rfl (by decide +kernel) (by decide)) (va_recv hK hM (ci := 8) (q0 := 0) rfl rfl) hK hM hS hAM rfl hl.1 rfl (Nat.le_of_ble_eq_true rfl) dL_law_294 (by decide) hP (fun k p hk hq => hXM _ ((xD.w hDX).2 k p hk) hq) (fun H locs hM hP hS => ?_)
              refine lv_icmp_eq (tgt := 864) hx hb dL_law_297 (by decide) (fun _ => ?_) (fun k1 => absurd he k1)
              refine lv_iinc (v := x3 + 5) (lv' := [(3, .int (x3 + 5)), (0, .ref b), (1, .ref (q 0)), (2, .ref (r 0))]) hx hb dL_law_864 hl (k := 3) rfl rfl (by decide) rfl (fun ls hl => ?_)
              refine lv_goto (tgt := 18) hx hb dL_law_867 (by decide) ?_
              exact ih (i + 5) _ _ _ _ _ _ _ _ _ _ _ _ _ _ _ _ (by omega) (by omega) (by rw [hx3]; exact nI_add i 5) hR1 _ _ _ hP hM hS (lv_sub hl [1, 2, 3, 0] rfl)
            · by_cases cs_4 : (xs x3.toNatClampNeg &&& 31) = 4
              · refine lv_tableIn (tgt := 302) (off := 270) hx hb dL_law_32 (by rw [cs_4]; decide) (by rw [cs_4]; decide) (by rw [cs_4]; rfl) (by decide) ?_
                obtain ⟨x, y, hfx, hfy, he, hR1⟩ := op_glass hR (xs (x3 + 1).toNatClampNeg) (xs (x3 + 2).toNatClampNeg) (xs (x3 + 3).toNatClampNeg) (xs (x3 + 4).toNatClampNeg)
                refine lv_aload_n hx hb dL_law_302 rfl (lv_at hl 1 rfl) ?_
                refine lv_aload_n hx hb dL_law_303 rfl (lv_at hl 0 rfl) ?_
                refine lv_iload_n hx hb dL_law_304 rfl (lv_at hl 3 rfl) ?_
                refine lv_iconst (v := 1) hx hb dL_law_305 (by decide) ?_
                refine lv_iadd hx hb dL_law_306 ?_
                refine va_sld hx hb hX hbl hbA hS (hix 1 (by decide)) dL_law_307 ?_
                refine lv_aload_n hx hb dL_law_308 rfl (lv_at hl 0 rfl) ?_
                refine lv_iload_n hx hb dL_law_309 rfl (lv_at hl 3 rfl) ?_
                refine lv_iconst (v := 2) hx hb dL_law_310 (by decide) ?_
                refine lv_iadd hx hb dL_law_311 ?_
                refine va_sld hx hb hX hbl hbA hS (hix 2 (by decide)) dL_law_312 ?_
                refine lv_aload_n hx hb dL_law_313 rfl (lv_at hl 0 rfl) ?_
                refine lv_iload_n hx hb dL_law_314 rfl (lv_at hl 3 rfl) ?_
                refine lv_iconst (v := 3) hx hb dL_law_315 (by decide) ?_
                refine lv_iadd hx hb dL_law_316 ?_
                refine va_sld hx hb hX hbl hbA hS (hix 3 (by decide)) dL_law_317 ?_
                refine lv_aload_n hx hb dL_law_318 rfl (lv_at hl 0 rfl) ?_
                refine lv_iload_n hx hb dL_law_319 rfl (lv_at hl 3 rfl) ?_
                refine lv_iconst (v := 4) hx hb dL_law_320 (by decide) ?_
                refine lv_iadd hx hb dL_law_321 ?_
                refine va_sld hx hb hX hbl hbA hS (hix 4 (by decide)) dL_law_322 ?_
                refine lCi (As := [.int (xs (x3 + 1).toNatClampNeg), .int (xs (x3 + 2).toNatClampNeg), .int (xs (x3 + 3).toNatClampNeg), .int (xs (x3 + 4).toNatClampNeg)]) (rest := []) ⟨hx, hb, hml, hown, hts⟩ (c_X8_glass (dT := dT) hDX hfx) (cwV 4 hts (good_V tG_sub k_281 k_282 k_283 k_1 k_284) rfl rfl rfl (by decide +kernel) (by decide)) (va_recv hK hP (ci := 7) (q0 := 0) rfl rfl) hK hP hS hAX rfl hl.1 rfl (Nat.le_of_ble_eq_true rfl) dL_law_323 (by decide) hM (fun k p hk hq => hXM _ hq ((mD.w hDM).2 k p hk)) (fun H locs hP hM hS => ?_)
                refine lv_aload_n hx hb dL_law_326 rfl (lv_at hl 2 rfl) ?_
                refine lv_aload_n hx hb dL_law_327 rfl (lv_at hl 0 rfl) ?_
                refine lv_iload_n hx hb dL_law_328 rfl (lv_at hl 3 rfl) ?_
                refine lv_iconst (v := 1) hx hb dL_law_329 (by decide) ?_
                refine lv_iadd hx hb dL_law_330 ?_
                refine va_sld hx hb hX hbl hbA hS (hix 1 (by decide)) dL_law_331 ?_
                refine lv_aload_n hx hb dL_law_332 rfl (lv_at hl 0 rfl) ?_
                refine lv_iload_n hx hb dL_law_333 rfl (lv_at hl 3 rfl) ?_
                refine lv_iconst (v := 2) hx hb dL_law_334 (by decide) ?_
                refine lv_iadd hx hb dL_law_335 ?_
                refine va_sld hx hb hX hbl hbA hS (hix 2 (by decide)) dL_law_336 ?_
                refine lv_aload_n hx hb dL_law_337 rfl (lv_at hl 0 rfl) ?_
                refine lv_iload_n hx hb dL_law_338 rfl (lv_at hl 3 rfl) ?_
                refine lv_iconst (v := 3) hx hb dL_law_339 (by decide) ?_
                refine lv_iadd hx hb dL_law_340 ?_
                refine va_sld hx hb hX hbl hbA hS (hix 3 (by decide)) dL_law_341 ?_
                refine lv_aload_n hx hb dL_law_342 rfl (lv_at hl 0 rfl) ?_
                refine lv_iload_n hx hb dL_law_343 rfl (lv_at hl 3 rfl) ?_
                refine lv_iconst (v := 4) hx hb dL_law_344 (by decide) ?_
                refine lv_iadd hx hb dL_law_345 ?_
                refine va_sld hx hb hX hbl hbA hS (hix 4 (by decide)) dL_law_346 ?_
                refine lCi (As := [.int (xs (x3 + 1).toNatClampNeg), .int (xs (x3 + 2).toNatClampNeg), .int (xs (x3 + 3).toNatClampNeg), .int (xs (x3 + 4).toNatClampNeg)]) (rest := [.int x.1]) ⟨hx, hb, hml, hown, hts⟩ (c_X9_glass (dT := dT) hDM hfy) (cwV 4 hts (good_V tG_sub k_853 k_854 k_855 k_9 k_856) rfl rfl rfl (by decide +kernel) (by decide)) (va_recv hK hM (ci := 8) (q0 := 0) rfl rfl) hK hM hS hAM rfl hl.1 rfl (Nat.le_of_ble_eq_true rfl) dL_law_347 (by decide) hP (fun k p hk hq => hXM _ ((xD.w hDX).2 k p hk) hq) (fun H locs hM hP hS => ?_)
                refine lv_icmp_eq (tgt := 864) hx hb dL_law_350 (by decide) (fun _ => ?_) (fun k1 => absurd he k1)
                refine lv_iinc (v := x3 + 5) (lv' := [(3, .int (x3 + 5)), (0, .ref b), (1, .ref (q 0)), (2, .ref (r 0))]) hx hb dL_law_864 hl (k := 3) rfl rfl (by decide) rfl (fun ls hl => ?_)
                refine lv_goto (tgt := 18) hx hb dL_law_867 (by decide) ?_
                exact ih (i + 5) _ _ _ _ _ _ _ _ _ _ _ _ _ _ _ _ (by omega) (by omega) (by rw [hx3]; exact nI_add i 5) hR1 _ _ _ hP hM hS (lv_sub hl [1, 2, 3, 0] rfl)
              · by_cases cs_5 : (xs x3.toNatClampNeg &&& 31) = 5
                · refine lv_tableIn (tgt := 355) (off := 323) hx hb dL_law_32 (by rw [cs_5]; decide) (by rw [cs_5]; decide) (by rw [cs_5]; rfl) (by decide) ?_
                  obtain ⟨x, y, hfx, hfy, he, hR1⟩ := op_fill hR (xs (x3 + 1).toNatClampNeg) (xs (x3 + 2).toNatClampNeg) (xs (x3 + 3).toNatClampNeg)
                  refine lv_aload_n hx hb dL_law_355 rfl (lv_at hl 1 rfl) ?_
                  refine lv_aload_n hx hb dL_law_356 rfl (lv_at hl 0 rfl) ?_
                  refine lv_iload_n hx hb dL_law_357 rfl (lv_at hl 3 rfl) ?_
                  refine lv_iconst (v := 1) hx hb dL_law_358 (by decide) ?_
                  refine lv_iadd hx hb dL_law_359 ?_
                  refine va_sld hx hb hX hbl hbA hS (hix 1 (by decide)) dL_law_360 ?_
                  refine lv_aload_n hx hb dL_law_361 rfl (lv_at hl 0 rfl) ?_
                  refine lv_iload_n hx hb dL_law_362 rfl (lv_at hl 3 rfl) ?_
                  refine lv_iconst (v := 2) hx hb dL_law_363 (by decide) ?_
                  refine lv_iadd hx hb dL_law_364 ?_
                  refine va_sld hx hb hX hbl hbA hS (hix 2 (by decide)) dL_law_365 ?_
                  refine lv_aload_n hx hb dL_law_366 rfl (lv_at hl 0 rfl) ?_
                  refine lv_iload_n hx hb dL_law_367 rfl (lv_at hl 3 rfl) ?_
                  refine lv_iconst (v := 3) hx hb dL_law_368 (by decide) ?_
                  refine lv_iadd hx hb dL_law_369 ?_
                  refine va_sld hx hb hX hbl hbA hS (hix 3 (by decide)) dL_law_370 ?_
                  refine lCi (As := [.int (xs (x3 + 1).toNatClampNeg), .int (xs (x3 + 2).toNatClampNeg), .int (xs (x3 + 3).toNatClampNeg)]) (rest := []) ⟨hx, hb, hml, hown, hts⟩ (c_X8_fill (dT := dT) hDX hfx) (cwV 3 hts (good_V tG_sub k_328 k_329 k_330 k_1 k_331) rfl rfl rfl (by decide +kernel) (by decide)) (va_recv hK hP (ci := 7) (q0 := 0) rfl rfl) hK hP hS hAX rfl hl.1 rfl (Nat.le_of_ble_eq_true rfl) dL_law_371 (by decide) hM (fun k p hk hq => hXM _ hq ((mD.w hDM).2 k p hk)) (fun H locs hP hM hS => ?_)
                  refine lv_aload_n hx hb dL_law_374 rfl (lv_at hl 2 rfl) ?_
                  refine lv_aload_n hx hb dL_law_375 rfl (lv_at hl 0 rfl) ?_
                  refine lv_iload_n hx hb dL_law_376 rfl (lv_at hl 3 rfl) ?_
                  refine lv_iconst (v := 1) hx hb dL_law_377 (by decide) ?_
                  refine lv_iadd hx hb dL_law_378 ?_
                  refine va_sld hx hb hX hbl hbA hS (hix 1 (by decide)) dL_law_379 ?_
                  refine lv_aload_n hx hb dL_law_380 rfl (lv_at hl 0 rfl) ?_
                  refine lv_iload_n hx hb dL_law_381 rfl (lv_at hl 3 rfl) ?_
                  refine lv_iconst (v := 2) hx hb dL_law_382 (by decide) ?_
                  refine lv_iadd hx hb dL_law_383 ?_
                  refine va_sld hx hb hX hbl hbA hS (hix 2 (by decide)) dL_law_384 ?_
                  refine lv_aload_n hx hb dL_law_385 rfl (lv_at hl 0 rfl) ?_
                  refine lv_iload_n hx hb dL_law_386 rfl (lv_at hl 3 rfl) ?_
                  refine lv_iconst (v := 3) hx hb dL_law_387 (by decide) ?_
                  refine lv_iadd hx hb dL_law_388 ?_
                  refine va_sld hx hb hX hbl hbA hS (hix 3 (by decide)) dL_law_389 ?_
                  refine lCi (As := [.int (xs (x3 + 1).toNatClampNeg), .int (xs (x3 + 2).toNatClampNeg), .int (xs (x3 + 3).toNatClampNeg)]) (rest := [.int x.1]) ⟨hx, hb, hml, hown, hts⟩ (c_X9_fill (dT := dT) hDM hfy) (cwV 3 hts (good_V tG_sub k_865 k_866 k_867 k_9 k_868) rfl rfl rfl (by decide +kernel) (by decide)) (va_recv hK hM (ci := 8) (q0 := 0) rfl rfl) hK hM hS hAM rfl hl.1 rfl (Nat.le_of_ble_eq_true rfl) dL_law_390 (by decide) hP (fun k p hk hq => hXM _ ((xD.w hDX).2 k p hk) hq) (fun H locs hM hP hS => ?_)
                  refine lv_icmp_eq (tgt := 864) hx hb dL_law_393 (by decide) (fun _ => ?_) (fun k1 => absurd he k1)
                  refine lv_iinc (v := x3 + 5) (lv' := [(3, .int (x3 + 5)), (0, .ref b), (1, .ref (q 0)), (2, .ref (r 0))]) hx hb dL_law_864 hl (k := 3) rfl rfl (by decide) rfl (fun ls hl => ?_)
                  refine lv_goto (tgt := 18) hx hb dL_law_867 (by decide) ?_
                  exact ih (i + 5) _ _ _ _ _ _ _ _ _ _ _ _ _ _ _ _ (by omega) (by omega) (by rw [hx3]; exact nI_add i 5) hR1 _ _ _ hP hM hS (lv_sub hl [1, 2, 3, 0] rfl)
                · by_cases cs_6 : (xs x3.toNatClampNeg &&& 31) = 6
                  · refine lv_tableIn (tgt := 398) (off := 366) hx hb dL_law_32 (by rw [cs_6]; decide) (by rw [cs_6]; decide) (by rw [cs_6]; rfl) (by decide) ?_
                    obtain ⟨x, y, hfx, hfy, he, hR1⟩ := op_clear hR 
                    refine lv_aload_n hx hb dL_law_398 rfl (lv_at hl 1 rfl) ?_
                    refine lCi (As := []) (rest := []) ⟨hx, hb, hml, hown, hts⟩ (c_X8_clear (dT := dT) hDX hfx) (cwV 0 hts (good_V tG_sub k_337 k_338 k_339 k_1 k_340) rfl rfl rfl (by decide +kernel) (by decide)) (va_recv hK hP (ci := 7) (q0 := 0) rfl rfl) hK hP hS hAX rfl hl.1 rfl (Nat.le_of_ble_eq_true rfl) dL_law_399 (by decide) hM (fun k p hk hq => hXM _ hq ((mD.w hDM).2 k p hk)) (fun H locs hP hM hS => ?_)
                    refine lv_aload_n hx hb dL_law_402 rfl (lv_at hl 2 rfl) ?_
                    refine lCi (As := []) (rest := [.int x.1]) ⟨hx, hb, hml, hown, hts⟩ (c_X9_clear (dT := dT) hDM hfy) (cwV 0 hts (good_V tG_sub k_869 k_870 k_871 k_9 k_872) rfl rfl rfl (by decide +kernel) (by decide)) (va_recv hK hM (ci := 8) (q0 := 0) rfl rfl) hK hM hS hAM rfl hl.1 rfl (Nat.le_of_ble_eq_true rfl) dL_law_403 (by decide) hP (fun k p hk hq => hXM _ ((xD.w hDX).2 k p hk) hq) (fun H locs hM hP hS => ?_)
                    refine lv_icmp_eq (tgt := 864) hx hb dL_law_406 (by decide) (fun _ => ?_) (fun k1 => absurd he k1)
                    refine lv_iinc (v := x3 + 5) (lv' := [(3, .int (x3 + 5)), (0, .ref b), (1, .ref (q 0)), (2, .ref (r 0))]) hx hb dL_law_864 hl (k := 3) rfl rfl (by decide) rfl (fun ls hl => ?_)
                    refine lv_goto (tgt := 18) hx hb dL_law_867 (by decide) ?_
                    exact ih (i + 5) _ _ _ _ _ _ _ _ _ _ _ _ _ _ _ _ (by omega) (by omega) (by rw [hx3]; exact nI_add i 5) hR1 _ _ _ hP hM hS (lv_sub hl [1, 2, 3, 0] rfl)
                  · by_cases cs_7 : (xs x3.toNatClampNeg &&& 31) = 7
                    · refine lv_tableIn (tgt := 411) (off := 379) hx hb dL_law_32 (by rw [cs_7]; decide) (by rw [cs_7]; decide) (by rw [cs_7]; rfl) (by decide) ?_
                      obtain ⟨x, y, hfx, hfy, he, hR1⟩ := op_of hR (xs (x3 + 1).toNatClampNeg) (xs (x3 + 2).toNatClampNeg)
                      refine lv_aload_n hx hb dL_law_411 rfl (lv_at hl 1 rfl) ?_
                      refine lv_aload_n hx hb dL_law_412 rfl (lv_at hl 0 rfl) ?_
                      refine lv_iload_n hx hb dL_law_413 rfl (lv_at hl 3 rfl) ?_
                      refine lv_iconst (v := 1) hx hb dL_law_414 (by decide) ?_
                      refine lv_iadd hx hb dL_law_415 ?_
                      refine va_sld hx hb hX hbl hbA hS (hix 1 (by decide)) dL_law_416 ?_
                      refine lv_aload_n hx hb dL_law_417 rfl (lv_at hl 0 rfl) ?_
                      refine lv_iload_n hx hb dL_law_418 rfl (lv_at hl 3 rfl) ?_
                      refine lv_iconst (v := 2) hx hb dL_law_419 (by decide) ?_
                      refine lv_iadd hx hb dL_law_420 ?_
                      refine va_sld hx hb hX hbl hbA hS (hix 2 (by decide)) dL_law_421 ?_
                      refine lCi (As := [.int (xs (x3 + 1).toNatClampNeg), .int (xs (x3 + 2).toNatClampNeg)]) (rest := []) ⟨hx, hb, hml, hown, hts⟩ (c_X8_of (dT := dT) hDX hfx) (cwV 2 hts (good_V tG_sub k_349 k_350 k_351 k_1 k_352) rfl rfl rfl (by decide +kernel) (by decide)) (va_recv hK hP (ci := 7) (q0 := 0) rfl rfl) hK hP hS hAX rfl hl.1 rfl (Nat.le_of_ble_eq_true rfl) dL_law_422 (by decide) hM (fun k p hk hq => hXM _ hq ((mD.w hDM).2 k p hk)) (fun H locs hP hM hS => ?_)
                      refine lv_aload_n hx hb dL_law_425 rfl (lv_at hl 2 rfl) ?_
                      refine lv_aload_n hx hb dL_law_426 rfl (lv_at hl 0 rfl) ?_
                      refine lv_iload_n hx hb dL_law_427 rfl (lv_at hl 3 rfl) ?_
                      refine lv_iconst (v := 1) hx hb dL_law_428 (by decide) ?_
                      refine lv_iadd hx hb dL_law_429 ?_
                      refine va_sld hx hb hX hbl hbA hS (hix 1 (by decide)) dL_law_430 ?_
                      refine lv_aload_n hx hb dL_law_431 rfl (lv_at hl 0 rfl) ?_
                      refine lv_iload_n hx hb dL_law_432 rfl (lv_at hl 3 rfl) ?_
                      refine lv_iconst (v := 2) hx hb dL_law_433 (by decide) ?_
                      refine lv_iadd hx hb dL_law_434 ?_
                      refine va_sld hx hb hX hbl hbA hS (hix 2 (by decide)) dL_law_435 ?_
                      refine lCi (As := [.int (xs (x3 + 1).toNatClampNeg), .int (xs (x3 + 2).toNatClampNeg)]) (rest := [.int x]) ⟨hx, hb, hml, hown, hts⟩ (c_X9_of (dT := dT) hDM hfy) (cwV 2 hts (good_V tG_sub k_873 k_874 k_875 k_9 k_876) rfl rfl rfl (by decide +kernel) (by decide)) (va_recv hK hM (ci := 8) (q0 := 0) rfl rfl) hK hM hS hAM rfl hl.1 rfl (Nat.le_of_ble_eq_true rfl) dL_law_436 (by decide) hP (fun k p hk hq => hXM _ ((xD.w hDX).2 k p hk) hq) (fun H locs hM hP hS => ?_)
                      refine lv_icmp_eq (tgt := 864) hx hb dL_law_439 (by decide) (fun _ => ?_) (fun k1 => absurd he k1)
                      refine lv_iinc (v := x3 + 5) (lv' := [(3, .int (x3 + 5)), (0, .ref b), (1, .ref (q 0)), (2, .ref (r 0))]) hx hb dL_law_864 hl (k := 3) rfl rfl (by decide) rfl (fun ls hl => ?_)
                      refine lv_goto (tgt := 18) hx hb dL_law_867 (by decide) ?_
                      exact ih (i + 5) _ _ _ _ _ _ _ _ _ _ _ _ _ _ _ _ (by omega) (by omega) (by rw [hx3]; exact nI_add i 5) hR1 _ _ _ hP hM hS (lv_sub hl [1, 2, 3, 0] rfl)
                    · by_cases cs_8 : (xs x3.toNatClampNeg &&& 31) = 8
                      · refine lv_tableIn (tgt := 444) (off := 412) hx hb dL_law_32 (by rw [cs_8]; decide) (by rw [cs_8]; decide) (by rw [cs_8]; rfl) (by decide) ?_
                        obtain ⟨x, y, hfx, hfy, he, hR1⟩ := op_glasses hR 
                        refine lv_aload_n hx hb dL_law_444 rfl (lv_at hl 1 rfl) ?_
                        refine lCi (As := []) (rest := []) ⟨hx, hb, hml, hown, hts⟩ (c_X8_glasses (dT := dT) hDX hfx) (cwV 0 hts (good_V tG_sub k_373 k_374 k_375 k_1 k_376) rfl rfl rfl (by decide +kernel) (by decide)) (va_recv hK hP (ci := 7) (q0 := 0) rfl rfl) hK hP hS hAX rfl hl.1 rfl (Nat.le_of_ble_eq_true rfl) dL_law_445 (by decide) hM (fun k p hk hq => hXM _ hq ((mD.w hDM).2 k p hk)) (fun H locs hP hM hS => ?_)
                        refine lv_aload_n hx hb dL_law_448 rfl (lv_at hl 2 rfl) ?_
                        refine lCi (As := []) (rest := [.int x]) ⟨hx, hb, hml, hown, hts⟩ (c_X9_glasses (dT := dT) hDM hfy) (cwV 0 hts (good_V tG_sub k_893 k_894 k_895 k_9 k_896) rfl rfl rfl (by decide +kernel) (by decide)) (va_recv hK hM (ci := 8) (q0 := 0) rfl rfl) hK hM hS hAM rfl hl.1 rfl (Nat.le_of_ble_eq_true rfl) dL_law_449 (by decide) hP (fun k p hk hq => hXM _ ((xD.w hDX).2 k p hk) hq) (fun H locs hM hP hS => ?_)
                        refine lv_icmp_eq (tgt := 864) hx hb dL_law_452 (by decide) (fun _ => ?_) (fun k1 => absurd he k1)
                        refine lv_iinc (v := x3 + 5) (lv' := [(3, .int (x3 + 5)), (0, .ref b), (1, .ref (q 0)), (2, .ref (r 0))]) hx hb dL_law_864 hl (k := 3) rfl rfl (by decide) rfl (fun ls hl => ?_)
                        refine lv_goto (tgt := 18) hx hb dL_law_867 (by decide) ?_
                        exact ih (i + 5) _ _ _ _ _ _ _ _ _ _ _ _ _ _ _ _ (by omega) (by omega) (by rw [hx3]; exact nI_add i 5) hR1 _ _ _ hP hM hS (lv_sub hl [1, 2, 3, 0] rfl)
                      · by_cases cs_9 : (xs x3.toNatClampNeg &&& 31) = 9
                        · refine lv_tableIn (tgt := 457) (off := 425) hx hb dL_law_32 (by rw [cs_9]; decide) (by rw [cs_9]; decide) (by rw [cs_9]; rfl) (by decide) ?_
                          obtain ⟨x, y, hfx, hfy, he, hR1⟩ := op_can hR (xs (x3 + 1).toNatClampNeg)
                          refine lv_aload_n hx hb dL_law_457 rfl (lv_at hl 1 rfl) ?_
                          refine lv_aload_n hx hb dL_law_458 rfl (lv_at hl 0 rfl) ?_
                          refine lv_iload_n hx hb dL_law_459 rfl (lv_at hl 3 rfl) ?_
                          refine lv_iconst (v := 1) hx hb dL_law_460 (by decide) ?_
                          refine lv_iadd hx hb dL_law_461 ?_
                          refine va_sld hx hb hX hbl hbA hS (hix 1 (by decide)) dL_law_462 ?_
                          refine lCi (As := [.int (xs (x3 + 1).toNatClampNeg)]) (rest := []) ⟨hx, hb, hml, hown, hts⟩ (c_X8_can (dT := dT) hDX hfx) (cwV 1 hts (good_V tG_sub k_377 k_378 k_379 k_1 k_380) rfl rfl rfl (by decide +kernel) (by decide)) (va_recv hK hP (ci := 7) (q0 := 0) rfl rfl) hK hP hS hAX rfl hl.1 rfl (Nat.le_of_ble_eq_true rfl) dL_law_463 (by decide) hM (fun k p hk hq => hXM _ hq ((mD.w hDM).2 k p hk)) (fun H locs hP hM hS => ?_)
                          refine lv_aload_n hx hb dL_law_466 rfl (lv_at hl 2 rfl) ?_
                          refine lv_aload_n hx hb dL_law_467 rfl (lv_at hl 0 rfl) ?_
                          refine lv_iload_n hx hb dL_law_468 rfl (lv_at hl 3 rfl) ?_
                          refine lv_iconst (v := 1) hx hb dL_law_469 (by decide) ?_
                          refine lv_iadd hx hb dL_law_470 ?_
                          refine va_sld hx hb hX hbl hbA hS (hix 1 (by decide)) dL_law_471 ?_
                          refine lCi (As := [.int (xs (x3 + 1).toNatClampNeg)]) (rest := [.int x]) ⟨hx, hb, hml, hown, hts⟩ (c_X9_can (dT := dT) hDM hfy) (cwV 1 hts (good_V tG_sub k_897 k_898 k_899 k_9 k_900) rfl rfl rfl (by decide +kernel) (by decide)) (va_recv hK hM (ci := 8) (q0 := 0) rfl rfl) hK hM hS hAM rfl hl.1 rfl (Nat.le_of_ble_eq_true rfl) dL_law_472 (by decide) hP (fun k p hk hq => hXM _ ((xD.w hDX).2 k p hk) hq) (fun H locs hM hP hS => ?_)
                          refine lv_icmp_eq (tgt := 864) hx hb dL_law_475 (by decide) (fun _ => ?_) (fun k1 => absurd he k1)
                          refine lv_iinc (v := x3 + 5) (lv' := [(3, .int (x3 + 5)), (0, .ref b), (1, .ref (q 0)), (2, .ref (r 0))]) hx hb dL_law_864 hl (k := 3) rfl rfl (by decide) rfl (fun ls hl => ?_)
                          refine lv_goto (tgt := 18) hx hb dL_law_867 (by decide) ?_
                          exact ih (i + 5) _ _ _ _ _ _ _ _ _ _ _ _ _ _ _ _ (by omega) (by omega) (by rw [hx3]; exact nI_add i 5) hR1 _ _ _ hP hM hS (lv_sub hl [1, 2, 3, 0] rfl)
                        · by_cases cs_10 : (xs x3.toNatClampNeg &&& 31) = 10
                          · refine lv_tableIn (tgt := 480) (off := 448) hx hb dL_law_32 (by rw [cs_10]; decide) (by rw [cs_10]; decide) (by rw [cs_10]; rfl) (by decide) ?_
                            obtain ⟨x, y, hfx, hfy, he, hR1⟩ := op_hand hR (xs (x3 + 1).toNatClampNeg)
                            refine lv_aload_n hx hb dL_law_480 rfl (lv_at hl 1 rfl) ?_
                            refine lv_aload_n hx hb dL_law_481 rfl (lv_at hl 0 rfl) ?_
                            refine lv_iload_n hx hb dL_law_482 rfl (lv_at hl 3 rfl) ?_
                            refine lv_iconst (v := 1) hx hb dL_law_483 (by decide) ?_
                            refine lv_iadd hx hb dL_law_484 ?_
                            refine va_sld hx hb hX hbl hbA hS (hix 1 (by decide)) dL_law_485 ?_
                            refine lCi (As := [.int (xs (x3 + 1).toNatClampNeg)]) (rest := []) ⟨hx, hb, hml, hown, hts⟩ (c_X8_hand (dT := dT) hDX hfx) (cwV 1 hts (good_V tG_sub k_406 k_407 k_408 k_1 k_409) rfl rfl rfl (by decide +kernel) (by decide)) (va_recv hK hP (ci := 7) (q0 := 0) rfl rfl) hK hP hS hAX rfl hl.1 rfl (Nat.le_of_ble_eq_true rfl) dL_law_486 (by decide) hM (fun k p hk hq => hXM _ hq ((mD.w hDM).2 k p hk)) (fun H locs hP hM hS => ?_)
                            refine lv_aload_n hx hb dL_law_489 rfl (lv_at hl 2 rfl) ?_
                            refine lv_aload_n hx hb dL_law_490 rfl (lv_at hl 0 rfl) ?_
                            refine lv_iload_n hx hb dL_law_491 rfl (lv_at hl 3 rfl) ?_
                            refine lv_iconst (v := 1) hx hb dL_law_492 (by decide) ?_
                            refine lv_iadd hx hb dL_law_493 ?_
                            refine va_sld hx hb hX hbl hbA hS (hix 1 (by decide)) dL_law_494 ?_
                            refine lCi (As := [.int (xs (x3 + 1).toNatClampNeg)]) (rest := [.int x.1]) ⟨hx, hb, hml, hown, hts⟩ (c_X9_hand (dT := dT) hDM hfy) (cwV 1 hts (good_V tG_sub k_920 k_921 k_922 k_9 k_923) rfl rfl rfl (by decide +kernel) (by decide)) (va_recv hK hM (ci := 8) (q0 := 0) rfl rfl) hK hM hS hAM rfl hl.1 rfl (Nat.le_of_ble_eq_true rfl) dL_law_495 (by decide) hP (fun k p hk hq => hXM _ ((xD.w hDX).2 k p hk) hq) (fun H locs hM hP hS => ?_)
                            refine lv_icmp_eq (tgt := 864) hx hb dL_law_498 (by decide) (fun _ => ?_) (fun k1 => absurd he k1)
                            refine lv_iinc (v := x3 + 5) (lv' := [(3, .int (x3 + 5)), (0, .ref b), (1, .ref (q 0)), (2, .ref (r 0))]) hx hb dL_law_864 hl (k := 3) rfl rfl (by decide) rfl (fun ls hl => ?_)
                            refine lv_goto (tgt := 18) hx hb dL_law_867 (by decide) ?_
                            exact ih (i + 5) _ _ _ _ _ _ _ _ _ _ _ _ _ _ _ _ (by omega) (by omega) (by rw [hx3]; exact nI_add i 5) hR1 _ _ _ hP hM hS (lv_sub hl [1, 2, 3, 0] rfl)
                          · by_cases cs_11 : (xs x3.toNatClampNeg &&& 31) = 11
                            · refine lv_tableIn (tgt := 503) (off := 471) hx hb dL_law_32 (by rw [cs_11]; decide) (by rw [cs_11]; decide) (by rw [cs_11]; rfl) (by decide) ?_
                              obtain ⟨x, y, hfx, hfy, he, hR1⟩ := op_next hR 
                              refine lv_aload_n hx hb dL_law_503 rfl (lv_at hl 1 rfl) ?_
                              refine lCi (As := []) (rest := []) ⟨hx, hb, hml, hown, hts⟩ (c_X8_next (dT := dT) hDX hfx) (cwV 0 hts (good_V tG_sub k_448 k_449 k_450 k_1 k_451) rfl rfl rfl (by decide +kernel) (by decide)) (va_recv hK hP (ci := 7) (q0 := 0) rfl rfl) hK hP hS hAX rfl hl.1 rfl (Nat.le_of_ble_eq_true rfl) dL_law_504 (by decide) hM (fun k p hk hq => hXM _ hq ((mD.w hDM).2 k p hk)) (fun H locs hP hM hS => ?_)
                              refine lv_aload_n hx hb dL_law_507 rfl (lv_at hl 2 rfl) ?_
                              refine lCi (As := []) (rest := [.int x.1]) ⟨hx, hb, hml, hown, hts⟩ (c_X9_next (dT := dT) hDM hfy) (cwV 0 hts (good_V tG_sub k_939 k_940 k_941 k_9 k_942) rfl rfl rfl (by decide +kernel) (by decide)) (va_recv hK hM (ci := 8) (q0 := 0) rfl rfl) hK hM hS hAM rfl hl.1 rfl (Nat.le_of_ble_eq_true rfl) dL_law_508 (by decide) hP (fun k p hk hq => hXM _ ((xD.w hDX).2 k p hk) hq) (fun H locs hM hP hS => ?_)
                              refine lv_icmp_eq (tgt := 864) hx hb dL_law_511 (by decide) (fun _ => ?_) (fun k1 => absurd he k1)
                              refine lv_iinc (v := x3 + 5) (lv' := [(3, .int (x3 + 5)), (0, .ref b), (1, .ref (q 0)), (2, .ref (r 0))]) hx hb dL_law_864 hl (k := 3) rfl rfl (by decide) rfl (fun ls hl => ?_)
                              refine lv_goto (tgt := 18) hx hb dL_law_867 (by decide) ?_
                              exact ih (i + 5) _ _ _ _ _ _ _ _ _ _ _ _ _ _ _ _ (by omega) (by omega) (by rw [hx3]; exact nI_add i 5) hR1 _ _ _ hP hM hS (lv_sub hl [1, 2, 3, 0] rfl)
                            · by_cases cs_12 : (xs x3.toNatClampNeg &&& 31) = 12
                              · refine lv_tableIn (tgt := 516) (off := 484) hx hb dL_law_32 (by rw [cs_12]; decide) (by rw [cs_12]; decide) (by rw [cs_12]; rfl) (by decide) ?_
                                obtain ⟨x, y, hfx, hfy, he, hR1⟩ := op_undo hR 
                                refine lv_aload_n hx hb dL_law_516 rfl (lv_at hl 1 rfl) ?_
                                refine lCi (As := []) (rest := []) ⟨hx, hb, hml, hown, hts⟩ (c_X8_undo (dT := dT) hDX hfx) (cwV 0 hts (good_V tG_sub k_472 k_473 k_474 k_1 k_475) rfl rfl rfl (by decide +kernel) (by decide)) (va_recv hK hP (ci := 7) (q0 := 0) rfl rfl) hK hP hS hAX rfl hl.1 rfl (Nat.le_of_ble_eq_true rfl) dL_law_517 (by decide) hM (fun k p hk hq => hXM _ hq ((mD.w hDM).2 k p hk)) (fun H locs hP hM hS => ?_)
                                refine lv_aload_n hx hb dL_law_520 rfl (lv_at hl 2 rfl) ?_
                                refine lCi (As := []) (rest := [.int x.1]) ⟨hx, hb, hml, hown, hts⟩ (c_X9_undo (dT := dT) hDM hfy) (cwV 0 hts (good_V tG_sub k_951 k_952 k_953 k_9 k_954) rfl rfl rfl (by decide +kernel) (by decide)) (va_recv hK hM (ci := 8) (q0 := 0) rfl rfl) hK hM hS hAM rfl hl.1 rfl (Nat.le_of_ble_eq_true rfl) dL_law_521 (by decide) hP (fun k p hk hq => hXM _ ((xD.w hDX).2 k p hk) hq) (fun H locs hM hP hS => ?_)
                                refine lv_icmp_eq (tgt := 864) hx hb dL_law_524 (by decide) (fun _ => ?_) (fun k1 => absurd he k1)
                                refine lv_iinc (v := x3 + 5) (lv' := [(3, .int (x3 + 5)), (0, .ref b), (1, .ref (q 0)), (2, .ref (r 0))]) hx hb dL_law_864 hl (k := 3) rfl rfl (by decide) rfl (fun ls hl => ?_)
                                refine lv_goto (tgt := 18) hx hb dL_law_867 (by decide) ?_
                                exact ih (i + 5) _ _ _ _ _ _ _ _ _ _ _ _ _ _ _ _ (by omega) (by omega) (by rw [hx3]; exact nI_add i 5) hR1 _ _ _ hP hM hS (lv_sub hl [1, 2, 3, 0] rfl)
                              · by_cases cs_13 : (xs x3.toNatClampNeg &&& 31) = 13
                                · refine lv_tableIn (tgt := 529) (off := 497) hx hb dL_law_32 (by rw [cs_13]; decide) (by rw [cs_13]; decide) (by rw [cs_13]; rfl) (by decide) ?_
                                  obtain ⟨x, y, hfx, hfy, he, hR1⟩ := op_begin hR 
                                  refine lv_aload_n hx hb dL_law_529 rfl (lv_at hl 1 rfl) ?_
                                  refine lCi (As := []) (rest := []) ⟨hx, hb, hml, hown, hts⟩ (c_X8_begin (dT := dT) hDX hfx) (cwV 0 hts (good_V tG_sub k_480 k_481 k_482 k_1 k_483) rfl rfl rfl (by decide +kernel) (by decide)) (va_recv hK hP (ci := 7) (q0 := 0) rfl rfl) hK hP hS hAX rfl hl.1 rfl (Nat.le_of_ble_eq_true rfl) dL_law_530 (by decide) hM (fun k p hk hq => hXM _ hq ((mD.w hDM).2 k p hk)) (fun H locs hP hM hS => ?_)
                                  refine lv_aload_n hx hb dL_law_533 rfl (lv_at hl 2 rfl) ?_
                                  refine lCi (As := []) (rest := [.int x.1]) ⟨hx, hb, hml, hown, hts⟩ (c_X9_begin (dT := dT) hDM hfy) (cwV 0 hts (good_V tG_sub k_955 k_956 k_957 k_9 k_958) rfl rfl rfl (by decide +kernel) (by decide)) (va_recv hK hM (ci := 8) (q0 := 0) rfl rfl) hK hM hS hAM rfl hl.1 rfl (Nat.le_of_ble_eq_true rfl) dL_law_534 (by decide) hP (fun k p hk hq => hXM _ ((xD.w hDX).2 k p hk) hq) (fun H locs hM hP hS => ?_)
                                  refine lv_icmp_eq (tgt := 864) hx hb dL_law_537 (by decide) (fun _ => ?_) (fun k1 => absurd he k1)
                                  refine lv_iinc (v := x3 + 5) (lv' := [(3, .int (x3 + 5)), (0, .ref b), (1, .ref (q 0)), (2, .ref (r 0))]) hx hb dL_law_864 hl (k := 3) rfl rfl (by decide) rfl (fun ls hl => ?_)
                                  refine lv_goto (tgt := 18) hx hb dL_law_867 (by decide) ?_
                                  exact ih (i + 5) _ _ _ _ _ _ _ _ _ _ _ _ _ _ _ _ (by omega) (by omega) (by rw [hx3]; exact nI_add i 5) hR1 _ _ _ hP hM hS (lv_sub hl [1, 2, 3, 0] rfl)
                                · by_cases cs_14 : (xs x3.toNatClampNeg &&& 31) = 14
                                  · refine lv_tableIn (tgt := 542) (off := 510) hx hb dL_law_32 (by rw [cs_14]; decide) (by rw [cs_14]; decide) (by rw [cs_14]; rfl) (by decide) ?_
                                    obtain ⟨x, y, hfx, hfy, he, hR1⟩ := op_moment hR 
                                    refine lv_aload_n hx hb dL_law_542 rfl (lv_at hl 1 rfl) ?_
                                    refine lCi (As := []) (rest := []) ⟨hx, hb, hml, hown, hts⟩ (c_X8_moment (dT := dT) hDX hfx) (cwV 0 hts (good_V tG_sub k_484 k_485 k_486 k_1 k_487) rfl rfl rfl (by decide +kernel) (by decide)) (va_recv hK hP (ci := 7) (q0 := 0) rfl rfl) hK hP hS hAX rfl hl.1 rfl (Nat.le_of_ble_eq_true rfl) dL_law_543 (by decide) hM (fun k p hk hq => hXM _ hq ((mD.w hDM).2 k p hk)) (fun H locs hP hM hS => ?_)
                                    refine lv_aload_n hx hb dL_law_546 rfl (lv_at hl 2 rfl) ?_
                                    refine lCi (As := []) (rest := [.int x]) ⟨hx, hb, hml, hown, hts⟩ (c_X9_moment (dT := dT) hDM hfy) (cwV 0 hts (good_V tG_sub k_959 k_960 k_961 k_9 k_962) rfl rfl rfl (by decide +kernel) (by decide)) (va_recv hK hM (ci := 8) (q0 := 0) rfl rfl) hK hM hS hAM rfl hl.1 rfl (Nat.le_of_ble_eq_true rfl) dL_law_547 (by decide) hP (fun k p hk hq => hXM _ ((xD.w hDX).2 k p hk) hq) (fun H locs hM hP hS => ?_)
                                    refine lv_icmp_eq (tgt := 864) hx hb dL_law_550 (by decide) (fun _ => ?_) (fun k1 => absurd he k1)
                                    refine lv_iinc (v := x3 + 5) (lv' := [(3, .int (x3 + 5)), (0, .ref b), (1, .ref (q 0)), (2, .ref (r 0))]) hx hb dL_law_864 hl (k := 3) rfl rfl (by decide) rfl (fun ls hl => ?_)
                                    refine lv_goto (tgt := 18) hx hb dL_law_867 (by decide) ?_
                                    exact ih (i + 5) _ _ _ _ _ _ _ _ _ _ _ _ _ _ _ _ (by omega) (by omega) (by rw [hx3]; exact nI_add i 5) hR1 _ _ _ hP hM hS (lv_sub hl [1, 2, 3, 0] rfl)
                                  · by_cases cs_15 : (xs x3.toNatClampNeg &&& 31) = 15
                                    · refine lv_tableIn (tgt := 555) (off := 523) hx hb dL_law_32 (by rw [cs_15]; decide) (by rw [cs_15]; decide) (by rw [cs_15]; rfl) (by decide) ?_
                                      obtain ⟨x, y, hfx, hfy, he, hR1⟩ := op_event hR (xs (x3 + 1).toNatClampNeg)
                                      refine lv_aload_n hx hb dL_law_555 rfl (lv_at hl 1 rfl) ?_
                                      refine lv_aload_n hx hb dL_law_556 rfl (lv_at hl 0 rfl) ?_
                                      refine lv_iload_n hx hb dL_law_557 rfl (lv_at hl 3 rfl) ?_
                                      refine lv_iconst (v := 1) hx hb dL_law_558 (by decide) ?_
                                      refine lv_iadd hx hb dL_law_559 ?_
                                      refine va_sld hx hb hX hbl hbA hS (hix 1 (by decide)) dL_law_560 ?_
                                      refine lCi (As := [.int (xs (x3 + 1).toNatClampNeg)]) (rest := []) ⟨hx, hb, hml, hown, hts⟩ (c_X8_event (dT := dT) hDX hfx) (cwV 1 hts (good_V tG_sub k_489 k_490 k_491 k_1 k_492) rfl rfl rfl (by decide +kernel) (by decide)) (va_recv hK hP (ci := 7) (q0 := 0) rfl rfl) hK hP hS hAX rfl hl.1 rfl (Nat.le_of_ble_eq_true rfl) dL_law_561 (by decide) hM (fun k p hk hq => hXM _ hq ((mD.w hDM).2 k p hk)) (fun H locs hP hM hS => ?_)
                                      refine lv_aload_n hx hb dL_law_564 rfl (lv_at hl 2 rfl) ?_
                                      refine lv_aload_n hx hb dL_law_565 rfl (lv_at hl 0 rfl) ?_
                                      refine lv_iload_n hx hb dL_law_566 rfl (lv_at hl 3 rfl) ?_
                                      refine lv_iconst (v := 1) hx hb dL_law_567 (by decide) ?_
                                      refine lv_iadd hx hb dL_law_568 ?_
                                      refine va_sld hx hb hX hbl hbA hS (hix 1 (by decide)) dL_law_569 ?_
                                      refine lCi (As := [.int (xs (x3 + 1).toNatClampNeg)]) (rest := [.int x]) ⟨hx, hb, hml, hown, hts⟩ (c_X9_event (dT := dT) hDM hfy) (cwV 1 hts (good_V tG_sub k_963 k_964 k_965 k_9 k_966) rfl rfl rfl (by decide +kernel) (by decide)) (va_recv hK hM (ci := 8) (q0 := 0) rfl rfl) hK hM hS hAM rfl hl.1 rfl (Nat.le_of_ble_eq_true rfl) dL_law_570 (by decide) hP (fun k p hk hq => hXM _ ((xD.w hDX).2 k p hk) hq) (fun H locs hM hP hS => ?_)
                                      refine lv_icmp_eq (tgt := 864) hx hb dL_law_573 (by decide) (fun _ => ?_) (fun k1 => absurd he k1)
                                      refine lv_iinc (v := x3 + 5) (lv' := [(3, .int (x3 + 5)), (0, .ref b), (1, .ref (q 0)), (2, .ref (r 0))]) hx hb dL_law_864 hl (k := 3) rfl rfl (by decide) rfl (fun ls hl => ?_)
                                      refine lv_goto (tgt := 18) hx hb dL_law_867 (by decide) ?_
                                      exact ih (i + 5) _ _ _ _ _ _ _ _ _ _ _ _ _ _ _ _ (by omega) (by omega) (by rw [hx3]; exact nI_add i 5) hR1 _ _ _ hP hM hS (lv_sub hl [1, 2, 3, 0] rfl)
                                    · by_cases cs_16 : (xs x3.toNatClampNeg &&& 31) = 16
                                      · refine lv_tableIn (tgt := 578) (off := 546) hx hb dL_law_32 (by rw [cs_16]; decide) (by rw [cs_16]; decide) (by rw [cs_16]; rfl) (by decide) ?_
                                        obtain ⟨x, y, hfx, hfy, he, hR1⟩ := op_reach hR 
                                        refine lv_aload_n hx hb dL_law_578 rfl (lv_at hl 1 rfl) ?_
                                        refine lCi (As := []) (rest := []) ⟨hx, hb, hml, hown, hts⟩ (c_X8_reach (dT := dT) hDX hfx) (cwV 0 hts (good_V tG_sub k_497 k_498 k_499 k_1 k_500) rfl rfl rfl (by decide +kernel) (by decide)) (va_recv hK hP (ci := 7) (q0 := 0) rfl rfl) hK hP hS hAX rfl hl.1 rfl (Nat.le_of_ble_eq_true rfl) dL_law_579 (by decide) hM (fun k p hk hq => hXM _ hq ((mD.w hDM).2 k p hk)) (fun H locs hP hM hS => ?_)
                                        refine lv_aload_n hx hb dL_law_582 rfl (lv_at hl 2 rfl) ?_
                                        refine lCi (As := []) (rest := [.int x.1]) ⟨hx, hb, hml, hown, hts⟩ (c_X9_reach (dT := dT) hDM hfy) (cwV 0 hts (good_V tG_sub k_967 k_968 k_969 k_9 k_970) rfl rfl rfl (by decide +kernel) (by decide)) (va_recv hK hM (ci := 8) (q0 := 0) rfl rfl) hK hM hS hAM rfl hl.1 rfl (Nat.le_of_ble_eq_true rfl) dL_law_583 (by decide) hP (fun k p hk hq => hXM _ ((xD.w hDX).2 k p hk) hq) (fun H locs hM hP hS => ?_)
                                        refine lv_icmp_eq (tgt := 864) hx hb dL_law_586 (by decide) (fun _ => ?_) (fun k1 => absurd he k1)
                                        refine lv_iinc (v := x3 + 5) (lv' := [(3, .int (x3 + 5)), (0, .ref b), (1, .ref (q 0)), (2, .ref (r 0))]) hx hb dL_law_864 hl (k := 3) rfl rfl (by decide) rfl (fun ls hl => ?_)
                                        refine lv_goto (tgt := 18) hx hb dL_law_867 (by decide) ?_
                                        exact ih (i + 5) _ _ _ _ _ _ _ _ _ _ _ _ _ _ _ _ (by omega) (by omega) (by rw [hx3]; exact nI_add i 5) hR1 _ _ _ hP hM hS (lv_sub hl [1, 2, 3, 0] rfl)
                                      · by_cases cs_17 : (xs x3.toNatClampNeg &&& 31) = 17
                                        · refine lv_tableIn (tgt := 591) (off := 559) hx hb dL_law_32 (by rw [cs_17]; decide) (by rw [cs_17]; decide) (by rw [cs_17]; rfl) (by decide) ?_
                                          obtain ⟨x, y, hfx, hfy, he, hR1⟩ := op_config hR (xs (x3 + 1).toNatClampNeg) (xs (x3 + 2).toNatClampNeg) (xs (x3 + 3).toNatClampNeg)
                                          refine lv_aload_n hx hb dL_law_591 rfl (lv_at hl 1 rfl) ?_
                                          refine lv_aload_n hx hb dL_law_592 rfl (lv_at hl 0 rfl) ?_
                                          refine lv_iload_n hx hb dL_law_593 rfl (lv_at hl 3 rfl) ?_
                                          refine lv_iconst (v := 1) hx hb dL_law_594 (by decide) ?_
                                          refine lv_iadd hx hb dL_law_595 ?_
                                          refine va_sld hx hb hX hbl hbA hS (hix 1 (by decide)) dL_law_596 ?_
                                          refine lv_aload_n hx hb dL_law_597 rfl (lv_at hl 0 rfl) ?_
                                          refine lv_iload_n hx hb dL_law_598 rfl (lv_at hl 3 rfl) ?_
                                          refine lv_iconst (v := 2) hx hb dL_law_599 (by decide) ?_
                                          refine lv_iadd hx hb dL_law_600 ?_
                                          refine va_sld hx hb hX hbl hbA hS (hix 2 (by decide)) dL_law_601 ?_
                                          refine lv_aload_n hx hb dL_law_602 rfl (lv_at hl 0 rfl) ?_
                                          refine lv_iload_n hx hb dL_law_603 rfl (lv_at hl 3 rfl) ?_
                                          refine lv_iconst (v := 3) hx hb dL_law_604 (by decide) ?_
                                          refine lv_iadd hx hb dL_law_605 ?_
                                          refine va_sld hx hb hX hbl hbA hS (hix 3 (by decide)) dL_law_606 ?_
                                          refine lCi (As := [.int (xs (x3 + 1).toNatClampNeg), .int (xs (x3 + 2).toNatClampNeg), .int (xs (x3 + 3).toNatClampNeg)]) (rest := []) ⟨hx, hb, hml, hown, hts⟩ (c_X8_config (dT := dT) hDX hfx) (cwV 3 hts (good_V tG_sub k_541 k_542 k_543 k_1 k_544) rfl rfl rfl (by decide +kernel) (by decide)) (va_recv hK hP (ci := 7) (q0 := 0) rfl rfl) hK hP hS hAX rfl hl.1 rfl (Nat.le_of_ble_eq_true rfl) dL_law_607 (by decide) hM (fun k p hk hq => hXM _ hq ((mD.w hDM).2 k p hk)) (fun H locs hP hM hS => ?_)
                                          refine lv_aload_n hx hb dL_law_610 rfl (lv_at hl 2 rfl) ?_
                                          refine lv_aload_n hx hb dL_law_611 rfl (lv_at hl 0 rfl) ?_
                                          refine lv_iload_n hx hb dL_law_612 rfl (lv_at hl 3 rfl) ?_
                                          refine lv_iconst (v := 1) hx hb dL_law_613 (by decide) ?_
                                          refine lv_iadd hx hb dL_law_614 ?_
                                          refine va_sld hx hb hX hbl hbA hS (hix 1 (by decide)) dL_law_615 ?_
                                          refine lv_aload_n hx hb dL_law_616 rfl (lv_at hl 0 rfl) ?_
                                          refine lv_iload_n hx hb dL_law_617 rfl (lv_at hl 3 rfl) ?_
                                          refine lv_iconst (v := 2) hx hb dL_law_618 (by decide) ?_
                                          refine lv_iadd hx hb dL_law_619 ?_
                                          refine va_sld hx hb hX hbl hbA hS (hix 2 (by decide)) dL_law_620 ?_
                                          refine lv_aload_n hx hb dL_law_621 rfl (lv_at hl 0 rfl) ?_
                                          refine lv_iload_n hx hb dL_law_622 rfl (lv_at hl 3 rfl) ?_
                                          refine lv_iconst (v := 3) hx hb dL_law_623 (by decide) ?_
                                          refine lv_iadd hx hb dL_law_624 ?_
                                          refine va_sld hx hb hX hbl hbA hS (hix 3 (by decide)) dL_law_625 ?_
                                          refine lCi (As := [.int (xs (x3 + 1).toNatClampNeg), .int (xs (x3 + 2).toNatClampNeg), .int (xs (x3 + 3).toNatClampNeg)]) (rest := [.int x.1]) ⟨hx, hb, hml, hown, hts⟩ (c_X9_config (dT := dT) hDM hfy) (cwV 3 hts (good_V tG_sub k_996 k_997 k_998 k_9 k_999) rfl rfl rfl (by decide +kernel) (by decide)) (va_recv hK hM (ci := 8) (q0 := 0) rfl rfl) hK hM hS hAM rfl hl.1 rfl (Nat.le_of_ble_eq_true rfl) dL_law_626 (by decide) hP (fun k p hk hq => hXM _ ((xD.w hDX).2 k p hk) hq) (fun H locs hM hP hS => ?_)
                                          refine lv_icmp_eq (tgt := 864) hx hb dL_law_629 (by decide) (fun _ => ?_) (fun k1 => absurd he k1)
                                          refine lv_iinc (v := x3 + 5) (lv' := [(3, .int (x3 + 5)), (0, .ref b), (1, .ref (q 0)), (2, .ref (r 0))]) hx hb dL_law_864 hl (k := 3) rfl rfl (by decide) rfl (fun ls hl => ?_)
                                          refine lv_goto (tgt := 18) hx hb dL_law_867 (by decide) ?_
                                          exact ih (i + 5) _ _ _ _ _ _ _ _ _ _ _ _ _ _ _ _ (by omega) (by omega) (by rw [hx3]; exact nI_add i 5) hR1 _ _ _ hP hM hS (lv_sub hl [1, 2, 3, 0] rfl)
                                        · by_cases cs_18 : (xs x3.toNatClampNeg &&& 31) = 18
                                          · refine lv_tableIn (tgt := 634) (off := 602) hx hb dL_law_32 (by rw [cs_18]; decide) (by rw [cs_18]; decide) (by rw [cs_18]; rfl) (by decide) ?_
                                            obtain ⟨x, y, hfx, hfy, he, hR1⟩ := op_pure hR (xs (x3 + 1).toNatClampNeg)
                                            refine lv_aload_n hx hb dL_law_634 rfl (lv_at hl 1 rfl) ?_
                                            refine lv_aload_n hx hb dL_law_635 rfl (lv_at hl 0 rfl) ?_
                                            refine lv_iload_n hx hb dL_law_636 rfl (lv_at hl 3 rfl) ?_
                                            refine lv_iconst (v := 1) hx hb dL_law_637 (by decide) ?_
                                            refine lv_iadd hx hb dL_law_638 ?_
                                            refine va_sld hx hb hX hbl hbA hS (hix 1 (by decide)) dL_law_639 ?_
                                            refine lCi (As := [.int (xs (x3 + 1).toNatClampNeg)]) (rest := []) ⟨hx, hb, hml, hown, hts⟩ (c_X8_pure (dT := dT) hDX hfx) (cwV 1 hts (good_V tG_sub k_551 k_552 k_553 k_1 k_554) rfl rfl rfl (by decide +kernel) (by decide)) (va_recv hK hP (ci := 7) (q0 := 0) rfl rfl) hK hP hS hAX rfl hl.1 rfl (Nat.le_of_ble_eq_true rfl) dL_law_640 (by decide) hM (fun k p hk hq => hXM _ hq ((mD.w hDM).2 k p hk)) (fun H locs hP hM hS => ?_)
                                            refine lv_aload_n hx hb dL_law_643 rfl (lv_at hl 2 rfl) ?_
                                            refine lv_aload_n hx hb dL_law_644 rfl (lv_at hl 0 rfl) ?_
                                            refine lv_iload_n hx hb dL_law_645 rfl (lv_at hl 3 rfl) ?_
                                            refine lv_iconst (v := 1) hx hb dL_law_646 (by decide) ?_
                                            refine lv_iadd hx hb dL_law_647 ?_
                                            refine va_sld hx hb hX hbl hbA hS (hix 1 (by decide)) dL_law_648 ?_
                                            refine lCi (As := [.int (xs (x3 + 1).toNatClampNeg)]) (rest := [.int x.1]) ⟨hx, hb, hml, hown, hts⟩ (c_X9_pure (dT := dT) hDM hfy) (cwV 1 hts (good_V tG_sub k_1000 k_1001 k_1002 k_9 k_1003) rfl rfl rfl (by decide +kernel) (by decide)) (va_recv hK hM (ci := 8) (q0 := 0) rfl rfl) hK hM hS hAM rfl hl.1 rfl (Nat.le_of_ble_eq_true rfl) dL_law_649 (by decide) hP (fun k p hk hq => hXM _ ((xD.w hDX).2 k p hk) hq) (fun H locs hM hP hS => ?_)
                                            refine lv_icmp_eq (tgt := 864) hx hb dL_law_652 (by decide) (fun _ => ?_) (fun k1 => absurd he k1)
                                            refine lv_iinc (v := x3 + 5) (lv' := [(3, .int (x3 + 5)), (0, .ref b), (1, .ref (q 0)), (2, .ref (r 0))]) hx hb dL_law_864 hl (k := 3) rfl rfl (by decide) rfl (fun ls hl => ?_)
                                            refine lv_goto (tgt := 18) hx hb dL_law_867 (by decide) ?_
                                            exact ih (i + 5) _ _ _ _ _ _ _ _ _ _ _ _ _ _ _ _ (by omega) (by omega) (by rw [hx3]; exact nI_add i 5) hR1 _ _ _ hP hM hS (lv_sub hl [1, 2, 3, 0] rfl)
                                          · by_cases cs_19 : (xs x3.toNatClampNeg &&& 31) = 19
                                            · refine lv_tableIn (tgt := 657) (off := 625) hx hb dL_law_32 (by rw [cs_19]; decide) (by rw [cs_19]; decide) (by rw [cs_19]; rfl) (by decide) ?_
                                              obtain ⟨x, y, hfx, hfy, he, hR1⟩ := op_spans hR (xs (x3 + 1).toNatClampNeg)
                                              refine lv_aload_n hx hb dL_law_657 rfl (lv_at hl 1 rfl) ?_
                                              refine lv_aload_n hx hb dL_law_658 rfl (lv_at hl 0 rfl) ?_
                                              refine lv_iload_n hx hb dL_law_659 rfl (lv_at hl 3 rfl) ?_
                                              refine lv_iconst (v := 1) hx hb dL_law_660 (by decide) ?_
                                              refine lv_iadd hx hb dL_law_661 ?_
                                              refine va_sld hx hb hX hbl hbA hS (hix 1 (by decide)) dL_law_662 ?_
                                              refine lCi (As := [.int (xs (x3 + 1).toNatClampNeg)]) (rest := []) ⟨hx, hb, hml, hown, hts⟩ (c_X8_spans (dT := dT) hDX hfx) (cwV 1 hts (good_V tG_sub k_598 k_599 k_600 k_1 k_601) rfl rfl rfl (by decide +kernel) (by decide)) (va_recv hK hP (ci := 7) (q0 := 0) rfl rfl) hK hP hS hAX rfl hl.1 rfl (Nat.le_of_ble_eq_true rfl) dL_law_663 (by decide) hM (fun k p hk hq => hXM _ hq ((mD.w hDM).2 k p hk)) (fun H locs hP hM hS => ?_)
                                              refine lv_aload_n hx hb dL_law_666 rfl (lv_at hl 2 rfl) ?_
                                              refine lv_aload_n hx hb dL_law_667 rfl (lv_at hl 0 rfl) ?_
                                              refine lv_iload_n hx hb dL_law_668 rfl (lv_at hl 3 rfl) ?_
                                              refine lv_iconst (v := 1) hx hb dL_law_669 (by decide) ?_
                                              refine lv_iadd hx hb dL_law_670 ?_
                                              refine va_sld hx hb hX hbl hbA hS (hix 1 (by decide)) dL_law_671 ?_
                                              refine lCi (As := [.int (xs (x3 + 1).toNatClampNeg)]) (rest := [.int x.1]) ⟨hx, hb, hml, hown, hts⟩ (c_X9_spans (dT := dT) hDM hfy) (cwV 1 hts (good_V tG_sub k_1008 k_1009 k_1010 k_9 k_1011) rfl rfl rfl (by decide +kernel) (by decide)) (va_recv hK hM (ci := 8) (q0 := 0) rfl rfl) hK hM hS hAM rfl hl.1 rfl (Nat.le_of_ble_eq_true rfl) dL_law_672 (by decide) hP (fun k p hk hq => hXM _ ((xD.w hDX).2 k p hk) hq) (fun H locs hM hP hS => ?_)
                                              refine lv_icmp_eq (tgt := 864) hx hb dL_law_675 (by decide) (fun _ => ?_) (fun k1 => absurd he k1)
                                              refine lv_iinc (v := x3 + 5) (lv' := [(3, .int (x3 + 5)), (0, .ref b), (1, .ref (q 0)), (2, .ref (r 0))]) hx hb dL_law_864 hl (k := 3) rfl rfl (by decide) rfl (fun ls hl => ?_)
                                              refine lv_goto (tgt := 18) hx hb dL_law_867 (by decide) ?_
                                              exact ih (i + 5) _ _ _ _ _ _ _ _ _ _ _ _ _ _ _ _ (by omega) (by omega) (by rw [hx3]; exact nI_add i 5) hR1 _ _ _ hP hM hS (lv_sub hl [1, 2, 3, 0] rfl)
                                            · by_cases cs_20 : (xs x3.toNatClampNeg &&& 31) = 20
                                              · refine lv_tableIn (tgt := 680) (off := 648) hx hb dL_law_32 (by rw [cs_20]; decide) (by rw [cs_20]; decide) (by rw [cs_20]; rfl) (by decide) ?_
                                                obtain ⟨x, y, hfx, hfy, he, hR1⟩ := op_fewest hR (xs (x3 + 1).toNatClampNeg)
                                                refine lv_aload_n hx hb dL_law_680 rfl (lv_at hl 1 rfl) ?_
                                                refine lv_aload_n hx hb dL_law_681 rfl (lv_at hl 0 rfl) ?_
                                                refine lv_iload_n hx hb dL_law_682 rfl (lv_at hl 3 rfl) ?_
                                                refine lv_iconst (v := 1) hx hb dL_law_683 (by decide) ?_
                                                refine lv_iadd hx hb dL_law_684 ?_
                                                refine va_sld hx hb hX hbl hbA hS (hix 1 (by decide)) dL_law_685 ?_
                                                refine lCi (As := [.int (xs (x3 + 1).toNatClampNeg)]) (rest := []) ⟨hx, hb, hml, hown, hts⟩ (c_X8_fewest (dT := dT) hDX hfx) (cwV 1 hts (good_V tG_sub k_612 k_613 k_614 k_1 k_615) rfl rfl rfl (by decide +kernel) (by decide)) (va_recv hK hP (ci := 7) (q0 := 0) rfl rfl) hK hP hS hAX rfl hl.1 rfl (Nat.le_of_ble_eq_true rfl) dL_law_686 (by decide) hM (fun k p hk hq => hXM _ hq ((mD.w hDM).2 k p hk)) (fun H locs hP hM hS => ?_)
                                                refine lv_aload_n hx hb dL_law_689 rfl (lv_at hl 2 rfl) ?_
                                                refine lv_aload_n hx hb dL_law_690 rfl (lv_at hl 0 rfl) ?_
                                                refine lv_iload_n hx hb dL_law_691 rfl (lv_at hl 3 rfl) ?_
                                                refine lv_iconst (v := 1) hx hb dL_law_692 (by decide) ?_
                                                refine lv_iadd hx hb dL_law_693 ?_
                                                refine va_sld hx hb hX hbl hbA hS (hix 1 (by decide)) dL_law_694 ?_
                                                refine lCi (As := [.int (xs (x3 + 1).toNatClampNeg)]) (rest := [.int x.1]) ⟨hx, hb, hml, hown, hts⟩ (c_X9_fewest (dT := dT) hDM hfy) (cwV 1 hts (good_V tG_sub k_1012 k_1013 k_1014 k_9 k_1015) rfl rfl rfl (by decide +kernel) (by decide)) (va_recv hK hM (ci := 8) (q0 := 0) rfl rfl) hK hM hS hAM rfl hl.1 rfl (Nat.le_of_ble_eq_true rfl) dL_law_695 (by decide) hP (fun k p hk hq => hXM _ ((xD.w hDX).2 k p hk) hq) (fun H locs hM hP hS => ?_)
                                                refine lv_icmp_eq (tgt := 864) hx hb dL_law_698 (by decide) (fun _ => ?_) (fun k1 => absurd he k1)
                                                refine lv_iinc (v := x3 + 5) (lv' := [(3, .int (x3 + 5)), (0, .ref b), (1, .ref (q 0)), (2, .ref (r 0))]) hx hb dL_law_864 hl (k := 3) rfl rfl (by decide) rfl (fun ls hl => ?_)
                                                refine lv_goto (tgt := 18) hx hb dL_law_867 (by decide) ?_
                                                exact ih (i + 5) _ _ _ _ _ _ _ _ _ _ _ _ _ _ _ _ (by omega) (by omega) (by rw [hx3]; exact nI_add i 5) hR1 _ _ _ hP hM hS (lv_sub hl [1, 2, 3, 0] rfl)
                                              · by_cases cs_21 : (xs x3.toNatClampNeg &&& 31) = 21
                                                · refine lv_tableIn (tgt := 703) (off := 671) hx hb dL_law_32 (by rw [cs_21]; decide) (by rw [cs_21]; decide) (by rw [cs_21]; rfl) (by decide) ?_
                                                  obtain ⟨x, y, hfx, hfy, he, hR1⟩ := op_plan hR (xs (x3 + 1).toNatClampNeg) (xs (x3 + 2).toNatClampNeg)
                                                  refine lv_aload_n hx hb dL_law_703 rfl (lv_at hl 1 rfl) ?_
                                                  refine lv_aload_n hx hb dL_law_704 rfl (lv_at hl 0 rfl) ?_
                                                  refine lv_iload_n hx hb dL_law_705 rfl (lv_at hl 3 rfl) ?_
                                                  refine lv_iconst (v := 1) hx hb dL_law_706 (by decide) ?_
                                                  refine lv_iadd hx hb dL_law_707 ?_
                                                  refine va_sld hx hb hX hbl hbA hS (hix 1 (by decide)) dL_law_708 ?_
                                                  refine lv_aload_n hx hb dL_law_709 rfl (lv_at hl 0 rfl) ?_
                                                  refine lv_iload_n hx hb dL_law_710 rfl (lv_at hl 3 rfl) ?_
                                                  refine lv_iconst (v := 2) hx hb dL_law_711 (by decide) ?_
                                                  refine lv_iadd hx hb dL_law_712 ?_
                                                  refine va_sld hx hb hX hbl hbA hS (hix 2 (by decide)) dL_law_713 ?_
                                                  refine lCi (As := [.int (xs (x3 + 1).toNatClampNeg), .int (xs (x3 + 2).toNatClampNeg)]) (rest := []) ⟨hx, hb, hml, hown, hts⟩ (c_X8_plan (dT := dT) hDX hfx) (cwV 2 hts (good_V tG_sub k_644 k_645 k_646 k_1 k_647) rfl rfl rfl (by decide +kernel) (by decide)) (va_recv hK hP (ci := 7) (q0 := 0) rfl rfl) hK hP hS hAX rfl hl.1 rfl (Nat.le_of_ble_eq_true rfl) dL_law_714 (by decide) hM (fun k p hk hq => hXM _ hq ((mD.w hDM).2 k p hk)) (fun H locs hP hM hS => ?_)
                                                  refine lv_aload_n hx hb dL_law_717 rfl (lv_at hl 2 rfl) ?_
                                                  refine lv_aload_n hx hb dL_law_718 rfl (lv_at hl 0 rfl) ?_
                                                  refine lv_iload_n hx hb dL_law_719 rfl (lv_at hl 3 rfl) ?_
                                                  refine lv_iconst (v := 1) hx hb dL_law_720 (by decide) ?_
                                                  refine lv_iadd hx hb dL_law_721 ?_
                                                  refine va_sld hx hb hX hbl hbA hS (hix 1 (by decide)) dL_law_722 ?_
                                                  refine lv_aload_n hx hb dL_law_723 rfl (lv_at hl 0 rfl) ?_
                                                  refine lv_iload_n hx hb dL_law_724 rfl (lv_at hl 3 rfl) ?_
                                                  refine lv_iconst (v := 2) hx hb dL_law_725 (by decide) ?_
                                                  refine lv_iadd hx hb dL_law_726 ?_
                                                  refine va_sld hx hb hX hbl hbA hS (hix 2 (by decide)) dL_law_727 ?_
                                                  refine lCi (As := [.int (xs (x3 + 1).toNatClampNeg), .int (xs (x3 + 2).toNatClampNeg)]) (rest := [.int x.1]) ⟨hx, hb, hml, hown, hts⟩ (c_X9_plan (dT := dT) hDM hfy) (cwV 2 hts (good_V tG_sub k_1016 k_1017 k_1018 k_9 k_1019) rfl rfl rfl (by decide +kernel) (by decide)) (va_recv hK hM (ci := 8) (q0 := 0) rfl rfl) hK hM hS hAM rfl hl.1 rfl (Nat.le_of_ble_eq_true rfl) dL_law_728 (by decide) hP (fun k p hk hq => hXM _ ((xD.w hDX).2 k p hk) hq) (fun H locs hM hP hS => ?_)
                                                  refine lv_icmp_eq (tgt := 864) hx hb dL_law_731 (by decide) (fun _ => ?_) (fun k1 => absurd he k1)
                                                  refine lv_iinc (v := x3 + 5) (lv' := [(3, .int (x3 + 5)), (0, .ref b), (1, .ref (q 0)), (2, .ref (r 0))]) hx hb dL_law_864 hl (k := 3) rfl rfl (by decide) rfl (fun ls hl => ?_)
                                                  refine lv_goto (tgt := 18) hx hb dL_law_867 (by decide) ?_
                                                  exact ih (i + 5) _ _ _ _ _ _ _ _ _ _ _ _ _ _ _ _ (by omega) (by omega) (by rw [hx3]; exact nI_add i 5) hR1 _ _ _ hP hM hS (lv_sub hl [1, 2, 3, 0] rfl)
                                                · by_cases cs_22 : (xs x3.toNatClampNeg &&& 31) = 22
                                                  · refine lv_tableIn (tgt := 736) (off := 704) hx hb dL_law_32 (by rw [cs_22]; decide) (by rw [cs_22]; decide) (by rw [cs_22]; rfl) (by decide) ?_
                                                    obtain ⟨x, y, hfx, hfy, he, hR1⟩ := op_soonest hR (xs (x3 + 1).toNatClampNeg)
                                                    refine lv_aload_n hx hb dL_law_736 rfl (lv_at hl 1 rfl) ?_
                                                    refine lv_aload_n hx hb dL_law_737 rfl (lv_at hl 0 rfl) ?_
                                                    refine lv_iload_n hx hb dL_law_738 rfl (lv_at hl 3 rfl) ?_
                                                    refine lv_iconst (v := 1) hx hb dL_law_739 (by decide) ?_
                                                    refine lv_iadd hx hb dL_law_740 ?_
                                                    refine va_sld hx hb hX hbl hbA hS (hix 1 (by decide)) dL_law_741 ?_
                                                    refine lCi (As := [.int (xs (x3 + 1).toNatClampNeg)]) (rest := []) ⟨hx, hb, hml, hown, hts⟩ (c_X8_soonest (dT := dT) hDX hfx) (cwV 1 hts (good_V tG_sub k_663 k_664 k_665 k_1 k_666) rfl rfl rfl (by decide +kernel) (by decide)) (va_recv hK hP (ci := 7) (q0 := 0) rfl rfl) hK hP hS hAX rfl hl.1 rfl (Nat.le_of_ble_eq_true rfl) dL_law_742 (by decide) hM (fun k p hk hq => hXM _ hq ((mD.w hDM).2 k p hk)) (fun H locs hP hM hS => ?_)
                                                    refine lv_aload_n hx hb dL_law_745 rfl (lv_at hl 2 rfl) ?_
                                                    refine lv_aload_n hx hb dL_law_746 rfl (lv_at hl 0 rfl) ?_
                                                    refine lv_iload_n hx hb dL_law_747 rfl (lv_at hl 3 rfl) ?_
                                                    refine lv_iconst (v := 1) hx hb dL_law_748 (by decide) ?_
                                                    refine lv_iadd hx hb dL_law_749 ?_
                                                    refine va_sld hx hb hX hbl hbA hS (hix 1 (by decide)) dL_law_750 ?_
                                                    refine lCi (As := [.int (xs (x3 + 1).toNatClampNeg)]) (rest := [.int x.1]) ⟨hx, hb, hml, hown, hts⟩ (c_X9_soonest (dT := dT) hDM hfy) (cwV 1 hts (good_V tG_sub k_1025 k_1026 k_1027 k_9 k_1028) rfl rfl rfl (by decide +kernel) (by decide)) (va_recv hK hM (ci := 8) (q0 := 0) rfl rfl) hK hM hS hAM rfl hl.1 rfl (Nat.le_of_ble_eq_true rfl) dL_law_751 (by decide) hP (fun k p hk hq => hXM _ ((xD.w hDX).2 k p hk) hq) (fun H locs hM hP hS => ?_)
                                                    refine lv_icmp_eq (tgt := 864) hx hb dL_law_754 (by decide) (fun _ => ?_) (fun k1 => absurd he k1)
                                                    refine lv_iinc (v := x3 + 5) (lv' := [(3, .int (x3 + 5)), (0, .ref b), (1, .ref (q 0)), (2, .ref (r 0))]) hx hb dL_law_864 hl (k := 3) rfl rfl (by decide) rfl (fun ls hl => ?_)
                                                    refine lv_goto (tgt := 18) hx hb dL_law_867 (by decide) ?_
                                                    exact ih (i + 5) _ _ _ _ _ _ _ _ _ _ _ _ _ _ _ _ (by omega) (by omega) (by rw [hx3]; exact nI_add i 5) hR1 _ _ _ hP hM hS (lv_sub hl [1, 2, 3, 0] rfl)
                                                  · by_cases cs_23 : (xs x3.toNatClampNeg &&& 31) = 23
                                                    · refine lv_tableIn (tgt := 759) (off := 727) hx hb dL_law_32 (by rw [cs_23]; decide) (by rw [cs_23]; decide) (by rw [cs_23]; rfl) (by decide) ?_
                                                      obtain ⟨x, y, hfx, hfy, he, hR1⟩ := op_claim hR (xs (x3 + 1).toNatClampNeg)
                                                      refine lv_aload_n hx hb dL_law_759 rfl (lv_at hl 1 rfl) ?_
                                                      refine lv_aload_n hx hb dL_law_760 rfl (lv_at hl 0 rfl) ?_
                                                      refine lv_iload_n hx hb dL_law_761 rfl (lv_at hl 3 rfl) ?_
                                                      refine lv_iconst (v := 1) hx hb dL_law_762 (by decide) ?_
                                                      refine lv_iadd hx hb dL_law_763 ?_
                                                      refine va_sld hx hb hX hbl hbA hS (hix 1 (by decide)) dL_law_764 ?_
                                                      refine lCi (As := [.int (xs (x3 + 1).toNatClampNeg)]) (rest := []) ⟨hx, hb, hml, hown, hts⟩ (c_X8_claim (dT := dT) hDX hfx) (cwV 1 hts (good_V tG_sub k_671 k_672 k_673 k_1 k_674) rfl rfl rfl (by decide +kernel) (by decide)) (va_recv hK hP (ci := 7) (q0 := 0) rfl rfl) hK hP hS hAX rfl hl.1 rfl (Nat.le_of_ble_eq_true rfl) dL_law_765 (by decide) hM (fun k p hk hq => hXM _ hq ((mD.w hDM).2 k p hk)) (fun H locs hP hM hS => ?_)
                                                      refine lv_aload_n hx hb dL_law_768 rfl (lv_at hl 2 rfl) ?_
                                                      refine lv_aload_n hx hb dL_law_769 rfl (lv_at hl 0 rfl) ?_
                                                      refine lv_iload_n hx hb dL_law_770 rfl (lv_at hl 3 rfl) ?_
                                                      refine lv_iconst (v := 1) hx hb dL_law_771 (by decide) ?_
                                                      refine lv_iadd hx hb dL_law_772 ?_
                                                      refine va_sld hx hb hX hbl hbA hS (hix 1 (by decide)) dL_law_773 ?_
                                                      refine lCi (As := [.int (xs (x3 + 1).toNatClampNeg)]) (rest := [.int x.1]) ⟨hx, hb, hml, hown, hts⟩ (c_X9_claim (dT := dT) hDM hfy) (cwV 1 hts (good_V tG_sub k_1029 k_1030 k_1031 k_9 k_1032) rfl rfl rfl (by decide +kernel) (by decide)) (va_recv hK hM (ci := 8) (q0 := 0) rfl rfl) hK hM hS hAM rfl hl.1 rfl (Nat.le_of_ble_eq_true rfl) dL_law_774 (by decide) hP (fun k p hk hq => hXM _ ((xD.w hDX).2 k p hk) hq) (fun H locs hM hP hS => ?_)
                                                      refine lv_icmp_eq (tgt := 864) hx hb dL_law_777 (by decide) (fun _ => ?_) (fun k1 => absurd he k1)
                                                      refine lv_iinc (v := x3 + 5) (lv' := [(3, .int (x3 + 5)), (0, .ref b), (1, .ref (q 0)), (2, .ref (r 0))]) hx hb dL_law_864 hl (k := 3) rfl rfl (by decide) rfl (fun ls hl => ?_)
                                                      refine lv_goto (tgt := 18) hx hb dL_law_867 (by decide) ?_
                                                      exact ih (i + 5) _ _ _ _ _ _ _ _ _ _ _ _ _ _ _ _ (by omega) (by omega) (by rw [hx3]; exact nI_add i 5) hR1 _ _ _ hP hM hS (lv_sub hl [1, 2, 3, 0] rfl)
                                                    · by_cases cs_24 : (xs x3.toNatClampNeg &&& 31) = 24
                                                      · refine lv_tableIn (tgt := 782) (off := 750) hx hb dL_law_32 (by rw [cs_24]; decide) (by rw [cs_24]; decide) (by rw [cs_24]; rfl) (by decide) ?_
                                                        obtain ⟨x, y, hfx, hfy, he, hR1⟩ := op_copy hR (xs (x3 + 1).toNatClampNeg)
                                                        refine lv_aload_n hx hb dL_law_782 rfl (lv_at hl 1 rfl) ?_
                                                        refine lv_aload_n hx hb dL_law_783 rfl (lv_at hl 0 rfl) ?_
                                                        refine lv_iload_n hx hb dL_law_784 rfl (lv_at hl 3 rfl) ?_
                                                        refine lv_iconst (v := 1) hx hb dL_law_785 (by decide) ?_
                                                        refine lv_iadd hx hb dL_law_786 ?_
                                                        refine va_sld hx hb hX hbl hbA hS (hix 1 (by decide)) dL_law_787 ?_
                                                        refine lCi (As := [.int (xs (x3 + 1).toNatClampNeg)]) (rest := []) ⟨hx, hb, hml, hown, hts⟩ (c_X8_copy (dT := dT) hDX hfx) (cwV 1 hts (good_V tG_sub k_687 k_688 k_689 k_1 k_690) rfl rfl rfl (by decide +kernel) (by decide)) (va_recv hK hP (ci := 7) (q0 := 0) rfl rfl) hK hP hS hAX rfl hl.1 rfl (Nat.le_of_ble_eq_true rfl) dL_law_788 (by decide) hM (fun k p hk hq => hXM _ hq ((mD.w hDM).2 k p hk)) (fun H locs hP hM hS => ?_)
                                                        refine lv_aload_n hx hb dL_law_791 rfl (lv_at hl 2 rfl) ?_
                                                        refine lv_aload_n hx hb dL_law_792 rfl (lv_at hl 0 rfl) ?_
                                                        refine lv_iload_n hx hb dL_law_793 rfl (lv_at hl 3 rfl) ?_
                                                        refine lv_iconst (v := 1) hx hb dL_law_794 (by decide) ?_
                                                        refine lv_iadd hx hb dL_law_795 ?_
                                                        refine va_sld hx hb hX hbl hbA hS (hix 1 (by decide)) dL_law_796 ?_
                                                        refine lCi (As := [.int (xs (x3 + 1).toNatClampNeg)]) (rest := [.int x.1]) ⟨hx, hb, hml, hown, hts⟩ (c_X9_copy (dT := dT) hDM hfy) (cwV 1 hts (good_V tG_sub k_1033 k_1034 k_1035 k_9 k_1036) rfl rfl rfl (by decide +kernel) (by decide)) (va_recv hK hM (ci := 8) (q0 := 0) rfl rfl) hK hM hS hAM rfl hl.1 rfl (Nat.le_of_ble_eq_true rfl) dL_law_797 (by decide) hP (fun k p hk hq => hXM _ ((xD.w hDX).2 k p hk) hq) (fun H locs hM hP hS => ?_)
                                                        refine lv_icmp_eq (tgt := 864) hx hb dL_law_800 (by decide) (fun _ => ?_) (fun k1 => absurd he k1)
                                                        refine lv_iinc (v := x3 + 5) (lv' := [(3, .int (x3 + 5)), (0, .ref b), (1, .ref (q 0)), (2, .ref (r 0))]) hx hb dL_law_864 hl (k := 3) rfl rfl (by decide) rfl (fun ls hl => ?_)
                                                        refine lv_goto (tgt := 18) hx hb dL_law_867 (by decide) ?_
                                                        exact ih (i + 5) _ _ _ _ _ _ _ _ _ _ _ _ _ _ _ _ (by omega) (by omega) (by rw [hx3]; exact nI_add i 5) hR1 _ _ _ hP hM hS (lv_sub hl [1, 2, 3, 0] rfl)
                                                      · by_cases cs_25 : (xs x3.toNatClampNeg &&& 31) = 25
                                                        · refine lv_tableIn (tgt := 805) (off := 773) hx hb dL_law_32 (by rw [cs_25]; decide) (by rw [cs_25]; decide) (by rw [cs_25]; rfl) (by decide) ?_
                                                          obtain ⟨x, y, hfx, hfy, he, hR1⟩ := op_alter hR (xs (x3 + 1).toNatClampNeg) (xs (x3 + 2).toNatClampNeg)
                                                          refine lv_aload_n hx hb dL_law_805 rfl (lv_at hl 1 rfl) ?_
                                                          refine lv_aload_n hx hb dL_law_806 rfl (lv_at hl 0 rfl) ?_
                                                          refine lv_iload_n hx hb dL_law_807 rfl (lv_at hl 3 rfl) ?_
                                                          refine lv_iconst (v := 1) hx hb dL_law_808 (by decide) ?_
                                                          refine lv_iadd hx hb dL_law_809 ?_
                                                          refine va_sld hx hb hX hbl hbA hS (hix 1 (by decide)) dL_law_810 ?_
                                                          refine lv_aload_n hx hb dL_law_811 rfl (lv_at hl 0 rfl) ?_
                                                          refine lv_iload_n hx hb dL_law_812 rfl (lv_at hl 3 rfl) ?_
                                                          refine lv_iconst (v := 2) hx hb dL_law_813 (by decide) ?_
                                                          refine lv_iadd hx hb dL_law_814 ?_
                                                          refine va_sld hx hb hX hbl hbA hS (hix 2 (by decide)) dL_law_815 ?_
                                                          refine lCi (As := [.int (xs (x3 + 1).toNatClampNeg), .int (xs (x3 + 2).toNatClampNeg)]) (rest := []) ⟨hx, hb, hml, hown, hts⟩ (c_X8_alter (dT := dT) hDX hfx) (cwV 2 hts (good_V tG_sub k_695 k_696 k_697 k_1 k_698) rfl rfl rfl (by decide +kernel) (by decide)) (va_recv hK hP (ci := 7) (q0 := 0) rfl rfl) hK hP hS hAX rfl hl.1 rfl (Nat.le_of_ble_eq_true rfl) dL_law_816 (by decide) hM (fun k p hk hq => hXM _ hq ((mD.w hDM).2 k p hk)) (fun H locs hP hM hS => ?_)
                                                          refine lv_aload_n hx hb dL_law_819 rfl (lv_at hl 2 rfl) ?_
                                                          refine lv_aload_n hx hb dL_law_820 rfl (lv_at hl 0 rfl) ?_
                                                          refine lv_iload_n hx hb dL_law_821 rfl (lv_at hl 3 rfl) ?_
                                                          refine lv_iconst (v := 1) hx hb dL_law_822 (by decide) ?_
                                                          refine lv_iadd hx hb dL_law_823 ?_
                                                          refine va_sld hx hb hX hbl hbA hS (hix 1 (by decide)) dL_law_824 ?_
                                                          refine lv_aload_n hx hb dL_law_825 rfl (lv_at hl 0 rfl) ?_
                                                          refine lv_iload_n hx hb dL_law_826 rfl (lv_at hl 3 rfl) ?_
                                                          refine lv_iconst (v := 2) hx hb dL_law_827 (by decide) ?_
                                                          refine lv_iadd hx hb dL_law_828 ?_
                                                          refine va_sld hx hb hX hbl hbA hS (hix 2 (by decide)) dL_law_829 ?_
                                                          refine lCi (As := [.int (xs (x3 + 1).toNatClampNeg), .int (xs (x3 + 2).toNatClampNeg)]) (rest := [.int x.1]) ⟨hx, hb, hml, hown, hts⟩ (c_X9_alter (dT := dT) hDM hfy) (cwV 2 hts (good_V tG_sub k_1037 k_1038 k_1039 k_9 k_1040) rfl rfl rfl (by decide +kernel) (by decide)) (va_recv hK hM (ci := 8) (q0 := 0) rfl rfl) hK hM hS hAM rfl hl.1 rfl (Nat.le_of_ble_eq_true rfl) dL_law_830 (by decide) hP (fun k p hk hq => hXM _ ((xD.w hDX).2 k p hk) hq) (fun H locs hM hP hS => ?_)
                                                          refine lv_icmp_eq (tgt := 864) hx hb dL_law_833 (by decide) (fun _ => ?_) (fun k1 => absurd he k1)
                                                          refine lv_iinc (v := x3 + 5) (lv' := [(3, .int (x3 + 5)), (0, .ref b), (1, .ref (q 0)), (2, .ref (r 0))]) hx hb dL_law_864 hl (k := 3) rfl rfl (by decide) rfl (fun ls hl => ?_)
                                                          refine lv_goto (tgt := 18) hx hb dL_law_867 (by decide) ?_
                                                          exact ih (i + 5) _ _ _ _ _ _ _ _ _ _ _ _ _ _ _ _ (by omega) (by omega) (by rw [hx3]; exact nI_add i 5) hR1 _ _ _ hP hM hS (lv_sub hl [1, 2, 3, 0] rfl)
                                                        · by_cases cs_26 : (xs x3.toNatClampNeg &&& 31) = 26
                                                          · refine lv_tableIn (tgt := 838) (off := 806) hx hb dL_law_32 (by rw [cs_26]; decide) (by rw [cs_26]; decide) (by rw [cs_26]; rfl) (by decide) ?_
                                                            obtain ⟨x, y, hfx, hfy, he, hR1⟩ := op_unclaim hR 
                                                            refine lv_aload_n hx hb dL_law_838 rfl (lv_at hl 1 rfl) ?_
                                                            refine lCi (As := []) (rest := []) ⟨hx, hb, hml, hown, hts⟩ (c_X8_unclaim (dT := dT) hDX hfx) (cwV 0 hts (good_V tG_sub k_707 k_708 k_709 k_1 k_710) rfl rfl rfl (by decide +kernel) (by decide)) (va_recv hK hP (ci := 7) (q0 := 0) rfl rfl) hK hP hS hAX rfl hl.1 rfl (Nat.le_of_ble_eq_true rfl) dL_law_839 (by decide) hM (fun k p hk hq => hXM _ hq ((mD.w hDM).2 k p hk)) (fun H locs hP hM hS => ?_)
                                                            refine lv_aload_n hx hb dL_law_842 rfl (lv_at hl 2 rfl) ?_
                                                            refine lCi (As := []) (rest := [.int x.1]) ⟨hx, hb, hml, hown, hts⟩ (c_X9_unclaim (dT := dT) hDM hfy) (cwV 0 hts (good_V tG_sub k_1041 k_1042 k_1043 k_9 k_1044) rfl rfl rfl (by decide +kernel) (by decide)) (va_recv hK hM (ci := 8) (q0 := 0) rfl rfl) hK hM hS hAM rfl hl.1 rfl (Nat.le_of_ble_eq_true rfl) dL_law_843 (by decide) hP (fun k p hk hq => hXM _ ((xD.w hDX).2 k p hk) hq) (fun H locs hM hP hS => ?_)
                                                            refine lv_icmp_eq (tgt := 864) hx hb dL_law_846 (by decide) (fun _ => ?_) (fun k1 => absurd he k1)
                                                            refine lv_iinc (v := x3 + 5) (lv' := [(3, .int (x3 + 5)), (0, .ref b), (1, .ref (q 0)), (2, .ref (r 0))]) hx hb dL_law_864 hl (k := 3) rfl rfl (by decide) rfl (fun ls hl => ?_)
                                                            refine lv_goto (tgt := 18) hx hb dL_law_867 (by decide) ?_
                                                            exact ih (i + 5) _ _ _ _ _ _ _ _ _ _ _ _ _ _ _ _ (by omega) (by omega) (by rw [hx3]; exact nI_add i 5) hR1 _ _ _ hP hM hS (lv_sub hl [1, 2, 3, 0] rfl)
                                                          · by_cases cs_27 : (xs x3.toNatClampNeg &&& 31) = 27
                                                            · refine lv_tableIn (tgt := 851) (off := 819) hx hb dL_law_32 (by rw [cs_27]; decide) (by rw [cs_27]; decide) (by rw [cs_27]; rfl) (by decide) ?_
                                                              obtain ⟨x, y, hfx, hfy, he, hR1⟩ := op_check hR 
                                                              refine lv_aload_n hx hb dL_law_851 rfl (lv_at hl 1 rfl) ?_
                                                              refine lCi (As := []) (rest := []) ⟨hx, hb, hml, hown, hts⟩ (c_X8_check (dT := dT) hDX hfx) (cwV 0 hts (good_V tG_sub k_711 k_712 k_713 k_1 k_714) rfl rfl rfl (by decide +kernel) (by decide)) (va_recv hK hP (ci := 7) (q0 := 0) rfl rfl) hK hP hS hAX rfl hl.1 rfl (Nat.le_of_ble_eq_true rfl) dL_law_852 (by decide) hM (fun k p hk hq => hXM _ hq ((mD.w hDM).2 k p hk)) (fun H locs hP hM hS => ?_)
                                                              refine lv_aload_n hx hb dL_law_855 rfl (lv_at hl 2 rfl) ?_
                                                              refine lCi (As := []) (rest := [.int x.1]) ⟨hx, hb, hml, hown, hts⟩ (c_X9_check (dT := dT) hDM hfy) (cwV 0 hts (good_V tG_sub k_1045 k_1046 k_1047 k_9 k_1048) rfl rfl rfl (by decide +kernel) (by decide)) (va_recv hK hM (ci := 8) (q0 := 0) rfl rfl) hK hM hS hAM rfl hl.1 rfl (Nat.le_of_ble_eq_true rfl) dL_law_856 (by decide) hP (fun k p hk hq => hXM _ ((xD.w hDX).2 k p hk) hq) (fun H locs hM hP hS => ?_)
                                                              refine lv_icmp_eq (tgt := 864) hx hb dL_law_859 (by decide) (fun _ => ?_) (fun k1 => absurd he k1)
                                                              refine lv_iinc (v := x3 + 5) (lv' := [(3, .int (x3 + 5)), (0, .ref b), (1, .ref (q 0)), (2, .ref (r 0))]) hx hb dL_law_864 hl (k := 3) rfl rfl (by decide) rfl (fun ls hl => ?_)
                                                              refine lv_goto (tgt := 18) hx hb dL_law_867 (by decide) ?_
                                                              exact ih (i + 5) _ _ _ _ _ _ _ _ _ _ _ _ _ _ _ _ (by omega) (by omega) (by rw [hx3]; exact nI_add i 5) hR1 _ _ _ hP hM hS (lv_sub hl [1, 2, 3, 0] rfl)
                                                            · refine lv_tableOut (tgt := 864) hx hb dL_law_32 (by have n0 := lv_neT (a := 0) cs_0 (by decide); have n1 := lv_neT (a := 1) cs_1 (by decide); have n2 := lv_neT (a := 2) cs_2 (by decide); have n3 := lv_neT (a := 3) cs_3 (by decide); have n4 := lv_neT (a := 4) cs_4 (by decide); have n5 := lv_neT (a := 5) cs_5 (by decide); have n6 := lv_neT (a := 6) cs_6 (by decide); have n7 := lv_neT (a := 7) cs_7 (by decide); have n8 := lv_neT (a := 8) cs_8 (by decide); have n9 := lv_neT (a := 9) cs_9 (by decide); have n10 := lv_neT (a := 10) cs_10 (by decide); have n11 := lv_neT (a := 11) cs_11 (by decide); have n12 := lv_neT (a := 12) cs_12 (by decide); have n13 := lv_neT (a := 13) cs_13 (by decide); have n14 := lv_neT (a := 14) cs_14 (by decide); have n15 := lv_neT (a := 15) cs_15 (by decide); have n16 := lv_neT (a := 16) cs_16 (by decide); have n17 := lv_neT (a := 17) cs_17 (by decide); have n18 := lv_neT (a := 18) cs_18 (by decide); have n19 := lv_neT (a := 19) cs_19 (by decide); have n20 := lv_neT (a := 20) cs_20 (by decide); have n21 := lv_neT (a := 21) cs_21 (by decide); have n22 := lv_neT (a := 22) cs_22 (by decide); have n23 := lv_neT (a := 23) cs_23 (by decide); have n24 := lv_neT (a := 24) cs_24 (by decide); have n25 := lv_neT (a := 25) cs_25 (by decide); have n26 := lv_neT (a := 26) cs_26 (by decide); have n27 := lv_neT (a := 27) cs_27 (by decide); omega) (by decide) ?_
                                                              refine lv_iinc (v := x3 + 5) (lv' := [(3, .int (x3 + 5)), (0, .ref b), (1, .ref (q 0)), (2, .ref (r 0))]) hx hb dL_law_864 hl (k := 3) rfl rfl (by decide) rfl (fun ls hl => ?_)
                                                              refine lv_goto (tgt := 18) hx hb dL_law_867 (by decide) ?_
                                                              exact ih (i + 5) _ _ _ _ _ _ _ _ _ _ _ _ _ _ _ _ (by omega) (by omega) (by rw [hx3]; exact nI_add i 5) hR _ _ _ hP hM hS (lv_sub hl [1, 2, 3, 0] rfl)
