/-! the relation, and the calls -/
def Rel (rs : (Nat → tRow)) (g : tG_) (bh : tBH) (c1 : tC) (c2 : tC) (re : tRE) (pl : tPL) (cl : tCL) (mr : tMR) (mg : tMG) (mc : tMC) (mn : tMN) (mh : tMH) (mf : tMF) (mp : tMP) : Prop := RelR rs mr ∧ mg = g ∧ ∃ n, GOK g n ∧ RelH g n bh c1 mh ∧ Z4 c2 ∧ Z4 mn ∧ RelC cl mc ∧ RelM g n mf ∧ RelX g n re pl
theorem op_row {rs : (Nat → tRow)} {g : tG_} {bh : tBH} {c1 : tC} {c2 : tC} {re : tRE} {pl : tPL} {cl : tCL} {mr : tMR} {mg : tMG} {mc : tMC} {mn : tMN} {mh : tMH} {mf : tMF} {mp : tMP} (hR : Rel rs g bh c1 c2 re pl cl mr mg mc mn mh mf mp) (a1 : Int32) (a2 : Int32) (a3 : Int32) : ∃ (x : Int32 × (Nat → tRow)) (y : Int32 × tMR), f_X8_row rs a1 a2 a3 = some x ∧ f_X9_row mr a1 a2 a3 = some y ∧ x.1 = y.1 ∧ Rel x.2 g bh c1 c2 re pl cl y.2 mg mc mn mh mf mp := by
  obtain ⟨h1, h2, n, h3, h4, h5, h6, h7, h8, h9⟩ := hR
  subst h2
  obtain ⟨x, y, p1, p2, p3, p4⟩ := pr_row h1 a1 a2 a3
  exact ⟨x, y, p1, p2, p3, p4, rfl, n, h3, h4, h5, h6, h7, h8, h9⟩
theorem op_cell {rs : (Nat → tRow)} {g : tG_} {bh : tBH} {c1 : tC} {c2 : tC} {re : tRE} {pl : tPL} {cl : tCL} {mr : tMR} {mg : tMG} {mc : tMC} {mn : tMN} {mh : tMH} {mf : tMF} {mp : tMP} (hR : Rel rs g bh c1 c2 re pl cl mr mg mc mn mh mf mp) (a1 : Int32) (a2 : Int32) (a3 : Int32) : ∃ (x : Int32 × (Nat → tRow)) (y : Int32 × tMR), f_X8_cell rs a1 a2 a3 = some x ∧ f_X9_cell mr a1 a2 a3 = some y ∧ x.1 = y.1 ∧ Rel x.2 g bh c1 c2 re pl cl y.2 mg mc mn mh mf mp := by
  obtain ⟨h1, h2, n, h3, h4, h5, h6, h7, h8, h9⟩ := hR
  subst h2
  obtain ⟨x, y, p1, p2, p3, p4⟩ := pr_cell h1 a1 a2 a3
  exact ⟨x, y, p1, p2, p3, p4, rfl, n, h3, h4, h5, h6, h7, h8, h9⟩
theorem op_told {rs : (Nat → tRow)} {g : tG_} {bh : tBH} {c1 : tC} {c2 : tC} {re : tRE} {pl : tPL} {cl : tCL} {mr : tMR} {mg : tMG} {mc : tMC} {mn : tMN} {mh : tMH} {mf : tMF} {mp : tMP} (hR : Rel rs g bh c1 c2 re pl cl mr mg mc mn mh mf mp) (a1 : Int32) (a2 : Int32) : ∃ (x : Int32) (y : Int32), f_X8_told rs a1 a2 = some x ∧ f_X9_told mr a1 a2 = some y ∧ x = y ∧ Rel rs g bh c1 c2 re pl cl mr mg mc mn mh mf mp := by
  obtain ⟨h1, h2, n, h3, h4, h5, h6, h7, h8, h9⟩ := hR
  subst h2
  obtain ⟨x, p1, p2⟩ := pr_told h1 a1 a2
  exact ⟨x, x, p1, p2, rfl, h1, rfl, n, h3, h4, h5, h6, h7, h8, h9⟩
theorem op_lose {rs : (Nat → tRow)} {g : tG_} {bh : tBH} {c1 : tC} {c2 : tC} {re : tRE} {pl : tPL} {cl : tCL} {mr : tMR} {mg : tMG} {mc : tMC} {mn : tMN} {mh : tMH} {mf : tMF} {mp : tMP} (hR : Rel rs g bh c1 c2 re pl cl mr mg mc mn mh mf mp) (a1 : Int32) : ∃ (x : Int32 × (Nat → tRow)) (y : Int32 × tMR), f_X8_lose rs a1 = some x ∧ f_X9_lose mr a1 = some y ∧ x.1 = y.1 ∧ Rel x.2 g bh c1 c2 re pl cl y.2 mg mc mn mh mf mp := by
  obtain ⟨h1, h2, n, h3, h4, h5, h6, h7, h8, h9⟩ := hR
  subst h2
  obtain ⟨x, y, p1, p2, p3, p4⟩ := pr_lose h1 a1
  exact ⟨x, y, p1, p2, p3, p4, rfl, n, h3, h4, h5, h6, h7, h8, h9⟩
theorem op_glass {rs : (Nat → tRow)} {g : tG_} {bh : tBH} {c1 : tC} {c2 : tC} {re : tRE} {pl : tPL} {cl : tCL} {mr : tMR} {mg : tMG} {mc : tMC} {mn : tMN} {mh : tMH} {mf : tMF} {mp : tMP} (hR : Rel rs g bh c1 c2 re pl cl mr mg mc mn mh mf mp) (a1 : Int32) (a2 : Int32) (a3 : Int32) (a4 : Int32) : ∃ (x : Int32 × tG_ × tBH × tC × tRE × tPL) (y : Int32 × tMG × tMH × tMF), f_X8_glass rs g bh c1 re pl a1 a2 a3 a4 = some x ∧ f_X9_glass mr mg mh mf a1 a2 a3 a4 = some y ∧ x.1 = y.1 ∧ Rel rs x.2.1 x.2.2.1 x.2.2.2.1 c2 x.2.2.2.2.1 x.2.2.2.2.2 cl mr y.2.1 mc mn y.2.2.1 y.2.2.2 mp := by
  obtain ⟨h1, h2, n, h3, h4, h5, h6, h7, h8, h9⟩ := hR
  subst h2
  obtain ⟨x, y, p1, p2, p3, p4⟩ := pg_glass h1 h3 h4 re pl mf a1 a2 a3 a4
  refine ⟨x, y, p1, p2, p3, ?_⟩
  rcases p4 with ⟨q1, q2⟩ | ⟨q1, n', g1, g2, g3, g4, g5, g6, g7⟩
  · rw [q1, q2]; exact ⟨h1, rfl, n, h3, h4, h5, h6, h7, h8, h9⟩
  · exact ⟨h1, q1.symm, n', g1, g2, h5, h6, h7, Or.inl g7, Or.inl ⟨g3, g4, g5, g6⟩⟩
theorem op_fill {rs : (Nat → tRow)} {g : tG_} {bh : tBH} {c1 : tC} {c2 : tC} {re : tRE} {pl : tPL} {cl : tCL} {mr : tMR} {mg : tMG} {mc : tMC} {mn : tMN} {mh : tMH} {mf : tMF} {mp : tMP} (hR : Rel rs g bh c1 c2 re pl cl mr mg mc mn mh mf mp) (a1 : Int32) (a2 : Int32) (a3 : Int32) : ∃ (x : Int32 × tG_ × tBH × tC × tRE × tPL) (y : Int32 × tMG × tMH × tMF), f_X8_fill rs g bh c1 re pl a1 a2 a3 = some x ∧ f_X9_fill mr mg mh mf a1 a2 a3 = some y ∧ x.1 = y.1 ∧ Rel rs x.2.1 x.2.2.1 x.2.2.2.1 c2 x.2.2.2.2.1 x.2.2.2.2.2 cl mr y.2.1 mc mn y.2.2.1 y.2.2.2 mp := by
  obtain ⟨h1, h2, n, h3, h4, h5, h6, h7, h8, h9⟩ := hR
  subst h2
  obtain ⟨x, y, p1, p2, p3, p4⟩ := pg_fill h1 h3 h4 re pl mf a1 a2 a3
  refine ⟨x, y, p1, p2, p3, ?_⟩
  rcases p4 with ⟨q1, q2⟩ | ⟨q1, n', g1, g2, g3, g4, g5, g6, g7⟩
  · rw [q1, q2]; exact ⟨h1, rfl, n, h3, h4, h5, h6, h7, h8, h9⟩
  · exact ⟨h1, q1.symm, n', g1, g2, h5, h6, h7, Or.inl g7, Or.inl ⟨g3, g4, g5, g6⟩⟩
theorem op_clear {rs : (Nat → tRow)} {g : tG_} {bh : tBH} {c1 : tC} {c2 : tC} {re : tRE} {pl : tPL} {cl : tCL} {mr : tMR} {mg : tMG} {mc : tMC} {mn : tMN} {mh : tMH} {mf : tMF} {mp : tMP} (hR : Rel rs g bh c1 c2 re pl cl mr mg mc mn mh mf mp)  : ∃ (x : Int32 × tG_ × tBH × tC × tRE × tPL) (y : Int32 × tMG × tMH × tMF), f_X8_clear g bh c1 re pl = some x ∧ f_X9_clear mg mh mf = some y ∧ x.1 = y.1 ∧ Rel rs x.2.1 x.2.2.1 x.2.2.2.1 c2 x.2.2.2.2.1 x.2.2.2.2.2 cl mr y.2.1 mc mn y.2.2.1 y.2.2.2 mp := by
  obtain ⟨h1, h2, n, h3, h4, h5, h6, h7, h8, h9⟩ := hR
  subst h2
  obtain ⟨x, y, p1, p2, p3, q1, n', g1, g2, g3, g4, g5, g6, g7⟩ := pg_clear h3 h4 re pl mf
  exact ⟨x, y, p1, p2, p3, h1, q1.symm, n', g1, g2, h5, h6, h7, Or.inl g7, Or.inl ⟨g3, g4, g5, g6⟩⟩
theorem op_of {rs : (Nat → tRow)} {g : tG_} {bh : tBH} {c1 : tC} {c2 : tC} {re : tRE} {pl : tPL} {cl : tCL} {mr : tMR} {mg : tMG} {mc : tMC} {mn : tMN} {mh : tMH} {mf : tMF} {mp : tMP} (hR : Rel rs g bh c1 c2 re pl cl mr mg mc mn mh mf mp) (a1 : Int32) (a2 : Int32) : ∃ (x : Int32) (y : Int32), f_X8_of g c1 a1 a2 = some x ∧ f_X9_of mg mh a1 a2 = some y ∧ x = y ∧ Rel rs g bh c1 c2 re pl cl mr mg mc mn mh mf mp := by
  obtain ⟨h1, h2, n, h3, h4, h5, h6, h7, h8, h9⟩ := hR
  subst h2
  obtain ⟨x, p1, p2⟩ := pg_of h3 h4 a1 a2
  exact ⟨x, x, p1, p2, rfl, h1, rfl, n, h3, h4, h5, h6, h7, h8, h9⟩
theorem op_glasses {rs : (Nat → tRow)} {g : tG_} {bh : tBH} {c1 : tC} {c2 : tC} {re : tRE} {pl : tPL} {cl : tCL} {mr : tMR} {mg : tMG} {mc : tMC} {mn : tMN} {mh : tMH} {mf : tMF} {mp : tMP} (hR : Rel rs g bh c1 c2 re pl cl mr mg mc mn mh mf mp)  : ∃ (x : Int32) (y : Int32), f_X8_glasses g = some x ∧ f_X9_glasses mg = some y ∧ x = y ∧ Rel rs g bh c1 c2 re pl cl mr mg mc mn mh mf mp := by
  obtain ⟨h1, h2, n, h3, h4, h5, h6, h7, h8, h9⟩ := hR
  subst h2
  exact ⟨_, _, rfl, rfl, rfl, h1, rfl, n, h3, h4, h5, h6, h7, h8, h9⟩
theorem op_can {rs : (Nat → tRow)} {g : tG_} {bh : tBH} {c1 : tC} {c2 : tC} {re : tRE} {pl : tPL} {cl : tCL} {mr : tMR} {mg : tMG} {mc : tMC} {mn : tMN} {mh : tMH} {mf : tMF} {mp : tMP} (hR : Rel rs g bh c1 c2 re pl cl mr mg mc mn mh mf mp) (a1 : Int32) : ∃ (x : Int32) (y : Int32 × tMN), f_X8_can g c1 a1 = some x ∧ f_X9_can mg mn mh a1 = some y ∧ x = y.1 ∧ Rel rs g bh c1 c2 re pl cl mr mg mc y.2 mh mf mp := by
  obtain ⟨h1, h2, n, h3, h4, h5, h6, h7, h8, h9⟩ := hR
  subst h2
  obtain ⟨x, y, p1, p2, p3, p4⟩ := ph_can h3 h4 h6 a1
  exact ⟨x, y, p1, p2, p3, h1, rfl, n, h3, h4, h5, p4, h7, h8, h9⟩
theorem op_hand {rs : (Nat → tRow)} {g : tG_} {bh : tBH} {c1 : tC} {c2 : tC} {re : tRE} {pl : tPL} {cl : tCL} {mr : tMR} {mg : tMG} {mc : tMC} {mn : tMN} {mh : tMH} {mf : tMF} {mp : tMP} (hR : Rel rs g bh c1 c2 re pl cl mr mg mc mn mh mf mp) (a1 : Int32) : ∃ (x : Int32 × tBH × tC) (y : Int32 × tMN × tMH), f_X8_hand g bh c1 a1 = some x ∧ f_X9_hand mg mn mh a1 = some y ∧ x.1 = y.1 ∧ Rel rs g x.2.1 x.2.2 c2 re pl cl mr mg mc y.2.1 y.2.2 mf mp := by
  obtain ⟨h1, h2, n, h3, h4, h5, h6, h7, h8, h9⟩ := hR
  subst h2
  obtain ⟨x, y, p1, p2, p3, p4, p5⟩ := ph_hand h3 h4 h6 a1
  exact ⟨x, y, p1, p2, p3, h1, rfl, n, h3, p4, h5, p5, h7, h8, h9⟩
theorem op_next {rs : (Nat → tRow)} {g : tG_} {bh : tBH} {c1 : tC} {c2 : tC} {re : tRE} {pl : tPL} {cl : tCL} {mr : tMR} {mg : tMG} {mc : tMC} {mn : tMN} {mh : tMH} {mf : tMF} {mp : tMP} (hR : Rel rs g bh c1 c2 re pl cl mr mg mc mn mh mf mp)  : ∃ (x : Int32 × tBH × tC) (y : Int32 × tMN × tMH), f_X8_next g bh c1 = some x ∧ f_X9_next mg mn mh = some y ∧ x.1 = y.1 ∧ Rel rs g x.2.1 x.2.2 c2 re pl cl mr mg mc y.2.1 y.2.2 mf mp := by
  obtain ⟨h1, h2, n, h3, h4, h5, h6, h7, h8, h9⟩ := hR
  subst h2
  obtain ⟨x, y, p1, p2, p3, p4, p5⟩ := ph_next h3 h4 h6
  exact ⟨x, y, p1, p2, p3, h1, rfl, n, h3, p4, h5, p5, h7, h8, h9⟩
theorem op_undo {rs : (Nat → tRow)} {g : tG_} {bh : tBH} {c1 : tC} {c2 : tC} {re : tRE} {pl : tPL} {cl : tCL} {mr : tMR} {mg : tMG} {mc : tMC} {mn : tMN} {mh : tMH} {mf : tMF} {mp : tMP} (hR : Rel rs g bh c1 c2 re pl cl mr mg mc mn mh mf mp)  : ∃ (x : Int32 × tBH × tC) (y : Int32 × tMH), f_X8_undo bh c1 = some x ∧ f_X9_undo mh = some y ∧ x.1 = y.1 ∧ Rel rs g x.2.1 x.2.2 c2 re pl cl mr mg mc mn y.2 mf mp := by
  obtain ⟨h1, h2, n, h3, h4, h5, h6, h7, h8, h9⟩ := hR
  subst h2
  obtain ⟨x, y, p1, p2, p3, p4⟩ := ph_undo h3 h4
  exact ⟨x, y, p1, p2, p3, h1, rfl, n, h3, p4, h5, h6, h7, h8, h9⟩
theorem op_begin {rs : (Nat → tRow)} {g : tG_} {bh : tBH} {c1 : tC} {c2 : tC} {re : tRE} {pl : tPL} {cl : tCL} {mr : tMR} {mg : tMG} {mc : tMC} {mn : tMN} {mh : tMH} {mf : tMF} {mp : tMP} (hR : Rel rs g bh c1 c2 re pl cl mr mg mc mn mh mf mp)  : ∃ (x : Int32 × tBH × tC) (y : Int32 × tMH), f_X8_begin bh c1 = some x ∧ f_X9_begin mh = some y ∧ x.1 = y.1 ∧ Rel rs g x.2.1 x.2.2 c2 re pl cl mr mg mc mn y.2 mf mp := by
  obtain ⟨h1, h2, n, h3, h4, h5, h6, h7, h8, h9⟩ := hR
  subst h2
  obtain ⟨x, y, p1, p2, p3, p4⟩ := ph_begin h3 h4
  exact ⟨x, y, p1, p2, p3, h1, rfl, n, h3, p4, h5, h6, h7, h8, h9⟩
theorem op_moment {rs : (Nat → tRow)} {g : tG_} {bh : tBH} {c1 : tC} {c2 : tC} {re : tRE} {pl : tPL} {cl : tCL} {mr : tMR} {mg : tMG} {mc : tMC} {mn : tMN} {mh : tMH} {mf : tMF} {mp : tMP} (hR : Rel rs g bh c1 c2 re pl cl mr mg mc mn mh mf mp)  : ∃ (x : Int32) (y : Int32), f_X8_moment bh = some x ∧ f_X9_moment mh = some y ∧ x = y ∧ Rel rs g bh c1 c2 re pl cl mr mg mc mn mh mf mp := by
  obtain ⟨h1, h2, n, h3, h4, h5, h6, h7, h8, h9⟩ := hR
  subst h2
  obtain ⟨p1, p2⟩ := ph_moment h4
  exact ⟨_, _, p1, p2, rfl, h1, rfl, n, h3, h4, h5, h6, h7, h8, h9⟩
theorem op_event {rs : (Nat → tRow)} {g : tG_} {bh : tBH} {c1 : tC} {c2 : tC} {re : tRE} {pl : tPL} {cl : tCL} {mr : tMR} {mg : tMG} {mc : tMC} {mn : tMN} {mh : tMH} {mf : tMF} {mp : tMP} (hR : Rel rs g bh c1 c2 re pl cl mr mg mc mn mh mf mp) (a1 : Int32) : ∃ (x : Int32) (y : Int32), f_X8_event bh a1 = some x ∧ f_X9_event mh a1 = some y ∧ x = y ∧ Rel rs g bh c1 c2 re pl cl mr mg mc mn mh mf mp := by
  obtain ⟨h1, h2, n, h3, h4, h5, h6, h7, h8, h9⟩ := hR
  subst h2
  obtain ⟨x, p1, p2⟩ := ph_event h4 a1
  exact ⟨x, x, p1, p2, rfl, h1, rfl, n, h3, h4, h5, h6, h7, h8, h9⟩
theorem op_reach {rs : (Nat → tRow)} {g : tG_} {bh : tBH} {c1 : tC} {c2 : tC} {re : tRE} {pl : tPL} {cl : tCL} {mr : tMR} {mg : tMG} {mc : tMC} {mn : tMN} {mh : tMH} {mf : tMF} {mp : tMP} (hR : Rel rs g bh c1 c2 re pl cl mr mg mc mn mh mf mp)  : ∃ (x : Int32 × tC × tRE) (y : Int32 × tMN × tMF), f_X8_reach g c2 re = some x ∧ f_X9_reach mg mn mf = some y ∧ x.1 = y.1 ∧ Rel rs g bh c1 x.2.1 x.2.2 pl cl mr mg mc y.2.1 mh y.2.2 mp := by
  obtain ⟨h1, h2, n, h3, h4, h5, h6, h7, h8, h9⟩ := hR
  subst h2
  obtain ⟨x, y, p1, p2, p3, p4, p5, p6, p7, p8⟩ := pp_reach h3 h5 h6 h9.kn h8
  exact ⟨x, y, p1, p2, p3, h1, rfl, n, h3, h4, p4, p5, h7, p8, h9.re p6 (Or.inr p7)⟩
theorem op_config {rs : (Nat → tRow)} {g : tG_} {bh : tBH} {c1 : tC} {c2 : tC} {re : tRE} {pl : tPL} {cl : tCL} {mr : tMR} {mg : tMG} {mc : tMC} {mn : tMN} {mh : tMH} {mf : tMF} {mp : tMP} (hR : Rel rs g bh c1 c2 re pl cl mr mg mc mn mh mf mp) (a1 : Int32) (a2 : Int32) (a3 : Int32) : ∃ (x : Int32 × tC × tRE) (y : Int32 × tMN × tMF), f_X8_config g c2 re a1 a2 a3 = some x ∧ f_X9_config mg mn mf a1 a2 a3 = some y ∧ x.1 = y.1 ∧ Rel rs g bh c1 x.2.1 x.2.2 pl cl mr mg mc y.2.1 mh y.2.2 mp := by
  obtain ⟨h1, h2, n, h3, h4, h5, h6, h7, h8, h9⟩ := hR
  subst h2
  obtain ⟨x, y, p1, p2, p3, p4, p5, p6, p7, p8⟩ := pp_config h3 h5 h6 h9.kn h8 a1 a2 a3
  exact ⟨x, y, p1, p2, p3, h1, rfl, n, h3, h4, p4, p5, h7, p8, h9.re p6 p7⟩
theorem op_pure {rs : (Nat → tRow)} {g : tG_} {bh : tBH} {c1 : tC} {c2 : tC} {re : tRE} {pl : tPL} {cl : tCL} {mr : tMR} {mg : tMG} {mc : tMC} {mn : tMN} {mh : tMH} {mf : tMF} {mp : tMP} (hR : Rel rs g bh c1 c2 re pl cl mr mg mc mn mh mf mp) (a1 : Int32) : ∃ (x : Int32 × tC × tRE × tPL) (y : Int32 × tMN × tMF), f_X8_pure g c2 re pl a1 = some x ∧ f_X9_pure mg mn mf a1 = some y ∧ x.1 = y.1 ∧ Rel rs g bh c1 x.2.1 x.2.2.1 x.2.2.2 cl mr mg mc y.2.1 mh y.2.2 mp := by
  obtain ⟨h1, h2, n, h3, h4, h5, h6, h7, h8, h9⟩ := hR
  subst h2
  obtain ⟨x, y, p1, p2, p3, p4, p5, p6, p7⟩ := pp_pure h3 h5 h6 h9 h8 a1
  exact ⟨x, y, p1, p2, p3, h1, rfl, n, h3, h4, p4, p5, h7, p7, p6⟩
theorem op_spans {rs : (Nat → tRow)} {g : tG_} {bh : tBH} {c1 : tC} {c2 : tC} {re : tRE} {pl : tPL} {cl : tCL} {mr : tMR} {mg : tMG} {mc : tMC} {mn : tMN} {mh : tMH} {mf : tMF} {mp : tMP} (hR : Rel rs g bh c1 c2 re pl cl mr mg mc mn mh mf mp) (a1 : Int32) : ∃ (x : Int32 × tC × tRE × tPL) (y : Int32 × tMN × tMF), f_X8_spans g c2 re pl a1 = some x ∧ f_X9_spans mg mn mf a1 = some y ∧ x.1 = y.1 ∧ Rel rs g bh c1 x.2.1 x.2.2.1 x.2.2.2 cl mr mg mc y.2.1 mh y.2.2 mp := by
  obtain ⟨h1, h2, n, h3, h4, h5, h6, h7, h8, h9⟩ := hR
  subst h2
  obtain ⟨x, y, p1, p2, p3, p4, p5, p6, p7⟩ := pp_spans h3 h5 h6 h9 h8 a1
  exact ⟨x, y, p1, p2, p3, h1, rfl, n, h3, h4, p4, p5, h7, p7, p6⟩
theorem op_fewest {rs : (Nat → tRow)} {g : tG_} {bh : tBH} {c1 : tC} {c2 : tC} {re : tRE} {pl : tPL} {cl : tCL} {mr : tMR} {mg : tMG} {mc : tMC} {mn : tMN} {mh : tMH} {mf : tMF} {mp : tMP} (hR : Rel rs g bh c1 c2 re pl cl mr mg mc mn mh mf mp) (a1 : Int32) : ∃ (x : Int32 × tC × tRE × tPL) (y : Int32 × tMN × tMF), f_X8_fewest g c2 re pl a1 = some x ∧ f_X9_fewest mg mn mf a1 = some y ∧ x.1 = y.1 ∧ Rel rs g bh c1 x.2.1 x.2.2.1 x.2.2.2 cl mr mg mc y.2.1 mh y.2.2 mp := by
  obtain ⟨h1, h2, n, h3, h4, h5, h6, h7, h8, h9⟩ := hR
  subst h2
  obtain ⟨x, y, p1, p2, p3, p4, p5, p6, p7⟩ := pp_fewest h3 h5 h6 h9 h8 a1
  exact ⟨x, y, p1, p2, p3, h1, rfl, n, h3, h4, p4, p5, h7, p7, p6⟩
theorem op_plan {rs : (Nat → tRow)} {g : tG_} {bh : tBH} {c1 : tC} {c2 : tC} {re : tRE} {pl : tPL} {cl : tCL} {mr : tMR} {mg : tMG} {mc : tMC} {mn : tMN} {mh : tMH} {mf : tMF} {mp : tMP} (hR : Rel rs g bh c1 c2 re pl cl mr mg mc mn mh mf mp) (a1 : Int32) (a2 : Int32) : ∃ (x : Int32 × tC × tRE × tPL) (y : Int32 × tMN × tMF × tMP), f_X8_plan g c2 re pl a1 a2 = some x ∧ f_X9_plan mg mn mf mp a1 a2 = some y ∧ x.1 = y.1 ∧ Rel rs g bh c1 x.2.1 x.2.2.1 x.2.2.2 cl mr mg mc y.2.1 mh y.2.2.1 y.2.2.2 := by
  obtain ⟨h1, h2, n, h3, h4, h5, h6, h7, h8, h9⟩ := hR
  subst h2
  obtain ⟨x, y, p1, p2, p3, p4, p5, p6, p7⟩ := pp_plan h3 h5 h6 h9 h8 mp a1 a2
  exact ⟨x, y, p1, p2, p3, h1, rfl, n, h3, h4, p4, p5, h7, p7, p6⟩
theorem op_soonest {rs : (Nat → tRow)} {g : tG_} {bh : tBH} {c1 : tC} {c2 : tC} {re : tRE} {pl : tPL} {cl : tCL} {mr : tMR} {mg : tMG} {mc : tMC} {mn : tMN} {mh : tMH} {mf : tMF} {mp : tMP} (hR : Rel rs g bh c1 c2 re pl cl mr mg mc mn mh mf mp) (a1 : Int32) : ∃ (x : Int32 × tC × tRE × tPL) (y : Int32 × tMN × tMF), f_X8_soonest g c2 re pl a1 = some x ∧ f_X9_soonest mg mn mf a1 = some y ∧ x.1 = y.1 ∧ Rel rs g bh c1 x.2.1 x.2.2.1 x.2.2.2 cl mr mg mc y.2.1 mh y.2.2 mp := by
  obtain ⟨h1, h2, n, h3, h4, h5, h6, h7, h8, h9⟩ := hR
  subst h2
  obtain ⟨x, y, p1, p2, p3, p4, p5, p6, p7⟩ := pp_soonest h3 h5 h6 h9 h8 a1
  exact ⟨x, y, p1, p2, p3, h1, rfl, n, h3, h4, p4, p5, h7, p7, p6⟩
theorem op_claim {rs : (Nat → tRow)} {g : tG_} {bh : tBH} {c1 : tC} {c2 : tC} {re : tRE} {pl : tPL} {cl : tCL} {mr : tMR} {mg : tMG} {mc : tMC} {mn : tMN} {mh : tMH} {mf : tMF} {mp : tMP} (hR : Rel rs g bh c1 c2 re pl cl mr mg mc mn mh mf mp) (a1 : Int32) : ∃ (x : Int32 × tCL) (y : Int32 × tMC), f_X8_claim cl a1 = some x ∧ f_X9_claim mc a1 = some y ∧ x.1 = y.1 ∧ Rel rs g bh c1 c2 re pl x.2 mr mg y.2 mn mh mf mp := by
  obtain ⟨h1, h2, n, h3, h4, h5, h6, h7, h8, h9⟩ := hR
  subst h2
  obtain ⟨x, y, p1, p2, p3, p4⟩ := pc_claim h7 a1
  exact ⟨x, y, p1, p2, p3, h1, rfl, n, h3, h4, h5, h6, p4, h8, h9⟩
theorem op_copy {rs : (Nat → tRow)} {g : tG_} {bh : tBH} {c1 : tC} {c2 : tC} {re : tRE} {pl : tPL} {cl : tCL} {mr : tMR} {mg : tMG} {mc : tMC} {mn : tMN} {mh : tMH} {mf : tMF} {mp : tMP} (hR : Rel rs g bh c1 c2 re pl cl mr mg mc mn mh mf mp) (a1 : Int32) : ∃ (x : Int32 × tC × tRE × tPL × tCL) (y : Int32 × tMC × tMN × tMF × tMP), f_X8_copy g c2 re pl cl a1 = some x ∧ f_X9_copy mg mc mn mf mp a1 = some y ∧ x.1 = y.1 ∧ Rel rs g bh c1 x.2.1 x.2.2.1 x.2.2.2.1 x.2.2.2.2 mr mg y.2.1 y.2.2.1 mh y.2.2.2.1 y.2.2.2.2 := by
  obtain ⟨h1, h2, n, h3, h4, h5, h6, h7, h8, h9⟩ := hR
  subst h2
  obtain ⟨x, y, p1, p2, p3, p4, p5, p6, p7, p8⟩ := pp_copy h3 h5 h6 h9 h8 h7 mp a1
  exact ⟨x, y, p1, p2, p3, h1, rfl, n, h3, h4, p4, p5, p8, p7, p6⟩
theorem op_alter {rs : (Nat → tRow)} {g : tG_} {bh : tBH} {c1 : tC} {c2 : tC} {re : tRE} {pl : tPL} {cl : tCL} {mr : tMR} {mg : tMG} {mc : tMC} {mn : tMN} {mh : tMH} {mf : tMF} {mp : tMP} (hR : Rel rs g bh c1 c2 re pl cl mr mg mc mn mh mf mp) (a1 : Int32) (a2 : Int32) : ∃ (x : Int32 × tCL) (y : Int32 × tMC), f_X8_alter cl a1 a2 = some x ∧ f_X9_alter mc a1 a2 = some y ∧ x.1 = y.1 ∧ Rel rs g bh c1 c2 re pl x.2 mr mg y.2 mn mh mf mp := by
  obtain ⟨h1, h2, n, h3, h4, h5, h6, h7, h8, h9⟩ := hR
  subst h2
  obtain ⟨x, y, p1, p2, p3, p4⟩ := pc_alter h7 a1 a2
  exact ⟨x, y, p1, p2, p3, h1, rfl, n, h3, h4, h5, h6, p4, h8, h9⟩
theorem op_unclaim {rs : (Nat → tRow)} {g : tG_} {bh : tBH} {c1 : tC} {c2 : tC} {re : tRE} {pl : tPL} {cl : tCL} {mr : tMR} {mg : tMG} {mc : tMC} {mn : tMN} {mh : tMH} {mf : tMF} {mp : tMP} (hR : Rel rs g bh c1 c2 re pl cl mr mg mc mn mh mf mp)  : ∃ (x : Int32 × tCL) (y : Int32 × tMC), f_X8_unclaim cl = some x ∧ f_X9_unclaim mc = some y ∧ x.1 = y.1 ∧ Rel rs g bh c1 c2 re pl x.2 mr mg y.2 mn mh mf mp := by
  obtain ⟨h1, h2, n, h3, h4, h5, h6, h7, h8, h9⟩ := hR
  subst h2
  obtain ⟨x, y, p1, p2, p3, p4⟩ := pc_unclaim h7
  exact ⟨x, y, p1, p2, p3, h1, rfl, n, h3, h4, h5, h6, p4, h8, h9⟩
theorem op_check {rs : (Nat → tRow)} {g : tG_} {bh : tBH} {c1 : tC} {c2 : tC} {re : tRE} {pl : tPL} {cl : tCL} {mr : tMR} {mg : tMG} {mc : tMC} {mn : tMN} {mh : tMH} {mf : tMF} {mp : tMP} (hR : Rel rs g bh c1 c2 re pl cl mr mg mc mn mh mf mp)  : ∃ (x : Int32 × tC) (y : Int32 × tMN), f_X8_check g c2 cl = some x ∧ f_X9_check mg mc mn = some y ∧ x.1 = y.1 ∧ Rel rs g bh c1 x.2 re pl cl mr mg mc y.2 mh mf mp := by
  obtain ⟨h1, h2, n, h3, h4, h5, h6, h7, h8, h9⟩ := hR
  subst h2
  obtain ⟨x, y, p1, p2, p3, p4, p5⟩ := pc_check h3 h7 h5 h6
  exact ⟨x, y, p1, p2, p3, h1, rfl, n, h3, h4, p4, p5, h7, h8, h9⟩
theorem Rel0 : Rel (fun _ => (fun _ => 0, 0, 0, 0)) (fun _ => 0, fun _ => 0, fun _ => 0, 0) (fun _ => 0, 1, 0, fun _ => 0, fun _ => 0, fun _ => 0, 0, 0) (fun _ => 0, fun _ => 0, fun _ => 0) (fun _ => 0, fun _ => 0, fun _ => 0) (fun _ => 0, fun _ => 0, fun _ => 0, fun _ => 0, fun _ => 0, fun _ => 0, fun _ => 0, 0, 0, 0, 0) (fun _ => 0, fun _ => 0, fun _ => 0, 0, 0, 0, 0) (fun _ => 0, 0) (fun _ => 0, (upd (upd (upd (upd (fun _ => 0) (0 : Int32).toNatClampNeg (-1)) (1 : Int32).toNatClampNeg (-1)) (2 : Int32).toNatClampNeg (-1)) (3 : Int32).toNatClampNeg (-1)), fun _ => 0) (fun _ => 0, fun _ => 0, fun _ => 0, 0) (fun _ => 0, 0) (fun _ => 0, fun _ => 0, fun _ => 0) (0, 0, 0, upd (fun _ => 0) (0 : Int32).toNatClampNeg 0, 1, fun _ => 0, fun _ => 0, fun _ => 0, fun _ => 0, 0) (0, fun _ => 0, 0, fun _ => 0, fun _ => 0, fun _ => 0, fun _ => 0, fun _ => 0) (fun _ => 0) := by
  refine ⟨fun j hj => Or.inr ⟨rfl, rfl, ?_⟩, rfl, 0, ⟨by omega, rfl, fun j hj => by omega⟩, ⟨1, Cok0, rfl, ⟨by omega, by omega⟩, rfl, rfl, rfl, by decide, fun i hi => ?_, rfl, rfl, 0, 0, fun _ => 1, by omega, by omega, rfl, rfl, rfl, rfl, fun i hi => by omega, fun i hi => by omega⟩, fun _ _ => ⟨rfl, rfl, rfl⟩, fun _ _ => ⟨rfl, rfl, rfl⟩, ⟨0, by omega, rfl, rfl, fun k hk => by omega⟩, Or.inl rfl, Or.inl ⟨rfl, rfl, rfl, rfl⟩⟩
  · match j, hj with
    | 0, _ => rfl
    | 1, _ => rfl
    | 2, _ => rfl
    | 3, _ => rfl
  · obtain rfl : i = 0 := by omega
    rfl
