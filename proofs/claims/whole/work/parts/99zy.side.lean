/-! ONE SIDE ALONE -/
theorem left_N {ev : xEv} {prim : xRel} {X hp : xH} {TC TM : yT} {SC SM SC' : yS} {d j e : Nat} {av : List Value} {v : Option Value} (h : J2 ev X TC SC TM SM hp) (fc : ∀ F, ykN rtC F ev prim d j TC SC av v SC' e) : ∃ hp1 TC1 sl1, xCalls ev xmi (xprog ev) prim d j av hp TC.2.2.1 (v, hp1, TC1.2.2.1, sl1) ∧ J2 ev X TC1 SC' (reT TM TC1.2.2.1) SM hp1 ∧ yG TC TC1 sl1 e := by
  obtain ⟨h1, h2, h3, h4, h5⟩ := h
  obtain ⟨hp1, TC1, sl1, a1, a2, a3⟩ := fc _ h4 hp h1
  obtain ⟨b1, b2⟩ := two_step h2 a2 (by have := a3.2.2.2.2; omega)
  exact ⟨hp1, TC1, sl1, a1, ⟨b1, b2, rfl, a3.2.2.2.1, h5⟩, a3⟩
theorem right_N {ev : xEv} {prim : xRel} {X hp : xH} {TC TM : yT} {SC SM SM' : yS} {d j e : Nat} {av : List Value} {v : Option Value} (h : J2 ev X TC SC TM SM hp) (fm : ∀ F, ykN [8] F ev prim d j TM SM av v SM' e) : ∃ hp1 TM1 sl1, xCalls ev xmi (xprog ev) prim d j av hp TC.2.2.1 (v, hp1, TM1.2.2.1, sl1) ∧ J2 ev X (reT TC TM1.2.2.1) SC TM1 SM' hp1 ∧ yG TM TM1 sl1 e := by
  obtain ⟨h1, h2, h3, h4, h5⟩ := h
  obtain ⟨hp1, TM1, sl1, a1, a2, a3⟩ := fm _ h5 hp h2
  obtain ⟨b1, b2⟩ := two_step h1 a2 (by have := a3.2.2.2.2; omega)
  exact ⟨hp1, TM1, sl1, by rw [h3]; exact a1, ⟨b2, b1, rfl, h4, a3.2.2.2.1⟩, a3⟩
/-- m.thrown() -/
theorem D_thrown {ev : xEv} {prim : xRel} {X hp : xH} {TC TM : yT} {SC SM : yS} {aM : Nat} (h : J2 ev X TC SC TM SM hp) (fM : yAt TM 12 8 0 aM) : xCalls ev xmi (xprog ev) prim 600 187 [.ref aM] hp TC.2.2.1 (some (.int (SM.1 8 47)), hp, TC.2.2.1, 0) :=
  m_X12_thrown (F := fOf TC hp X) (d := 599) 0 SM aM fM rfl hp TC.2.2.1 h.2.1
