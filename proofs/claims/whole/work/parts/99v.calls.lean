/-! EACH CALL, with all that is related after it -/
theorem RA_kR {cK : Nat → Nat} {nf nl np nq nb ng r x : Nat} {Sc Sm Sc' Sm' : yS} (h : RA cK nf nl np nq nb ng r x Sc Sm) (hT : ST cK nf nl np nq nb ng Sc' Sm') (hD : DY cK nf nl np nq nb ng Sc' Sm') (k : kR Sc Sm Sc' Sm') : RAe Sc' Sm' :=
  ⟨cK, nf, nl, np, nq, nb, ng, r, x, hT, hD, K_RO h.2.2.1 (k.1 7) (k.1 8) (k.2 45 (by decide) (by decide)) (k.2 46 (by decide) (by decide)), K_RX h.2.2.2.1 (k.1 5) (k.1 6) (k.2 43 (by decide) (by decide)) (k.2 44 (by decide) (by decide)), h.2.2.2.2⟩
def cPur (fc : Option Int32) (fm : Option (Int32 × yS)) (Sc : yS) : Prop := ∃ v Sm', fc = some v ∧ fm = some (v, Sm') ∧ RAe Sc Sm'
def cThr (fc : Option (Option Int32 × yS)) (fm : Option (Int32 × yS)) : Prop := (∃ v Sc' Sm', fc = some (some v, Sc') ∧ fm = some (v, Sm') ∧ Sm'.1 8 47 = 0 ∧ RAe Sc' Sm') ∨ ∃ v Sc' Sm', fc = some (none, Sc') ∧ fm = some (v, Sm') ∧ Sm'.1 8 47 = 1 ∧ RAe Sc' Sm'
theorem RA_lost {Sc Sm : yS} (h : RAe Sc Sm) : RAe Sc (yI (yI Sm 8 47 0) 8 47 1) := by
  obtain ⟨cK, nf, nl, np, nq, nb, ng, r, x, hA⟩ := h
  obtain ⟨a, b⟩ := row_ST (Sc' := Sc) (Sm' := yI (yI Sm 8 47 0) 8 47 1) hA.1 hA.2.1 (FR_refl _ _) (FR_trans (FR_I _ _ _ _ (by unfold pRM; omega)) (FR_I _ _ _ _ (by unfold pRM; omega)))
  exact RA_kR hA a b (kR_FR (pc := fun _ _ => False) (pm := fun o k => o = 8 ∧ k = 47) (FR_refl _ _) (FR_trans (FR_I _ _ _ _ ⟨rfl, rfl⟩) (FR_I _ _ _ _ ⟨rfl, rfl⟩)) (fun _ z => z) (fun k a b z => by have := z.2; omega))
theorem thr_of {fc : Option (Option Int32 × yS)} {fm : Option (Int32 × yS)} {Sc Sm : yS} (h : RAe Sc Sm) (k : (∃ v, fc = some (some v, Sc) ∧ fm = some (v, yI Sm 8 47 0)) ∨ (fc = some (none, Sc) ∧ fm = some (0, yI (yI Sm 8 47 0) 8 47 1))) : cThr fc fm := by
  rcases k with ⟨v, k1, k2⟩ | ⟨k1, k2⟩
  · exact Or.inl ⟨v, _, _, k1, k2, yI_1s _ _ _ _, RA_clear h⟩
  · exact Or.inr ⟨0, _, _, k1, k2, yI_1s _ _ _ _, RA_lost h⟩
theorem C_far {N : Nat} {Sc Sm : yS} (h : RAe Sc Sm) (l1 l2 : Int32) : cPur (f_X11_far N Sc l1 l2) (f_X12_far N Sm l1 l2) Sc := by
  have h0 := h
  obtain ⟨cK, nf, nl, np, nq, nb, ng, r, x, hA⟩ := h
  obtain ⟨v, e1, e2⟩ := far_both (N := N) hA.1.1 hA.1.2.2.1.1 l1 l2
  exact ⟨v, _, e1, e2, RA_clear h0⟩
theorem C_sky {N : Nat} {Sc Sm : yS} (h : RAe Sc Sm) (hN : 60 < N) (l q w : Int32) : cThr (f_X11_sky N Sc l q w) (f_X12_sky2 N Sm l q w) := by
  have h0 := h
  obtain ⟨cK, nf, nl, np, nq, nb, ng, r, x, hA⟩ := h
  obtain ⟨k7, hW, _⟩ := hA.1.2.2.2.1
  exact thr_of h0 (sky_both hW hA.1.2.1.2.2.1 hN l q w)
theorem C_heard {N : Nat} {Sc Sm : yS} (h : RAe Sc Sm) (hN : 120 < N) (f l q w : Int32) : cThr (f_X11_heard N Sc f l q w) (f_X12_heard N Sm f l q w) := by
  have h0 := h
  obtain ⟨cK, nf, nl, np, nq, nb, ng, r, x, hA⟩ := h
  obtain ⟨k, hW, _⟩ := hA.2.1.2.2.2.1
  exact thr_of h0 (heard_both hW hA.1.1.2.2.1 hA.1.2.1.2.2.1 hN f l q w)
theorem C_who {N : Nat} {Sc Sm : yS} (h : RAe Sc Sm) (a b : Int32) : cThr (f_X11_who N Sc a b) (f_X12_who N Sm a b) := by
  have h0 := h
  obtain ⟨cK, nf, nl, np, nq, nb, ng, r, x, hA⟩ := h
  exact thr_of h0 (who_both hA.1 hA.2.1)
theorem C_of {N : Nat} {Sc Sm : yS} (h : RAe Sc Sm) (hN : 60 < N) (a b : Int32) : cThr (f_X11_of N Sc a b) (f_X12_of N Sm a b) := by
  have h0 := h
  obtain ⟨cK, nf, nl, np, nq, nb, ng, r, x, hA⟩ := h
  exact thr_of h0 (of_both hN hA.1 hA.2.1)
theorem C_row {N : Nat} {Sc Sm : yS} (h : RAe Sc Sm) (l : Int32) : cThr (f_X11_row N Sc l) (f_X12_row N Sm l) := by
  have h0 := h
  obtain ⟨cK, nf, nl, np, nq, nb, ng, r, x, hA⟩ := h
  exact thr_of h0 (row_both hA.2.2.1 l)
theorem C_where {N : Nat} {Sc Sm : yS} (h : RAe Sc Sm) (hN : 60 < N) (a b : Int32) : cThr (f_X11_where N Sc a b) (f_X12_where N Sm a b) := by
  have h0 := h
  obtain ⟨cK, nf, nl, np, nq, nb, ng, r, x, hA⟩ := h
  rcases where_both (N := N) (bI := a) (k := b) hN hA.1 hA.2.1 with ⟨v, Sc', Sm', e1, e2, F, G⟩ | ⟨e1, e2⟩
  · obtain ⟨a1, b1⟩ := clear_both hA.1 hA.2.1
    obtain ⟨a2, b2⟩ := irr_both a1 b1 F (pPy_pI G)
    exact Or.inl ⟨v, Sc', Sm', e1, e2, (G 8 47 (fun z => by unfold pPy at z; omega)).1.trans (yI_1s _ _ _ _), RA_kR hA a2 b2 (kR_trans kR_cl (kR_FR F G (fun k z => by unfold pI1 at z; omega) (fun k a b z => by unfold pPy at z; omega)))⟩
  · exact Or.inr ⟨0, _, _, e1, e2, yI_1s _ _ _ _, RA_lost h0⟩
theorem C_engine {N : Nat} {Sc Sm : yS} (h : RAe Sc Sm) (p a b c : Int32) : cAll (f_X11_engine N Sc p a b c) (f_X12_engine N Sm p a b c) := by
  obtain ⟨cK, nf, nl, np, nq, nb, ng, r, x, hA⟩ := h
  obtain ⟨v, Sc', Sm', e1, e2, a1, a2, a3⟩ := engine_both (N := N) (pI := p) (a := a) (b := b) (c := c) hA.1 hA.2.1
  exact ⟨v, Sc', Sm', e1, e2, RA_kR hA a1 a2 a3⟩
theorem C_learns {N : Nat} {Sc Sm : yS} (h : RAe Sc Sm) (q l : Int32) : cAll (f_X11_learns N Sc q l) (f_X12_learns N Sm q l) := by
  obtain ⟨cK, nf, nl, np, nq, nb, ng, r, x, hA⟩ := h
  obtain ⟨v, Sc', Sm', e1, e2, a1, a2, a3⟩ := learns_both (N := N) (qI := q) (lI := l) hA.1 hA.2.1
  exact ⟨v, Sc', Sm', e1, e2, RA_kR hA a1 a2 a3⟩
theorem C_train {N : Nat} {Sc Sm : yS} (h : RAe Sc Sm) (b : Int32) : cAll (f_X11_train N Sc b) (f_X12_train N Sm b) := by
  obtain ⟨cK, nf, nl, np, nq, nb, ng, r, x, hA⟩ := h
  obtain ⟨v, Sc', Sm', e1, e2, a1, a2, a3⟩ := train_both (N := N) (bI := b) hA.1 hA.2.1
  exact ⟨v, Sc', Sm', e1, e2, RA_kR hA a1 a2 a3⟩
theorem C_cancel {N : Nat} {Sc Sm : yS} (h : RAe Sc Sm) (g : Int32) : cAll (f_X11_cancel N Sc g) (f_X12_cancel N Sm g) := by
  obtain ⟨cK, nf, nl, np, nq, nb, ng, r, x, hA⟩ := h
  obtain ⟨v, Sc', Sm', e1, e2, a1, a2, a3⟩ := cancel_both (N := N) (gI := g) hA.1 hA.2.1
  exact ⟨v, Sc', Sm', e1, e2, RA_kR hA a1 a2 a3⟩
theorem C_step {N : Nat} {Sc Sm : yS} (h : RAe Sc Sm) (hN : 500 < N) (q : Int32) : cAll (f_X11_step N Sc q) (f_X12_step N Sm q) := by
  obtain ⟨cK, nf, nl, np, nq, nb, ng, r, x, hA⟩ := h
  obtain ⟨v, Sc', Sm', e1, e2, a1, a2, a3⟩ := step_both (N := N) (qI := q) hN hA.1 hA.2.1
  exact ⟨v, Sc', Sm', e1, e2, RA_kR hA a1 a2 a3⟩
theorem C_may {N : Nat} {Sc Sm : yS} (h : RAe Sc Sm) (hN : 120 < N) (g : Int32) : cAll (f_X11_may N Sc g) (f_X12_may N Sm g) := by
  obtain ⟨cK, nf, nl, np, nq, nb, ng, r, x, hA⟩ := h
  obtain ⟨v, Sc', Sm', e1, e2, a1, a2, a3⟩ := may_both (N := N) (gI := g) hN hA.1 hA.2.1
  exact ⟨v, Sc', Sm', e1, e2, RA_kR hA a1 a2 a3⟩
theorem C_why {N : Nat} {Sc Sm : yS} (h : RAe Sc Sm) (g k : Int32) : cPur (f_X11_why N Sc g k) (f_X12_why N Sm g k) Sc := by
  obtain ⟨cK, nf, nl, np, nq, nb, ng, r, x, hA⟩ := h
  obtain ⟨v, Sm', e1, e2, a1, a2, a3⟩ := why_both (N := N) (gI := g) (k := k) hA.1 hA.2.1
  exact ⟨v, Sm', e1, e2, RA_kR hA a1 a2 a3⟩
theorem C_flown {N : Nat} {Sc Sm : yS} (h : RAe Sc Sm) (g k : Int32) : cPur (f_X11_flown N Sc g k) (f_X12_flown N Sm g k) Sc := by
  obtain ⟨cK, nf, nl, np, nq, nb, ng, r, x, hA⟩ := h
  obtain ⟨v, Sm', e1, e2, a1, a2, a3⟩ := flown_both (N := N) (gI := g) (k := k) hA.1 hA.2.1
  exact ⟨v, Sm', e1, e2, RA_kR hA a1 a2 a3⟩
theorem C_count {N : Nat} {Sc Sm : yS} (h : RAe Sc Sm) (hN : 60 < N) (k : Int32) : cPur (f_X11_count N Sc k) (f_X12_count N Sm k) Sc := by
  have h0 := h
  obtain ⟨cK, nf, nl, np, nq, nb, ng, r, x, hA⟩ := h
  obtain ⟨v, e1, e2⟩ := count_both (N := N) (k := k) hN hA.1 hA.2.1 hA.2.2.1 hA.2.2.2.1
  exact ⟨v, _, e1, e2, RA_clear h0⟩
theorem C_lead {N : Nat} {Sc Sm : yS} (h : RAe Sc Sm) (hN : 120 < N) (b : Int32) : cAll (f_X11_lead N Sc b) (f_X12_lead N Sm b) := by
  obtain ⟨cK, nf, nl, np, nq, nb, ng, r, x, hA⟩ := h
  obtain ⟨v, Sc', Sm', r', e1, e2, a1, a2, a3, k⟩ := lead_both (N := N) (bI := b) hN hA.1 hA.2.1 hA.2.2.1
  exact ⟨v, Sc', Sm', e1, e2, cK, nf, nl, np, nq, nb, ng, r', x, a1, a2, a3, K_RX hA.2.2.2.1 (k.1 5 (by decide) (by decide)) (k.1 6 (by decide) (by decide)) (k.2 43 (by decide) (by decide)) (k.2 44 (by decide) (by decide)), hA.2.2.2.2⟩
theorem C_judge {N : Nat} {Sc Sm : yS} (h : RAe Sc Sm) (hN : 60 < N) (l : Int32) : cAll (f_X11_judge N Sc l) (f_X12_judge N Sm l) := by
  obtain ⟨cK, nf, nl, np, nq, nb, ng, r, x, hA⟩ := h
  obtain ⟨v, Sc', Sm', e1, e2, a1, a2, a3⟩ := judge_both (N := N) (rI := l) hN hA.1 hA.2.1
  exact ⟨v, Sc', Sm', e1, e2, RA_kR hA a1 a2 a3⟩
theorem C_coin {N : Nat} {Sc Sm : yS} (h : RAe Sc Sm) (hN : 60 < N) : cAll (f_X11_coin N Sc) (f_X12_coin N Sm) := by
  obtain ⟨cK, nf, nl, np, nq, nb, ng, r, x, hA⟩ := h
  obtain ⟨v, Sc', Sm', e1, e2, a1, a2, a3⟩ := coin_both (N := N) hN hA.1 hA.2.1
  exact ⟨v, Sc', Sm', e1, e2, RA_kR hA a1 a2 a3⟩
theorem C_find {N : Nat} {Sc Sm : yS} (h : RAe Sc Sm) (hN : 120 < N) (p : Int32) : cAll (f_X11_find N Sc p) (f_X12_find N Sm p) := by
  obtain ⟨cK, nf, nl, np, nq, nb, ng, r, x, hA⟩ := h
  obtain ⟨v, Sc', Sm', e1, e2, a1, a2, a3⟩ := find_both (N := N) (pI := p) hN hA.1 hA.2.1
  exact ⟨v, Sc', Sm', e1, e2, RA_kR hA a1 a2 a3⟩
theorem C_look {N : Nat} {Sc Sm : yS} (h : RAe Sc Sm) (p l2 l3 : Int32) : cAll (f_X11_look N Sc p l2 l3) (f_X12_look N Sm p l2 l3) := by
  obtain ⟨cK, nf, nl, np, nq, nb, ng, r, x, hA⟩ := h
  obtain ⟨v, Sc', Sm', e1, e2, a1, a2, a3⟩ := look_both (N := N) (pI := p) (l2 := l2) (l3 := l3) hA.1 hA.2.1
  exact ⟨v, Sc', Sm', e1, e2, RA_kR hA a1 a2 a3⟩
theorem C_needs {N : Nat} {Sc Sm : yS} (h : RAe Sc Sm) (hN : 60 < N) : cAll (f_X11_needs N Sc) (f_X12_needs N Sm) := by
  obtain ⟨cK, nf, nl, np, nq, nb, ng, r, x, hA⟩ := h
  obtain ⟨v, Sc', Sm', e1, e2, a1, a2, F, G⟩ := needs_both (N := N) hN hA.1 hA.2.1
  exact ⟨v, Sc', Sm', e1, e2, RA_kR hA a1 a2 (kR_FR F G (fun k z => by have := z.1; omega) (fun k a b z => by have := z.2; omega))⟩
