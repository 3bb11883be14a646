/-! A WHOLE QUARTER -/
theorem DY_bags {cK : Nat → Nat} {nf nl np nq nb ng : Nat} {Sc Sm Sc' Sm' : yS} (h : DY cK nf nl np nq nb ng Sc Sm) (hc : oC np nq nb ng Sc Sm) (hl : nl ≤ 12) (hB : RBd cK nf nb Sc' Sm') (fc : FR pBgs Sc Sc') (fm : wF 235 1345 Sm Sm') : DY cK nf nl np nq nb ng Sc' Sm' := by
  have np8 : np ≤ 8 := hc.1.2.1
  have nq8 : nq ≤ 8 := hc.2.1.2.1
  have ng24 : ng ≤ 24 := hc.2.2.2.2.1
  obtain ⟨d1, d2, d3, ⟨kw, d4⟩, d5, d6, d7, d8, d9⟩ := h
  have c : ∀ o k, (o < 384 ∨ 414 ≤ o ∨ k < 5) → Sc'.1 o k = Sc.1 o k ∧ Sc'.2.1 o k = Sc.2.1 o k := fun o k w => fc o k (fun z => by unfold pBgs at z; omega)
  have w : ∀ i, (i < 235 ∨ 1345 ≤ i) → Sm'.2.1 8 48 i = Sm.2.1 8 48 i := fun i hi => fm.2 i hi
  refine ⟨?_, ?_, ?_, ⟨kw, ?_⟩, ?_, ?_, hB, ?_, ?_⟩
  · rw [w 0 (by omega), (c 2 13 (by omega)).1]; exact d1
  · rw [w 1 (by omega), (c 2 14 (by omega)).1]; exact d2
  · rw [(c 2 13 (by omega)).1]; exact d3
  · exact RWk_congr d4 (c 3 0 (by omega)).1 (c 3 1 (by omega)).1 (wF_1 fm 8 (by decide)) (funext fun k => (c 3 k (by omega)).2) (w 2 (by omega)) (fun i a b => w i (by omega))
  · intro p hp j hj
    rw [w _ (by omega), (c _ _ (by omega)).1]; exact d5 p hp j hj
  · intro q hq j hj
    rw [w _ (by omega), (c _ _ (by omega)).1]; exact d6 q hq j hj
  · intro g hg j hj
    rw [w _ (by omega), (c _ _ (by omega)).1]; exact d8 g hg j hj
  · intro p hp
    refine PI_keep (d9 p hp) (fun k => (c _ k (by omega)).1) (c _ 19 (by omega)).2 (fun j hj => w _ (by omega)) (fun l hl' => (c _ 2 (by omega)).1) (fun g hg hne => ?_)
    rw [(c _ 7 (by omega)).1, (c _ 4 (by omega)).1, (c _ 1 (by omega)).1, (c _ 2 (by omega)).1]
    exact ⟨rfl, hne, rfl, rfl⟩
theorem DY_now {cK : Nat → Nat} {nf nl np nq nb ng t : Nat} {Sc Sm : yS} {v u : Int32} (h : DY cK nf nl np nq nb ng Sc Sm) (hc : oC np nq nb ng Sc Sm) (hl : nl ≤ 12) (hv : nn v t) (ht : t ≤ 3000) (hu : u = v) : DY cK nf nl np nq nb ng (yI Sc 2 13 v) (yA Sm 8 48 (upd (Sm.2.1 8 48) 0 u)) := by
  have np8 : np ≤ 8 := hc.1.2.1
  have nq8 : nq ≤ 8 := hc.2.1.2.1
  have nb30 : nb ≤ 30 := hc.2.2.1.2.1
  have ng24 : ng ≤ 24 := hc.2.2.2.2.1
  obtain ⟨d1, d2, d3, ⟨kw, d4⟩, d5, d6, d7, d8, d9⟩ := h
  have c : ∀ o k, (o ≠ 2 ∨ k ≠ 13) → (yI Sc 2 13 v).1 o k = Sc.1 o k := fun o k w => yI_1n _ _ (by omega)
  have w : ∀ i, i ≠ 0 → (yA Sm 8 48 (upd (Sm.2.1 8 48) 0 u)).2.1 8 48 i = Sm.2.1 8 48 i := fun i hi => by rw [yA_same, upd_o _ _ hi]
  refine ⟨?_, ?_, ?_, ⟨kw, ?_⟩, ?_, ?_, ?_, ?_, ?_⟩
  · rw [yA_same, upd_s, yI_1s]; exact hu
  · rw [w 1 (by omega), c 2 14 (by omega)]; exact d2
  · rw [yI_1s]; exact ⟨t, hv, ht⟩
  · exact RWk_congr d4 (c 3 0 (by omega)) (c 3 1 (by omega)) rfl rfl (w 2 (by omega)) (fun i a b => w i (by omega))
  · intro p hp j hj
    rw [w _ (by omega), c _ _ (by omega)]; exact d5 p hp j hj
  · intro q hq j hj
    rw [w _ (by omega), c _ _ (by omega)]; exact d6 q hq j hj
  · exact RBd_fr d7 nb30 (fun b hb k => ⟨c _ k (by omega), rfl⟩) (fun i a b => w i (by omega))
  · intro g hg j hj
    rw [w _ (by omega), c _ _ (by omega)]; exact d8 g hg j hj
  · intro p hp
    refine PI_keep (d9 p hp) (fun k => c _ k (by omega)) rfl (fun j hj => w _ (by omega)) (fun l hl' => c _ 2 (by omega)) (fun g hg hne => ?_)
    rw [c _ 7 (by omega), c _ 4 (by omega), c _ 1 (by omega), c _ 2 (by omega)]
    exact ⟨rfl, hne, rfl, rfl⟩
theorem ST_now {cK : Nat → Nat} {nf nl np nq nb ng : Nat} {Sc Sm : yS} {v u : Int32} (h : ST cK nf nl np nq nb ng Sc Sm) : ST cK nf nl np nq nb ng (yI Sc 2 13 v) (yA Sm 8 48 (upd (Sm.2.1 8 48) 0 u)) := ST_FW h (FR_I _ _ _ _ (Or.inr (Or.inl ⟨rfl, rfl⟩))) (FR_A _ _ _ _ (Or.inl ⟨rfl, Or.inr (Or.inl rfl)⟩)) (fun i a b => by rw [yA_same, upd_o _ _ (by omega)])
/-- frames of quarters: the hour too -/
def pQH (o k : Nat) : Prop := pQC o k ∨ (o = 2 ∧ k = 13)
def QH (cK : Nat → Nat) (Sc Sm Sc' Sm' : yS) : Prop := FR pQH Sc Sc' ∧ FR pQM Sm Sm' ∧ ∀ i, 3 ≤ i → i < 19 → Sm'.2.1 8 48 i = Sm.2.1 8 48 i
theorem QH_of {cK : Nat → Nat} {Sc Sm Sc' Sm' : yS} (h : QF cK Sc Sm Sc' Sm') : QH cK Sc Sm Sc' Sm' := ⟨FR_mono h.1 (fun _ _ z => Or.inl z), h.2⟩
theorem QH_trans {cK : Nat → Nat} {Sc Sm Sc' Sm' Sc'' Sm'' : yS} (h : QH cK Sc Sm Sc' Sm') (g : QH cK Sc' Sm' Sc'' Sm'') : QH cK Sc Sm Sc'' Sm'' := ⟨FR_trans h.1 g.1, FR_trans h.2.1 g.2.1, fun i a b => (g.2.2 i a b).trans (h.2.2 i a b)⟩
theorem QH_refl {cK : Nat → Nat} (Sc Sm : yS) : QH cK Sc Sm Sc Sm := ⟨FR_refl _ _, FR_refl _ _, fun _ _ _ => rfl⟩
theorem QH_now {cK : Nat → Nat} {Sc Sm : yS} {v u : Int32} : QH cK Sc Sm (yI Sc 2 13 v) (yA Sm 8 48 (upd (Sm.2.1 8 48) 0 u)) := ⟨FR_I _ _ _ _ (Or.inr ⟨rfl, rfl⟩), FR_A _ _ _ _ ⟨rfl, Or.inr (Or.inl rfl)⟩, fun i a b => by rw [yA_same, upd_o _ _ (by omega)]⟩
theorem quarter_both {cK : Nat → Nat} {N nf nl np nq nb ng t : Nat} {Sc Sm : yS} {k9 : yS → Int32 → Int32 → Int32 → Option (Int32 × yS)} {l1 l2 l3 : Int32} (hN : 120 < N) (hT : ST cK nf nl np nq nb ng Sc Sm) (hD : DY cK nf nl np nq nb ng Sc Sm) (ht : nn (Sc.1 2 13) t) (ht2 : t < 3000) : ∃ Sc' Sm', (bS (f_X10_beginQuarter N Sc) fun w2 S2 => f_X10_pass_47 N N k9 S2 l1 l2 l3 0) = k9 Sc' l1 l2 (l3 + 1) ∧ f_X12_goQuarter N Sm = some (0, Sm') ∧ ST cK nf nl np nq nb ng Sc' Sm' ∧ DY cK nf nl np nq nb ng Sc' Sm' ∧ nn (Sc'.1 2 13) (t + 1) ∧ QH cK Sc Sm Sc' Sm' := by
  have core : ∀ (S M : yS), ST cK nf nl np nq nb ng S M → DY cK nf nl np nq nb ng S M → S.1 2 13 = Sc.1 2 13 → ∃ Sc' Sm', (bS (f_X10_beginQuarter_36 N S) fun w2 S2 => f_X10_pass_47 N N k9 S2 l1 l2 l3 0) = k9 Sc' l1 l2 (l3 + 1) ∧ f_X12_goQuarter_37 N M (Sc.1 2 13) = some (0, Sm') ∧ ST cK nf nl np nq nb ng Sc' Sm' ∧ DY cK nf nl np nq nb ng Sc' Sm' ∧ nn (Sc'.1 2 13) (t + 1) ∧ QH cK S M Sc' Sm' := by
    intro S M hT hD hn
    have nb30 : nb ≤ 30 := hT.2.2.2.2.2.2.1.2.2.1.2.1
    have np8 : np ≤ 8 := hT.2.2.2.2.2.2.1.1.2.1
    have ng24 : ng ≤ 24 := hT.2.2.2.2.2.2.1.2.2.2.2.1
    obtain ⟨S1, M1, a1, a2, a3, a4, a5⟩ := train_loop (N := N) (nf := nf) (nb := nb) (now := Sc.1 2 13) nb 0 N N S M (by omega) (by omega) (by omega) hn.symm (RBs_of hT hD) hD.2.2.2.2.2.2.1
    have q1 : QF cK S M S1 M1 := ⟨FR_mono a4 (fun o k z => by unfold pBgs at z; unfold pQC; omega), FR_mono a5.1 (fun o k z => ⟨z.1, Or.inr (Or.inl z.2)⟩), fun i a b => a5.2 i (by omega)⟩
    have hD1 := DY_bags hD hT.2.2.2.2.2.2.1 hT.2.1.2.1 a3 a4 a5
    have hT1 := ST_QF hT q1
    have hn1 : Sc.1 2 13 = S1.1 2 13 := (hn.symm).trans (QF_now q1).symm
    obtain ⟨S2, M2, b1, b2, b3, b4⟩ := flights_loop (N := N) (k9 := k9) (l1 := l1) (l2 := l2) (l3 := l3) hN ng 0 N N S1 M1 (by omega) (by omega) (by omega) hn1 hT1 hD1
    have hT2 := ST_QF hT1 b4
    have hn2 : S2.1 2 13 = Sc.1 2 13 := (QF_now b4).trans hn1.symm
    obtain ⟨S3, M3, c1, c2, c3, c4⟩ := planes_loop (N := N) (k9 := k9) (l1 := l1) (l2 := l2) (l3 := l3) hN np 0 N N S2 M2 (by omega) (by omega) (by omega) hT2 b3
    have hT3 := ST_QF hT2 c4
    have hn3 : S3.1 2 13 = Sc.1 2 13 := (QF_now c4).trans hn2
    have nv : nn (S3.1 2 13 + 1) (t + 1) := by rw [hn3]; exact nn_add ht (nn_l 1 (by decide)) (by omega)
    refine ⟨_, _, ?_, ?_, ST_now hT3, DY_now c3 hT3.2.2.2.2.2.2.1 hT3.2.1.2.1 nv (by omega) (show M3.2.1 8 48 0 + 1 = S3.1 2 13 + 1 by rw [c3.1]), by rw [yI_1s]; exact nv, QH_trans (QH_of (QF_trans q1 (QF_trans b4 c4))) QH_now⟩
    · unfold f_X10_beginQuarter_36
      have a1' : f_X10_beginQuarter_38 N N S 0 = some (0, S1) := a1
      rw [a1', bS_s]
      exact b1.trans c1
    · unfold f_X12_goQuarter_37
      exact a2.trans (b2.trans c2)
  unfold f_X10_beginQuarter f_X10_beginQuarter_0 f_X12_goQuarter f_X12_goQuarter_0
  rw [gA_nn (nn_l 0 (by decide)) (by decide), hD.1]
  by_cases c : Sc.1 2 13 - Sc.1 2 13 / 96 * 96 = 0
  · have nq8 : nq ≤ 8 := hT.2.2.2.2.2.2.1.2.1.2.1
    obtain ⟨S1, M1, a1, a2, a3, a4⟩ := pilots_loop (N := N) (now := Sc.1 2 13) nq 0 N N Sc Sm (by omega) (by omega) (by omega) hT hD
    have a1' : f_X10_beginQuarter_12 N N Sc 0 = f_X10_beginQuarter_36 N S1 := a1
    have a2' : f_X12_goQuarter_16 N N Sm (Sc.1 2 13) 0 = f_X12_goQuarter_37 N M1 (Sc.1 2 13) := a2
    rw [if_neg (fun z => z c), if_neg (fun z => z c), a1', a2']
    obtain ⟨Sc', Sm', g1, g2, g3, g4, g5, g6⟩ := core S1 M1 (ST_QF hT a4) a3 (QF_now a4)
    exact ⟨Sc', Sm', g1, g2, g3, g4, g5, QH_trans (QH_of a4) g6⟩
  · rw [if_pos c, if_pos c]
    exact core Sc Sm hT hD rfl
