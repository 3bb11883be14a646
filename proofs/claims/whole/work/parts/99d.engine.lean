/-! CALLS: engine -/
theorem PI_567 {cK : Nat → Nat} {nf nl nq ng p j : Nat} {Sc Sm : yS} {v : Int32} (h : PI cK nf nl nq ng Sc Sm p) (hj : j = 5 ∨ j = 6 ∨ j = 7) (hv : ∃ f, nn v f ∧ f ≤ 999) (hp : p < 8) (hl : nl ≤ 12) : PI cK nf nl nq ng (yI Sc (128 + p) j v) (yA Sm 8 48 (upd (Sm.2.1 8 48) (19 + 23 * p + j) v)) p := by
  have c : ∀ k, k ≠ j → (yI Sc (128 + p) j v).1 (128 + p) k = Sc.1 (128 + p) k := fun k z => yI_1n _ _ (fun y => z y.2)
  have co : ∀ o k, o ≠ 128 + p → (yI Sc (128 + p) j v).1 o k = Sc.1 o k := fun o k z => yI_1n _ _ (fun y => z y.1)
  have w : ∀ i, i ≠ 19 + 23 * p + j → (yA Sm 8 48 (upd (Sm.2.1 8 48) (19 + 23 * p + j) v)).2.1 8 48 i = Sm.2.1 8 48 i := fun i z => by rw [yA_same, upd_o _ _ z]
  obtain ⟨h1, h2, h3, h4, h5, h6⟩ := h
  refine ⟨by rw [c 13 (by omega)]; exact h1, ?_, by rw [c 11 (by omega)]; exact h3, ?_, by rw [c 12 (by omega), c 18 (by omega)]; exact h5, fun z => ?_⟩
  · by_cases e : j = 7
    · subst e
      rw [yI_1s]; exact hv
    · rw [c 7 (by omega)]; exact h2
  · rcases h4 with z | ⟨z1, z2, ⟨l, m, M, a1, a2, a3, a4, a5⟩, ⟨q, b1, b2⟩, g, g1, g2, g3, g4, g5, g6, g7⟩
    · rw [c 8 (by omega), c 12 (by omega)]; exact Or.inl z
    · exact Or.inr ⟨by rw [c 8 (by omega)]; exact z1, by rw [c 12 (by omega)]; exact z2, ⟨l, m, M, by rw [c 9 (by omega)]; exact a1, a2, by rw [c 10 (by omega)]; exact a3, by rw [co _ _ (by omega)]; exact a4, a5⟩, ⟨q, by rw [c 16 (by omega)]; exact b1, b2⟩, g, by rw [c 17 (by omega)]; exact g1, g2, by rw [co _ _ (by omega)]; exact g3, by rw [w _ (by omega), c 17 (by omega)]; exact g4, by rw [w _ (by omega), co _ _ (by omega)]; exact g5, by rw [co _ _ (by omega), c 16 (by omega)]; exact g6, by rw [co _ _ (by omega), c 9 (by omega)]; exact g7⟩
  · rw [c 12 (by omega)] at z
    obtain ⟨n, n1, n2, n3, n4⟩ := h6 z
    exact ⟨n, by rw [c 18 (by omega)]; exact n1, n2, by rw [w _ (by omega), c 18 (by omega)]; exact n3, fun i hi => by rw [w _ (by omega)]; exact n4 i hi⟩
theorem eng_one {cK : Nat → Nat} {nf nl np nq nb ng p j : Nat} {Sc Sm : yS} {v : Int32} (hT : ST cK nf nl np nq nb ng Sc Sm) (hD : DY cK nf nl np nq nb ng Sc Sm) (hp : p < np) (hj : j = 5 ∨ j = 6 ∨ j = 7) (hv : ∃ f, nn v f ∧ f ≤ 999) : ST cK nf nl np nq nb ng (yI Sc (128 + p) j v) (yA Sm 8 48 (upd (Sm.2.1 8 48) (19 + 23 * p + j) v)) ∧ DY cK nf nl np nq nb ng (yI Sc (128 + p) j v) (yA Sm 8 48 (upd (Sm.2.1 8 48) (19 + 23 * p + j) v)) := by
  have np8 : np ≤ 8 := hT.2.2.2.2.2.2.1.1.2.1
  have ep : pS j = j := by rcases hj with rfl | rfl | rfl <;> rfl
  have hq : ST cK nf nl np nq nb ng (yI Sc (128 + p) j v) (yA Sm 8 48 (upd (Sm.2.1 8 48) (19 + 23 * p + j) v)) := ST_FW hT (FR_I _ _ _ _ (by unfold pQW pQC; omega)) (FR_A _ _ _ _ (Or.inl ⟨rfl, Or.inr (Or.inl rfl)⟩)) (fun i a b => by rw [yA_same, upd_o _ _ (by omega)])
  have hd := DY_pl (j := j) (v := v) hD hT.2.2.2.2.2.2.1 hT.2.1.2.1 hp (by omega) (by rw [ep]; exact PI_567 (hD.2.2.2.2.2.2.2.2 p hp) hj hv (by omega) hT.2.1.2.1)
  rw [ep] at hd
  exact ⟨hq, hd⟩
theorem engine_both {cK : Nat → Nat} {N nf nl np nq nb ng : Nat} {Sc Sm : yS} {pI a b c : Int32} (hT : ST cK nf nl np nq nb ng Sc Sm) (hD : DY cK nf nl np nq nb ng Sc Sm) : ∃ v Sc' Sm', f_X11_engine N Sc pI a b c = some (v, Sc') ∧ f_X12_engine N Sm pI a b c = some (v, Sm') ∧ ST cK nf nl np nq nb ng Sc' Sm' ∧ DY cK nf nl np nq nb ng Sc' Sm' ∧ kR Sc Sm Sc' Sm' := by
  obtain ⟨hT1, hD1⟩ := clear_both hT hD
  obtain ⟨t1, t2, t3, t4, t5, t6, t7, t8, t9, t10, t11, t12, t13, t14⟩ := id hT1
  have np8 : np ≤ 8 := t7.1.2.1
  have lt : ∀ x : Int32, 0 ≤ x ∧ x ≤ 999 → ∃ f, nn x f ∧ f ≤ 999 := fun x h => ⟨_, nn_of h.1, (nn_le (nn_of h.1) (nn_l 999 (by decide))).mp h.2⟩
  unfold f_X11_engine f_X11_engine_0 f_X11_engine_42 f_X12_engine f_X12_engine_0 f_X12_engine_47
  rw [e_isPlane, bV_s, sq_s, em_isPlane, bV_s, t7.1.2.2]
  by_cases h0 : 0 ≤ pI ∧ pI ≤ Sc.1 2 5 - 1
  · obtain ⟨p, p1, p2⟩ := nn_idx t7.1.1 h0
    rw [b01_t h0, if_neg (show ¬ (1 : Int32) = 0 by decide), if_neg (show ¬ (1 : Int32) = 0 by decide), e_within, bV_s, e_in, bV_s]
    by_cases h1 : 0 ≤ a ∧ a ≤ 999
    · rw [b01_t h1, if_neg (show ¬ (1 : Int32) = 0 by decide), if_neg (show ¬ (1 : Int32) = 0 by decide), e_within, bV_s, e_in, bV_s]
      by_cases h2 : 1 ≤ b ∧ b ≤ 999
      · rw [b01_t h2, if_neg (show ¬ (1 : Int32) = 0 by decide), if_neg (show ¬ (1 : Int32) = 0 by decide), e_within, bV_s, e_in, bV_s]
        by_cases h3 : 0 ≤ c ∧ c ≤ 999
        · rw [b01_t h3, if_pos (show ¬ (1 : Int32) = 0 by decide), if_pos (show ¬ (1 : Int32) = 0 by decide), gR_nn p1 (by omega) (t8 p p2).1, sq_s, sq_s, sq_s, em_planeW p1 (by omega) (nn_l 5 (by decide)) (by decide), bS_s, em_planeW p1 (by omega) (nn_l 6 (by decide)) (by decide), bS_s, em_planeW p1 (by omega) (nn_l 7 (by decide)) (by decide), bS_s]
          obtain ⟨x1, y1⟩ := eng_one (v := a) hT1 hD1 p2 (Or.inl rfl) (lt a h1)
          obtain ⟨x2, y2⟩ := eng_one (v := b) x1 y1 p2 (Or.inr (Or.inl rfl)) (lt b ⟨Int32.le_trans (by decide) h2.1, h2.2⟩)
          obtain ⟨x3, y3⟩ := eng_one (v := c) x2 y2 p2 (Or.inr (Or.inr rfl)) (lt c h3)
          exact ⟨1, _, _, rfl, rfl, x3, y3, kR_trans kR_cl (kR_FR (pc := fun o _ => o = 128 + p) (pm := fun o k => o = 8 ∧ k = 48) (FR_trans (FR_I _ _ _ _ rfl) (FR_trans (FR_I _ _ _ _ rfl) (FR_I _ _ _ _ rfl))) (FR_trans (FR_A _ _ _ _ ⟨rfl, rfl⟩) (FR_trans (FR_A _ _ _ _ ⟨rfl, rfl⟩) (FR_A _ _ _ _ ⟨rfl, rfl⟩))) (fun k z => by omega) (fun k a b z => by have := z.2; omega))⟩
        · rw [b01_f h3, if_neg (show ¬ ¬ (0 : Int32) = 0 from fun w => w rfl), if_neg (show ¬ ¬ (0 : Int32) = 0 from fun w => w rfl)]
          exact ⟨0, _, _, rfl, rfl, hT1, hD1, kR_cl⟩
      · rw [b01_f h2, if_pos rfl, if_pos rfl]
        exact ⟨0, _, _, rfl, rfl, hT1, hD1, kR_cl⟩
    · rw [b01_f h1, if_pos rfl, if_pos rfl]
      exact ⟨0, _, _, rfl, rfl, hT1, hD1, kR_cl⟩
  · rw [b01_f h0, if_pos rfl, if_pos rfl]
    exact ⟨0, _, _, rfl, rfl, hT1, hD1, kR_cl⟩
/-! a run of quarters, as tries use it -/
theorem go_both {cK : Nat → Nat} {N nf nl np nq nb ng q t : Nat} {Sc Sm : yS} {qI : Int32} (hN : 120 < N) (hqN : q < N) (hq : nn qI q) (hT : ST cK nf nl np nq nb ng Sc Sm) (hD : DY cK nf nl np nq nb ng Sc Sm) (ht : nn (Sc.1 2 13) t) (h : t + q ≤ 3000) : ∃ Sc' Sm', f_X10_pass N Sc qI = some (0, Sc') ∧ f_X12_go N Sm qI = some (0, Sm') ∧ ST cK nf nl np nq nb ng Sc' Sm' ∧ DY cK nf nl np nq nb ng Sc' Sm' ∧ nn (Sc'.1 2 13) (t + q) ∧ QH cK Sc Sm Sc' Sm' := by
  have he := nn_add ht hq (by omega)
  have hL : ∀ n S c, c < q → (fun n S c => f_X12_go_2 n N S qI c) (n + 1) S (Int32.ofNat c) = bS (f_X12_goQuarter N S) fun _ S1 => (fun n S c => f_X12_go_2 n N S qI c) n S1 (Int32.ofNat (c + 1)) := by
    intro n S c hc
    show f_X12_go_2 (n + 1) N S qI (Int32.ofNat c) = bS (f_X12_goQuarter N S) fun _ S1 => f_X12_go_2 n N S1 qI (Int32.ofNat (c + 1))
    rw [f_X12_go_2, if_neg (fun w => by have := (nn_le hq (nn_lit c (by omega))).mp w; omega), y_int1]
  obtain ⟨Sc', Sm', a1, a2, a3, a4, a5⟩ := pass_both (N := N) (e := t + q) (eI := Sc.1 2 13 + qI) (L := fun n S c => f_X12_go_2 n N S qI c) hN hq he h hL q q t 0 0 N N Sc Sm (Nat.le_refl _) hT hD ht rfl (by omega) (by omega) (by omega) (by omega)
  refine ⟨Sc', Sm', ?_, ?_, a3, a4, a5⟩
  · unfold f_X10_pass f_X10_pass_0
    exact a1
  · unfold f_X12_go f_X12_go_0
    refine Eq.trans a2 ?_
    show f_X12_go_2 (N - q) N Sm' qI (Int32.ofNat q) = some (0, Sm')
    obtain ⟨m, hm⟩ : ∃ m, N - q = m + 1 := ⟨N - q - 1, by omega⟩
    rw [hm, f_X12_go_2, if_pos (by rw [← hq.1]; exact Int32.le_refl _)]
theorem flown_both {cK : Nat → Nat} {N nf nl np nq nb ng : Nat} {Sc Sm : yS} {gI k : Int32} (hT : ST cK nf nl np nq nb ng Sc Sm) (hD : DY cK nf nl np nq nb ng Sc Sm) : ∃ v Sm', f_X11_flown N Sc gI k = some v ∧ f_X12_flown N Sm gI k = some (v, Sm') ∧ ST cK nf nl np nq nb ng Sc Sm' ∧ DY cK nf nl np nq nb ng Sc Sm' ∧ kR Sc Sm Sc Sm' := by
  obtain ⟨hT1, hD1⟩ := clear_both hT hD
  obtain ⟨t1, t2, t3, t4, t5, t6, t7, t8, t9, t10, t11, t12, t13, t14⟩ := id hT1
  have ng24 : ng ≤ 24 := t7.2.2.2.2.1
  unfold f_X11_flown f_X11_flown_0 f_X12_flown f_X12_flown_0 f_X12_flown_37 f_X12_flown_38
  rw [e_isFlight, bV_s, sq_s, e_in, bV_s, t7.2.2.2.2.2]
  by_cases c : 0 ≤ gI ∧ gI ≤ Sc.1 2 12 - 1
  · obtain ⟨g, g1, g2⟩ := nn_idx t7.2.2.2.1 c
    have u : ∀ j, j < 5 → (yI Sm 8 47 0).2.1 8 48 (1345 + 5 * g + j) = Sc.1 (512 + g) (fSl j) := hD1.2.2.2.2.2.2.2.1 g g2
    rw [b01_t c, if_pos (show ¬ (1 : Int32) = 0 by decide), if_neg (show ¬ (1 : Int32) = 0 by decide), gR_nn g1 (by omega) (t11 g g2).1, e_in, bV_s]
    by_cases d : 0 ≤ k ∧ k ≤ 2
    · have hk := nn_of d.1
      have k1 := (nn_le hk (nn_l 2 (by decide))).mp d.2
      generalize k.toNatClampNeg = kn at hk k1
      rw [b01_t d, if_neg (show ¬ (1 : Int32) = 0 by decide), em_flR g1 (by omega) hk (by omega), bV_s, u kn (by omega)]
      have ek := hk.1
      rcases (show kn = 0 ∨ kn = 1 ∨ kn = 2 by omega) with rfl | rfl | rfl
      · rw [if_pos (show k = 0 from ek)]
        exact ⟨_, _, rfl, rfl, hT1, hD1, kR_cl⟩
      · rw [if_neg (show ¬ k = 0 by rw [ek]; decide), if_pos (show k = 1 from ek)]
        exact ⟨_, _, rfl, rfl, hT1, hD1, kR_cl⟩
      · rw [if_neg (show ¬ k = 0 by rw [ek]; decide), if_neg (show ¬ k = 1 by rw [ek]; decide), if_pos (show k = 2 from ek)]
        exact ⟨_, _, rfl, rfl, hT1, hD1, kR_cl⟩
    · rw [b01_f d, if_pos rfl, if_neg (show ¬ k = 0 from fun z => d (by rw [z]; decide)), if_neg (show ¬ k = 1 from fun z => d (by rw [z]; decide)), if_neg (show ¬ k = 2 from fun z => d (by rw [z]; decide))]
      exact ⟨_, _, rfl, rfl, hT1, hD1, kR_cl⟩
  · rw [b01_f c, if_neg (show ¬ ¬ (0 : Int32) = 0 from fun w => w rfl), if_pos rfl]
    exact ⟨_, _, rfl, rfl, hT1, hD1, kR_cl⟩
