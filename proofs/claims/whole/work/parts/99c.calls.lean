/-! CALLS over the dynamic relation: may, cancel, why, engine, learns -/
theorem w_c {N g : Nat} {S : yS} : f_X1_waits N S (512 + g) = some (b01 (S.1 (512 + g) 4 = 0)) := by
  unfold f_X1_waits f_X1_waits_0 f_X1_waits_12
  by_cases a : S.1 (512 + g) 4 = 0
  · rw [if_neg (fun z => z a), gP_t (Or.inr rfl), b01_t a]
  · rw [if_pos a, gP_t (Or.inl rfl), b01_f a]
theorem w_m {N g : Nat} {S : yS} {gI c x : Int32} (hgI : nn gI g) (h : g < 24) (hc : S.1 8 33 = c) (hr : 0 ≤ gI ∧ gI ≤ c - 1) (hx : S.2.1 8 48 (1345 + 5 * g + 0) = x) : f_X12_waits N S gI = some (b01 (x = 0)) := by
  unfold f_X12_waits f_X12_waits_0 f_X12_waits_27 f_X12_waits_28
  rw [e_in, bV_s, hc, b01_t hr, if_neg (show ¬ (1 : Int32) = 0 by decide), em_flR hgI h (nn_l 0 (by decide)) (by decide), bV_s, hx]
  by_cases a : x = 0
  · rw [if_neg (fun z => z a), gP_t (Or.inr rfl), b01_t a]
  · rw [if_pos a, gP_t (Or.inl rfl), b01_f a]
theorem w_n {N : Nat} {S : yS} {gI c : Int32} (hc : S.1 8 33 = c) (hr : ¬ (0 ≤ gI ∧ gI ≤ c - 1)) : f_X12_waits N S gI = some 0 := by
  unfold f_X12_waits f_X12_waits_0 f_X12_waits_27 f_X12_waits_28
  rw [e_in, bV_s, hc, b01_f hr, if_pos rfl, gP_t (Or.inl rfl)]
theorem cancel_both {cK : Nat → Nat} {N nf nl np nq nb ng : Nat} {Sc Sm : yS} {gI : Int32} (hT : ST cK nf nl np nq nb ng Sc Sm) (hD : DY cK nf nl np nq nb ng Sc Sm) : ∃ v Sc' Sm', f_X11_cancel N Sc gI = some (v, Sc') ∧ f_X12_cancel N Sm gI = some (v, Sm') ∧ ST cK nf nl np nq nb ng Sc' Sm' ∧ DY cK nf nl np nq nb ng Sc' Sm' ∧ kR Sc Sm Sc' Sm' := by
  obtain ⟨hT1, hD1⟩ := clear_both hT hD
  obtain ⟨t1, t2, t3, t4, t5, t6, t7, t8, t9, t10, t11, t12, t13, t14⟩ := id hT1
  have ng24 : ng ≤ 24 := t7.2.2.2.2.1
  unfold f_X11_cancel f_X11_cancel_0 f_X11_cancel_23 f_X12_cancel f_X12_cancel_0
  rw [e_isFlight, bV_s, sq_s]
  by_cases c : 0 ≤ gI ∧ gI ≤ Sc.1 2 12 - 1
  · obtain ⟨g, g1, g2⟩ := nn_idx t7.2.2.2.1 c
    have u0 : (yI Sm 8 47 0).2.1 8 48 (1345 + 5 * g + 0) = Sc.1 (512 + g) 4 := hD1.2.2.2.2.2.2.2.1 g g2 0 (by decide)
    rw [b01_t c, if_neg (show ¬ (1 : Int32) = 0 by decide), gR_nn g1 (by omega) (t11 g g2).1, w_c, bV_s, w_m g1 (by omega) t7.2.2.2.2.2 c u0, bV_s]
    by_cases z : Sc.1 (512 + g) 4 = 0
    · have hd := DY_st (v := 3) (t := Sc.1 2 13) hD1 t7 t2.2.1 g2 z
      have hq : QF cK Sc (yI Sm 8 47 0) (yI (yI Sc (512 + g) 4 3) (512 + g) 6 (Sc.1 2 13)) (yA (yI Sm 8 47 0) 8 48 (upd (upd ((yI Sm 8 47 0).2.1 8 48) (1345 + 5 * g + 0) 3) (1345 + 5 * g + 2) (Sc.1 2 13))) := ⟨FR_trans (FR_I _ _ _ _ (by unfold pQC; omega)) (FR_I _ _ _ _ (by unfold pQC; omega)), FR_A _ _ _ _ ⟨rfl, Or.inr (Or.inl rfl)⟩, fun i a b => by rw [yA_same, upd_o _ _ (by omega), upd_o _ _ (by omega)]⟩
      rw [b01_t z, if_pos (show ¬ (1 : Int32) = 0 by decide), if_pos (show ¬ (1 : Int32) = 0 by decide), gR_nn g1 (by omega) (t11 g g2).1]
      refine ⟨1, _, _, ?_, ?_, ST_QF hT1 hq, hd, kR_trans kR_cl (kR_QF hq)⟩
      · unfold f_X1_finish f_X1_finish_0
        rw [sq_s, sq_s, bS_s]
      · unfold f_X12_endFlight f_X12_endFlight_0
        rw [em_flW g1 (by omega) (nn_l 0 (by decide)) (by decide), bS_s, gA_nn (nn_l 0 (by decide)) (by decide), em_flW g1 (by omega) (nn_l 2 (by decide)) (by decide), bS_s, bS_s]
        simp only [yA_yA, yA_same]
        rw [upd_o _ _ (by omega), hD1.1]
    · rw [b01_f z, if_neg (show ¬ ¬ (0 : Int32) = 0 from fun w => w rfl), if_neg (show ¬ ¬ (0 : Int32) = 0 from fun w => w rfl)]
      exact ⟨0, _, _, rfl, rfl, hT1, hD1, kR_cl⟩
  · rw [b01_f c, if_pos rfl, w_n t7.2.2.2.2.2 c, bV_s, if_neg (show ¬ ¬ (0 : Int32) = 0 from fun w => w rfl)]
    exact ⟨0, _, _, rfl, rfl, hT1, hD1, kR_cl⟩
theorem may_both {cK : Nat → Nat} {N nf nl np nq nb ng : Nat} {Sc Sm : yS} {gI : Int32} (hN : 120 < N) (hT : ST cK nf nl np nq nb ng Sc Sm) (hD : DY cK nf nl np nq nb ng Sc Sm) : ∃ v Sc' Sm', f_X11_may N Sc gI = some (v, Sc') ∧ f_X12_may N Sm gI = some (v, Sm') ∧ ST cK nf nl np nq nb ng Sc' Sm' ∧ DY cK nf nl np nq nb ng Sc' Sm' ∧ kR Sc Sm Sc' Sm' := by
  obtain ⟨hT1, hD1⟩ := clear_both hT hD
  obtain ⟨t1, t2, t3, t4, t5, t6, t7, t8, t9, t10, t11, t12, t13, t14⟩ := id hT1
  have ng24 : ng ≤ 24 := t7.2.2.2.2.1
  have nb30 : nb ≤ 30 := t7.2.2.1.2.1
  unfold f_X11_may f_X11_may_0 f_X11_may_23 f_X11_may_75 f_X12_may f_X12_may_0 f_X12_may_23
  rw [e_isFlight, bV_s, sq_s]
  by_cases c : 0 ≤ gI ∧ gI ≤ Sc.1 2 12 - 1
  · obtain ⟨g, g1, g2⟩ := nn_idx t7.2.2.2.1 c
    have u0 : (yI Sm 8 47 0).2.1 8 48 (1345 + 5 * g + 0) = Sc.1 (512 + g) 4 := hD1.2.2.2.2.2.2.2.1 g g2 0 (by decide)
    rw [b01_t c, if_neg (show ¬ (1 : Int32) = 0 by decide), gR_nn g1 (by omega) (t11 g g2).1, w_c, bV_s, w_m g1 (by omega) t7.2.2.2.2.2 c u0, bV_s]
    by_cases z : Sc.1 (512 + g) 4 = 0
    · rw [b01_t z, if_pos (show ¬ (1 : Int32) = 0 by decide), if_neg (show ¬ (1 : Int32) = 0 by decide), gR_nn g1 (by omega) (t11 g g2).1]
      obtain ⟨h, p, q, l, y1, p1, p2, r1, r2, l1, l2, y2, y3⟩ := hind_both (N := N) hT1 hD1 g2 g1
      rw [y1, bV_s]
      by_cases w : h = 0
      · obtain ⟨_, _, _, y4⟩ := y3 w
        obtain ⟨v, S0, s1, s2, ⟨M1, s3, s3'⟩, _⟩ := startAct_both (N := N) hT1 hD1 hN g2 g1 p1 p2 r1 r2 l1 l2
        have hT2 : ST cK nf nl np nq nb ng S0 M1 := ST_FR hT1 (FR_mono s2 (fun o k x => by unfold pI1 at x; unfold pQC; omega)) (FR_mono s3' (fun o k x => by unfold pI2 at x; unfold pQM; omega)) (fun i a b => by rw [(s3' 8 48 (fun x => by unfold pI2 at x; omega)).2])
        have hD2 := DY_irr hD1 nb30 s2 s3'
        rw [if_pos w, gR_nn g1 (by omega) (t11 g g2).1, s1, bS_s, y4, s3, bS_s]
        by_cases y : v = 71
        · rw [if_neg (show ¬ ¬ v = 71 from fun x => x y), if_pos y]
          exact ⟨0, S0, M1, rfl, rfl, hT2, hD2, kR_trans kR_cl (kR_FR s2 s3' (fun k z => by unfold pI1 at z; omega) (fun k a b z => by unfold pI2 at z; omega))⟩
        · rw [if_pos y, if_neg y]
          exact ⟨7, S0, M1, rfl, rfl, hT2, hD2, kR_trans kR_cl (kR_FR s2 s3' (fun k z => by unfold pI1 at z; omega) (fun k a b z => by unfold pI2 at z; omega))⟩
      · rw [if_neg w, y2 w, bS_s]
        exact ⟨h, _, _, rfl, rfl, hT1, hD1, kR_cl⟩
    · rw [b01_f z, if_neg (show ¬ ¬ (0 : Int32) = 0 from fun w => w rfl), if_pos rfl]
      exact ⟨-1, _, _, rfl, rfl, hT1, hD1, kR_cl⟩
  · rw [b01_f c, if_pos rfl, w_n t7.2.2.2.2.2 c, bV_s, if_pos rfl]
    exact ⟨-1, _, _, rfl, rfl, hT1, hD1, kR_cl⟩
theorem why_both {cK : Nat → Nat} {N nf nl np nq nb ng : Nat} {Sc Sm : yS} {gI k : Int32} (hT : ST cK nf nl np nq nb ng Sc Sm) (hD : DY cK nf nl np nq nb ng Sc Sm) : ∃ v Sm', f_X11_why N Sc gI k = some v ∧ f_X12_why N Sm gI k = some (v, Sm') ∧ ST cK nf nl np nq nb ng Sc Sm' ∧ DY cK nf nl np nq nb ng Sc Sm' ∧ kR Sc Sm Sc Sm' := by
  obtain ⟨hT1, hD1⟩ := clear_both hT hD
  obtain ⟨t1, t2, t3, t4, t5, t6, t7, t8, t9, t10, t11, t12, t13, t14⟩ := id hT1
  have ng24 : ng ≤ 24 := t7.2.2.2.2.1
  unfold f_X11_why f_X11_why_0 f_X11_why_17 f_X11_why_44 f_X12_why f_X12_why_0 f_X12_why_39 f_X12_why_40
  rw [e_isFlight, bV_s, sq_s, e_in, bV_s, t7.2.2.2.2.2]
  by_cases c : 0 ≤ gI ∧ gI ≤ Sc.1 2 12 - 1
  · obtain ⟨g, g1, g2⟩ := nn_idx t7.2.2.2.1 c
    rw [b01_t c, if_neg (show ¬ (1 : Int32) = 0 by decide), if_neg (show ¬ (1 : Int32) = 0 by decide), e_within, bV_s, e_in, bV_s]
    by_cases d : 0 ≤ k ∧ k ≤ 1
    · have hk := nn_of d.1
      have k1 := (nn_le hk (nn_l 1 (by decide))).mp d.2
      generalize k.toNatClampNeg = kn at hk k1
      rw [b01_t d, if_pos (show ¬ (1 : Int32) = 0 by decide), if_neg (show ¬ (1 : Int32) = 0 by decide), gR_nn g1 (by omega) (t11 g g2).1, em_flR g1 (by omega) (nn_add (nn_l 3 (by decide)) hk (by omega)) (by omega), bV_s]
      have u : ∀ j, j < 5 → (yI Sm 8 47 0).2.1 8 48 (1345 + 5 * g + j) = Sc.1 (512 + g) (fSl j) := hD1.2.2.2.2.2.2.2.1 g g2
      by_cases z : k = 0
      · have kz := (nn_eq hk (nn_l 0 (by decide))).mp z
        rw [if_neg (show ¬ ¬ k = 0 from fun w => w z), kz, u (3 + 0) (by decide)]
        exact ⟨_, _, rfl, rfl, hT1, hD1, kR_cl⟩
      · have kz : kn = 1 := by
          rcases Nat.lt_or_ge kn 1 with w | w
          · exact absurd ((nn_eq hk (nn_l 0 (by decide))).mpr (by omega)) z
          · omega
        rw [if_pos z, kz, u (3 + 1) (by decide)]
        exact ⟨_, _, rfl, rfl, hT1, hD1, kR_cl⟩
    · rw [b01_f d, if_neg (show ¬ ¬ (0 : Int32) = 0 from fun w => w rfl), if_pos rfl]
      exact ⟨_, _, rfl, rfl, hT1, hD1, kR_cl⟩
  · rw [b01_f c, if_pos rfl, if_pos rfl]
    exact ⟨_, _, rfl, rfl, hT1, hD1, kR_cl⟩
theorem learns_both {cK : Nat → Nat} {N nf nl np nq nb ng : Nat} {Sc Sm : yS} {qI lI : Int32} (hT : ST cK nf nl np nq nb ng Sc Sm) (hD : DY cK nf nl np nq nb ng Sc Sm) : ∃ v Sc' Sm', f_X11_learns N Sc qI lI = some (v, Sc') ∧ f_X12_learns N Sm qI lI = some (v, Sm') ∧ ST cK nf nl np nq nb ng Sc' Sm' ∧ DY cK nf nl np nq nb ng Sc' Sm' ∧ kR Sc Sm Sc' Sm' := by
  obtain ⟨hT1, hD1⟩ := clear_both hT hD
  obtain ⟨t1, t2, t3, t4, t5, t6, t7, t8, t9, t10, t11, t12, t13, t14⟩ := id hT1
  have nq8 : nq ≤ 8 := t7.2.1.2.1
  unfold f_X11_learns f_X11_learns_0 f_X11_learns_16 f_X12_learns f_X12_learns_0 f_X12_learns_21
  rw [e_isPilot, bV_s, sq_s, em_isPilot, bV_s, t7.2.1.2.2]
  by_cases c : 0 ≤ qI ∧ qI ≤ Sc.1 2 7 - 1
  · obtain ⟨q, q1, q2⟩ := nn_idx t7.2.1.1 c
    rw [b01_t c, if_neg (show ¬ (1 : Int32) = 0 by decide), if_neg (show ¬ (1 : Int32) = 0 by decide), e_isLeg, bV_s, em_isLeg, bV_s, t2.2.2.1]
    by_cases d : 0 ≤ lI ∧ lI ≤ Sc.1 1 5 - 1
    · have u : (yI Sm 8 47 0).2.1 8 48 (203 + 4 * q + 3) = Sc.1 (256 + q) 3 := hD1.2.2.2.2.2.1 q q2 3 (by decide)
      rw [b01_t d, if_pos (show ¬ (1 : Int32) = 0 by decide), if_pos (show ¬ (1 : Int32) = 0 by decide), gR_nn q1 (by omega) (t9 q q2), sq_s, em_pilR q1 (by omega) (nn_l 3 (by decide)) (by decide), bV_s, u, em_setPilot q1 (nn_l 3 (by decide)) (by omega) (by decide), bS_s]
      refine ⟨1, _, _, rfl, rfl, ST_FW hT1 (FR_I _ _ _ _ (Or.inr (Or.inr (Or.inl ⟨by omega, by omega, rfl⟩)))) (FR_A _ _ _ _ (Or.inl ⟨rfl, Or.inr (Or.inl rfl)⟩)) (fun i a b => by rw [yA_same, upd_o _ _ (by omega)]), DY_any (o := 256 + q) (k := 3) (i := 203 + 4 * q + 3) hD1 t7 t2.2.1 (Or.inr (Or.inl ⟨q, q2, rfl, by decide, rfl⟩)), kR_trans kR_cl (kR_FR (pc := fun o k => o = 256 + q) (pm := fun o k => o = 8 ∧ k = 48) (FR_I _ _ _ _ rfl) (FR_A _ _ _ _ ⟨rfl, rfl⟩) (fun k z => by omega) (fun k a b z => by have := z.2; omega))⟩
    · rw [b01_f d, if_neg (show ¬ ¬ (0 : Int32) = 0 from fun w => w rfl), if_neg (show ¬ ¬ (0 : Int32) = 0 from fun w => w rfl)]
      exact ⟨0, _, _, rfl, rfl, hT1, hD1, kR_cl⟩
  · rw [b01_f c, if_pos rfl, if_pos rfl]
    exact ⟨0, _, _, rfl, rfl, hT1, hD1, kR_cl⟩
