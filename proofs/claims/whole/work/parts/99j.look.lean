/-! LOOK and FIND -/
/-- a plane that is down: what both know of it -/
theorem down_has {cK : Nat → Nat} {nf nl np nq nb ng p : Nat} {Sc Sm : yS} (hT : ST cK nf nl np nq nb ng Sc Sm) (hD : DY cK nf nl np nq nb ng Sc Sm) (hp : p < np) (h : ¬ Sc.1 (128 + p) 12 = 0) : Sc.1 (128 + p) 12 = 1 ∧ Sc.1 (128 + p) 8 = -1 ∧ ∃ l m M, nn (Sc.1 (128 + p) 9) l ∧ l < nl ∧ nn (Sc.1 (128 + p) 10) m ∧ nn (Sc.1 (64 + l) 2) M ∧ m ≤ M ∧ M ≤ 400 ∧ 10 ≤ M ∧ cK (64 + l) = cK (128 + p) := by
  obtain ⟨i1, i2, i3, i4, i5, i6⟩ := hD.2.2.2.2.2.2.2.2 p hp
  rcases i4 with ⟨_, z⟩ | ⟨z1, z2, ⟨l, m, M, a1, a2, a3, a4, a5⟩, _⟩
  · exact absurd z h
  · obtain ⟨k, hR⟩ := hT.2.1.2.2.2.1 l a2
    obtain ⟨M', m1, m2, m3⟩ := hR.2.2.2.1
    have e := nn_inj m1 a4
    exact ⟨z2.resolve_left h, z1, l, m, M, a1, a2, a3, a4, a5.1, by omega, by omega, a5.2⟩
theorem e_isDown {N np : Nat} {S : yS} {pI : Int32} (h1 : nn (S.1 2 5) np) (np8 : np ≤ 8) (hx : ∀ p, p < np → S.2.1 2 4 p = 1) : (∀ p, nn pI p → p < np → ¬ S.1 (128 + p) 12 = 0 → f_X11_isDown N S pI = some 1) ∧ ((∀ p, nn pI p → p < np → S.1 (128 + p) 12 = 0) → f_X11_isDown N S pI = some 0) := by
  unfold f_X11_isDown f_X11_isDown_0 f_X11_isDown_27 f_X11_isDown_28
  rw [e_isPlane, bV_s, gP_t (show (0 : Int32) = 0 ∨ (0 : Int32) = 1 from Or.inl rfl), gP_t (show (1 : Int32) = 0 ∨ (1 : Int32) = 1 from Or.inr rfl)]
  refine ⟨fun p hp p2 h => ?_, fun h => ?_⟩
  · rw [b01_t (nn_idx' h1 hp p2), if_neg (show ¬ (1 : Int32) = 0 by decide), gR_nn hp (by omega) (hx p p2), if_neg h]
  · by_cases c : 0 ≤ pI ∧ pI ≤ S.1 2 5 - 1
    · obtain ⟨p, hp, p2⟩ := nn_idx h1 c
      rw [b01_t c, if_neg (show ¬ (1 : Int32) = 0 by decide), gR_nn hp (by omega) (hx p p2), if_pos (h p hp p2)]
    · rw [b01_f c, if_pos rfl]
theorem em_isDown {N np : Nat} {Sc S : yS} {pI : Int32} (h1 : nn (Sc.1 2 5) np) (hm : S.1 8 21 = Sc.1 2 5) (np8 : np ≤ 8) (u : ∀ p, p < np → S.2.1 8 48 (19 + 23 * p + 3) = Sc.1 (128 + p) 12) (h01 : ∀ p, p < np → Sc.1 (128 + p) 12 = 0 ∨ Sc.1 (128 + p) 12 = 1) : (∀ p, nn pI p → p < np → ¬ Sc.1 (128 + p) 12 = 0 → f_X12_isDown N S pI = some 1) ∧ ((∀ p, nn pI p → p < np → Sc.1 (128 + p) 12 = 0) → f_X12_isDown N S pI = some 0) := by
  unfold f_X12_isDown f_X12_isDown_0 f_X12_isDown_22 f_X12_isDown_23
  rw [em_isPlane, bV_s, hm, gP_t (show (0 : Int32) = 0 ∨ (0 : Int32) = 1 from Or.inl rfl), gP_t (show (1 : Int32) = 0 ∨ (1 : Int32) = 1 from Or.inr rfl)]
  refine ⟨fun p hp p2 h => ?_, fun h => ?_⟩
  · rw [b01_t (nn_idx' h1 hp p2), if_neg (show ¬ (1 : Int32) = 0 by decide), em_planeR hp (by omega) (nn_l 3 (by decide)) (by decide), bV_s, u p p2, if_neg (fun q => q ((h01 p p2).resolve_left h))]
  · by_cases c : 0 ≤ pI ∧ pI ≤ Sc.1 2 5 - 1
    · obtain ⟨p, hp, p2⟩ := nn_idx h1 c
      rw [b01_t c, if_neg (show ¬ (1 : Int32) = 0 by decide), em_planeR hp (by omega) (nn_l 3 (by decide)) (by decide), bV_s, u p p2, h p hp p2, if_pos (show ¬ (0 : Int32) = 1 by decide)]
    · rw [b01_f c, if_pos rfl]
/-- isDown, both: either a plane that is down, or no -/
theorem down_both {cK : Nat → Nat} {N nf nl np nq nb ng : Nat} {Sc Sm : yS} {pI : Int32} (hT : ST cK nf nl np nq nb ng Sc Sm) (hD : DY cK nf nl np nq nb ng Sc Sm) : (∃ p, nn pI p ∧ p < np ∧ ¬ Sc.1 (128 + p) 12 = 0 ∧ f_X11_isDown N Sc pI = some 1 ∧ f_X12_isDown N Sm pI = some 1) ∨ (f_X11_isDown N Sc pI = some 0 ∧ f_X12_isDown N Sm pI = some 0) := by
  obtain ⟨t1, t2, t3, t4, t5, t6, t7, t8, t9, t10, t11, t12, t13, t14⟩ := id hT
  obtain ⟨a1, a2⟩ := e_isDown (N := N) (pI := pI) t7.1.1 t7.1.2.1 (fun p hp => (t8 p hp).1)
  obtain ⟨b1, b2⟩ := em_isDown (N := N) (S := Sm) (pI := pI) t7.1.1 t7.1.2.2 t7.1.2.1 (fun p hp => hD.2.2.2.2.1 p hp 3 (by decide)) (fun p hp => down01 hD hp)
  by_cases c : ∃ p, nn pI p ∧ p < np ∧ ¬ Sc.1 (128 + p) 12 = 0
  · obtain ⟨p, h1, h2, h3⟩ := c
    exact Or.inl ⟨p, h1, h2, h3, a1 p h1 h2 h3, b1 p h1 h2 h3⟩
  · have h : ∀ p, nn pI p → p < np → Sc.1 (128 + p) 12 = 0 := fun p h1 h2 => Classical.byContradiction fun h3 => c ⟨p, h1, h2, h3⟩
    exact Or.inr ⟨a2 h, b2 h⟩
theorem look_both {cK : Nat → Nat} {N nf nl np nq nb ng : Nat} {Sc Sm : yS} {pI l2 l3 : Int32} (hT : ST cK nf nl np nq nb ng Sc Sm) (hD : DY cK nf nl np nq nb ng Sc Sm) : ∃ v Sc' Sm', f_X11_look N Sc pI l2 l3 = some (v, Sc') ∧ f_X12_look N Sm pI l2 l3 = some (v, Sm') ∧ ST cK nf nl np nq nb ng Sc' Sm' ∧ DY cK nf nl np nq nb ng Sc' Sm' ∧ kR Sc Sm Sc' Sm' := by
  obtain ⟨hT1, hD1⟩ := clear_both hT hD
  obtain ⟨t1, t2, t3, t4, t5, t6, t7, t8, t9, t10, t11, t12, t13, t14⟩ := id hT1
  unfold f_X11_look f_X11_look_0 f_X11_look_19 f_X11_isCell f_X11_isCell_0 f_X11_isCell_45 f_X11_isCell_46 f_X12_look f_X12_look_0 f_X12_look_49
  rw [sq_s, gP_t (show (0 : Int32) = 0 ∨ (0 : Int32) = 1 from Or.inl rfl), gP_t (show (1 : Int32) = 0 ∨ (1 : Int32) = 1 from Or.inr rfl)]
  rcases down_both (N := N) (pI := pI) hT1 hD1 with ⟨p, p1, p2, h12, e1, e2⟩ | ⟨e1, e2⟩
  · obtain ⟨z12, z8, l, m, M, a1, a2, a3, a4, a5, a6, a7, a8⟩ := down_has hT1 hD1 p2 h12
    have p8 : p < 8 := by have := t7.1.2.1; omega
    have l12 : l < 12 := by have := t2.2.1; omega
    obtain ⟨kk, hR⟩ := t2.2.2.2.1 l a2
    have u : ∀ j q, j < 12 → pS j = q → (yI Sm 8 47 0).2.1 8 48 (19 + 23 * p + j) = Sc.1 (128 + p) q := fun j q hj hk => by rw [← hk]; exact hD1.2.2.2.2.1 p p2 j hj
    have r7 : (yI Sm 8 47 0).2.1 8 4 l = Sc.1 (64 + l) 2 := hR.2.2.2.2.2.2.1
    rw [e1, bV_s, e2, bV_s, if_neg (show ¬ (1 : Int32) = 0 by decide), if_neg (show ¬ (1 : Int32) = 0 by decide), gR_nn p1 p8 (t8 p p2).1, gR_nn a1 l12 hR.1]
    unfold f_X3_cellCount f_X3_cellCount_0 f_X12_cells f_X12_cells_0
    rw [bV_s, em_planeR p1 p8 (nn_l 1 (by decide)) (by decide), bV_s, u 1 9 (by decide) rfl, gA_nn a1 l12, r7, bV_s, e_within, bV_s, e_in, bV_s]
    by_cases c : 0 ≤ l2 ∧ l2 ≤ Sc.1 (64 + l) 2 / 10 + 1 - 1
    · rw [b01_t c, if_neg (show ¬ (1 : Int32) = 0 by decide), if_neg (show ¬ (1 : Int32) = 0 by decide), bV_s, if_neg (show ¬ (1 : Int32) = 0 by decide), e_within, bV_s, e_in, bV_s]
      by_cases d : 1 ≤ l3 ∧ l3 ≤ 99
      · obtain ⟨i1, i2, i3, i4, i5, i6⟩ := hD1.2.2.2.2.2.2.2.2 p p2
        obtain ⟨n, n1, n2, n3, n4⟩ := i6 z12
        rw [b01_t d, if_pos (show ¬ (1 : Int32) = 0 by decide), if_neg (show ¬ (1 : Int32) = 0 by decide), gR_nn p1 p8 (t8 p p2).1, em_planeR p1 p8 (nn_l 14 (by decide)) (by decide), bV_s, n3, bV_s]
        by_cases y : n = 4
        · subst y
          rw [if_neg (fun q => by have := (nn_lt n1 (nn_l 4 (by decide))).mp q; omega), if_neg (fun q => q ((nn_eq n1 (nn_l 4 (by decide))).mpr rfl))]
          exact ⟨-1, _, _, rfl, rfl, hT1, hD1, kR_cl⟩
        · have n2l := nn_mul (nn_l 2 (by decide)) n1 (by omega)
          rw [if_pos ((nn_lt n1 (nn_l 4 (by decide))).mpr (by omega)), if_pos (fun q => y ((nn_eq n1 (nn_l 4 (by decide))).mp q)), em_planeW p1 p8 (nn_add (nn_l 15 (by decide)) n2l (by omega)) (by omega), bS_s, em_planeW p1 p8 (nn_add (nn_add (nn_l 15 (by decide)) n2l (by omega)) (nn_l 1 (by decide)) (by omega)) (by omega), bS_s, em_planeW p1 p8 (nn_l 14 (by decide)) (by decide), bS_s]
          unfold f_X6_addLook f_X6_addLook_0
          rw [gA_nn n2l (by omega), sq_s, yA_1, gA_nn (nn_add n2l (nn_l 1 (by decide)) (by omega)) (by omega), sq_s, yA_1, yA_1, sq_s, yI_1s, bS_s]
          simp only [yA_yA, yA_same]
          have nn1 := nn_add n1 (nn_l 1 (by decide)) (by omega)
          generalize hX : Sc.1 (128 + p) 18 + 1 = nx at nn1
          generalize hC : yI (yA Sc (128 + p) 19 (upd (upd (Sc.2.1 (128 + p) 19) (2 * n) l2) (2 * n + 1) l3)) (128 + p) 18 nx = SC
          generalize hW : upd (upd (upd ((yI Sm 8 47 0).2.1 8 48) (19 + 23 * p + (15 + 2 * n)) l2) (19 + 23 * p + (15 + 2 * n + 1)) l3) (19 + 23 * p + 14) nx = W
          have cI : ∀ o k, (o ≠ 128 + p ∨ k ≠ 18) → SC.1 o k = Sc.1 o k := fun o k h => by rw [← hC, yI_1n _ _ (by omega), yA_1]
          have cA : ∀ o k, (o ≠ 128 + p ∨ k ≠ 19) → SC.2.1 o k = Sc.2.1 o k := fun o k h => by rw [← hC, yI_2]; exact yA_2n _ _ (by omega)
          have cw : ∀ i, i ≠ 19 + 23 * p + (15 + 2 * n) → i ≠ 19 + 23 * p + (15 + 2 * n + 1) → i ≠ 19 + 23 * p + 14 → W i = (yI Sm 8 47 0).2.1 8 48 i := fun i h1 h2 h3 => by rw [← hW, upd_o _ _ h3, upd_o _ _ h2, upd_o _ _ h1]
          have F1 : FR (fun o k => o = 128 + p ∧ (k = 18 ∨ k = 19)) Sc SC := by
            rw [← hC]
            exact FR_trans (FR_A _ _ _ _ ⟨rfl, Or.inr rfl⟩) (FR_I _ _ _ _ ⟨rfl, Or.inl rfl⟩)
          obtain ⟨d1, d2, d3, ⟨kw, d4⟩, d5, d6, d7, d8, d9⟩ := id hD1
          refine ⟨nx, SC, yA (yI Sm 8 47 0) 8 48 W, rfl, rfl, ?_, ?_, kR_trans kR_cl (kR_FR (pm := fun o k => o = 8 ∧ k = 48) F1 (FR_A _ _ _ _ ⟨rfl, rfl⟩) (fun k z => by have := z.1; omega) (fun k a b z => by have := z.2; omega))⟩
          · exact ST_FW hT1 (FR_mono F1 (fun o k z => by unfold pQW; omega)) (FR_A _ _ _ _ (Or.inl ⟨rfl, Or.inr (Or.inl rfl)⟩)) (fun i h1 h2 => by rw [yA_same]; exact cw i (by omega) (by omega) (by omega))
          · refine DY_one (p := p) hD1 ?_ ?_ ?_ ⟨kw, ?_⟩ ?_ ?_ ?_ ?_ ?_ ?_ ?_ ?_ ?_
            · rw [yA_same, cw 0 (by omega) (by omega) (by omega), cI 2 13 (by omega)]; exact d1
            · rw [yA_same, cw 1 (by omega) (by omega) (by omega), cI 2 14 (by omega)]; exact d2
            · rw [cI 2 13 (by omega)]; exact d3
            · exact RWk_congr d4 (cI 3 0 (by omega)) (cI 3 1 (by omega)) rfl (funext fun k => cA 3 k (by omega)) (by rw [yA_same]; exact cw 2 (by omega) (by omega) (by omega)) (fun i h1 h2 => by rw [yA_same]; exact cw i (by omega) (by omega) (by omega))
            · intro p' hp' hne
              have : p' < 8 := by have := t7.1.2.1; omega
              exact ⟨fun k => cI _ k (by omega), cA _ 19 (by omega)⟩
            · intro p' hp' hne j hj
              rw [yA_same]
              exact cw _ (by omega) (by omega) (by omega)
            · intro j hj
              rw [yA_same, cw _ (by omega) (by omega) (by omega), cI (128 + p) (pS j) (by
                rcases (show j = 0 ∨ j = 1 ∨ j = 2 ∨ j = 3 ∨ j = 4 ∨ j = 5 ∨ j = 6 ∨ j = 7 ∨ j = 8 ∨ j = 9 ∨ j = 10 ∨ j = 11 by omega) with rfl | rfl | rfl | rfl | rfl | rfl | rfl | rfl | rfl | rfl | rfl | rfl <;> exact Or.inr (by decide))]
              exact d5 p p2 j hj
            · refine ⟨by rw [cI _ 13 (by omega)]; exact i1, by rw [cI _ 7 (by omega)]; exact i2, by rw [cI _ 11 (by omega)]; exact i3, ?_, fun z => ?_, fun _ => ⟨n + 1, ?_, ⟨by omega, fun j hj => ?_⟩, ?_, fun j hj => ?_⟩⟩
              · rcases i4 with ⟨⟨f, f1, _⟩, _⟩ | ⟨_, _, ⟨l', m', M', b1, b2, b3, b4, b5⟩, ⟨q, q1, q2⟩, g, g1, g2, g3, g4, g5, g6, g7⟩
                · exact absurd f1.nneg (by rw [z8]; decide)
                · have l12' : l' < 12 := by have := t2.2.1; omega
                  have g24 : g < 24 := by have := t7.2.2.2.2.1; omega
                  refine Or.inr ⟨by rw [cI _ 8 (by omega)]; exact z8, Or.inr (by rw [cI _ 12 (by omega)]; exact z12), ⟨l', m', M', by rw [cI _ 9 (by omega)]; exact b1, b2, by rw [cI _ 10 (by omega)]; exact b3, by rw [cI _ 2 (by omega)]; exact b4, b5⟩, ⟨q, by rw [cI _ 16 (by omega)]; exact q1, q2⟩, g, by rw [cI _ 17 (by omega)]; exact g1, g2, by rw [cI _ 4 (by omega)]; exact g3, ?_, ?_, by rw [cI _ 1 (by omega), cI _ 16 (by omega)]; exact g6, by rw [cI _ 2 (by omega), cI _ 9 (by omega)]; exact g7⟩
                  · rw [yA_same, cw _ (by omega) (by omega) (by omega), cI _ 17 (by omega)]; exact g4
                  · rw [yA_same, cw _ (by omega) (by omega) (by omega), cI _ 7 (by omega)]; exact g5
              · rw [cI _ 12 (by omega), z12] at z
                exact absurd z (by decide)
              · rw [← hC, yI_1s]; exact nn1
              · rw [← hC, yI_2, yA_same]
                by_cases e3 : j = n
                · have d3 := nn_of (Int32.le_trans (by decide) d.1)
                  exact ⟨_, by rw [e3, upd_s]; exact d3, (nn_le (nn_l 1 (by decide)) d3).mp d.1, (nn_le d3 (nn_l 99 (by decide))).mp d.2⟩
                · rw [upd_o _ _ (show 2 * j + 1 ≠ 2 * n + 1 by omega), upd_o _ _ (show 2 * j + 1 ≠ 2 * n by omega)]
                  exact n2.2 j (by omega)
              · rw [yA_same, ← hW, upd_s, ← hC, yI_1s]
              · rw [yA_same, ← hW, ← hC, yI_2, yI_2, yA_same, upd_o _ _ (by omega)]
                by_cases e3 : j = 2 * n + 1
                · rw [show 19 + 23 * p + 15 + j = 19 + 23 * p + (15 + 2 * n + 1) by omega, upd_s, e3, upd_s]
                · rw [upd_o _ _ (show 19 + 23 * p + 15 + j ≠ 19 + 23 * p + (15 + 2 * n + 1) by omega), upd_o _ _ e3]
                  by_cases e4 : j = 2 * n
                  · rw [show 19 + 23 * p + 15 + j = 19 + 23 * p + (15 + 2 * n) by omega, upd_s, e4, upd_s]
                  · rw [upd_o _ _ (show 19 + 23 * p + 15 + j ≠ 19 + 23 * p + (15 + 2 * n) by omega), upd_o _ _ e4]
                    exact n4 j (by omega)
            · intro q' hq' j hj
              have : q' < 8 := by have := t7.2.1.2.1; omega
              rw [yA_same, cw _ (by omega) (by omega) (by omega), cI _ _ (by omega)]; exact d6 q' hq' j hj
            · exact RBd_fr d7 t7.2.2.1.2.1 (fun b hb k => ⟨cI _ k (by omega), cA _ k (by omega)⟩) (fun i h1 h2 => by rw [yA_same]; exact cw i (by omega) (by omega) (by omega))
            · intro g' hg' j hj
              rw [yA_same, cw _ (by omega) (by omega) (by omega), cI _ _ (by omega)]; exact d8 g' hg' j hj
            · intro l' hl'
              have := t2.2.1
              exact cI _ 2 (by omega)
            · intro g' hg' hne
              rw [cI _ 7 (by omega), cI _ 4 (by omega), cI _ 1 (by omega), cI _ 2 (by omega)]
              exact ⟨rfl, hne, rfl, rfl⟩
      · rw [b01_f d, if_neg (show ¬ ¬ (0 : Int32) = 0 from fun w => w rfl), if_pos rfl]
        exact ⟨-1, _, _, rfl, rfl, hT1, hD1, kR_cl⟩
    · rw [b01_f c, if_pos rfl, if_pos rfl, bV_s, if_pos rfl]
      exact ⟨-1, _, _, rfl, rfl, hT1, hD1, kR_cl⟩
  · rw [e1, bV_s, e2, bV_s, if_pos rfl, if_pos rfl, bV_s, if_pos rfl]
    exact ⟨-1, _, _, rfl, rfl, hT1, hD1, kR_cl⟩
