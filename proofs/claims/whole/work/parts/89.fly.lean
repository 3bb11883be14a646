theorem sCl_cg {S S' : yS} (h : S'.2.1 1 = S.2.1 1) (k : Nat) (l q : Int32) : sCl S' k l q = sCl S k l q ∧ sWi S' k l q = sWi S k l q := by
  unfold sCl sWi sTl
  rw [h]
  exact ⟨rfl, rfl⟩
theorem fly_both {N nf nl np nq nb ng p : Nat} {Sc Sm : yS} {pI : Int32} (hT : ST nf nl np nq nb ng Sc Sm) (hD : DY nf nl np nq nb ng Sc Sm) (hN : 120 < N) (hp : p < np) (hpI : nn pI p) (hal : Sc.1 (128 + p) 8 = -1) (hdn : Sc.1 (128 + p) 12 = 0) : ∃ Sc' Sm', f_X10_fly N Sc pI = some (0, Sc') ∧ f_X12_fly N Sm pI = some (0, Sm') ∧ DY nf nl np nq nb ng Sc' Sm' ∧ QF Sc Sm Sc' Sm' := by
  have hT0 := hT
  have hD0 := hD
  obtain ⟨d1, d2, d3, d4, d5, d6, d7, d8, d9⟩ := hD
  obtain ⟨t1, t2, t3, ⟨kt, hRT, hWd⟩, t5, t6, t7, t8, t9, t10, t11, t12, t13, t14⟩ := hT
  have np8 : p < 8 := by have := t7.1.2.1; omega
  have nl12 : nl ≤ 12 := t2.2.1
  have hPI := d9 p hp
  obtain ⟨i1, ⟨fa, fa1, fa2⟩, i3, i4, i5, i6⟩ := d9 p hp
  rcases i4 with ⟨⟨f, z1, _⟩, _⟩ | ⟨_, i7, ⟨l, m, M, a1, a2, a3, a4, a5⟩, ⟨q, b1, b2⟩, g, g1, g2, g3, g4, g5, g6, g7⟩
  · exact absurd z1.nneg (by rw [hal]; decide)
  have l12 : l < 12 := by omega
  have q8 : q < 8 := by have := t7.2.1.2.1; omega
  have g24 : g < 24 := by have := t7.2.2.2.2.1; omega
  have eF : Sc.2.1 2 11 g = 1 := (t11 g g2).1
  obtain ⟨kk, r1, _⟩ := t2.2.2.2.1 l a2
  have x1 := (t8 p hp).1
  have u : ∀ j kk, j < 12 → pS j = kk → Sm.2.1 8 48 (19 + 23 * p + j) = Sc.1 (128 + p) kk := fun j kk hj hk => by rw [← hk]; exact d5 p hp j hj
  -- the counters
  have Q1 : QF Sc Sm (yI Sc (128 + p) 5 (Sc.1 (128 + p) 5 + 1)) (yA Sm 8 48 (upd (Sm.2.1 8 48) (19 + 23 * p + 5) (Sc.1 (128 + p) 5 + 1))) := ⟨FR_I _ _ _ _ (by unfold pQC; omega), FR_A _ _ _ _ ⟨rfl, Or.inr (Or.inl rfl)⟩, fun i a b => by rw [yA_same, upd_o _ _ (by omega)]⟩
  have D1 := DY_pl (j := 5) (v := Sc.1 (128 + p) 5 + 1) hD0 t7 nl12 hp (by decide) (PI_up hPI (Or.inl rfl) np8 (by decide) nl12)
  have T1 := ST_QF hT0 Q1
  have PI1 := D1.2.2.2.2.2.2.2.2 p hp
  have Q2 : QF (yI Sc (128 + p) 5 (Sc.1 (128 + p) 5 + 1)) (yA Sm 8 48 (upd (Sm.2.1 8 48) (19 + 23 * p + 5) (Sc.1 (128 + p) 5 + 1))) (yI (yI Sc (128 + p) 5 (Sc.1 (128 + p) 5 + 1)) (128 + p) 15 (Sc.1 (128 + p) 15 - 1)) (yA (yA Sm 8 48 (upd (Sm.2.1 8 48) (19 + 23 * p + 5) (Sc.1 (128 + p) 5 + 1))) 8 48 (upd ((yA Sm 8 48 (upd (Sm.2.1 8 48) (19 + 23 * p + 5) (Sc.1 (128 + p) 5 + 1))).2.1 8 48) (19 + 23 * p + 8) (Sc.1 (128 + p) 15 - 1))) := ⟨FR_I _ _ _ _ (by unfold pQC; omega), FR_A _ _ _ _ ⟨rfl, Or.inr (Or.inl rfl)⟩, fun i a b => by rw [yA_same, upd_o _ _ (by omega)]⟩
  have D2 := DY_pl (j := 8) (v := Sc.1 (128 + p) 15 - 1) D1 T1.2.2.2.2.2.2.1 nl12 hp (by decide) (PI_up PI1 (Or.inr (Or.inr (Or.inr rfl))) np8 (by decide) nl12)
  have T2 := ST_QF T1 Q2
  have D3 := DY_any (o := 256 + q) (k := 2) (i := 203 + 4 * q + 2) (v := Sc.1 (256 + q) 2 + 1) D2 T2.2.2.2.2.2.2.1 nl12 (Or.inr (Or.inl ⟨q, b2, rfl, by decide, rfl⟩))
  have Q3 : QF (yI (yI Sc (128 + p) 5 (Sc.1 (128 + p) 5 + 1)) (128 + p) 15 (Sc.1 (128 + p) 15 - 1)) _ _ _ := ⟨FR_I (p := pQC) _ (256 + q) 2 (Sc.1 (256 + q) 2 + 1) (by unfold pQC; omega), FR_A (p := pQM) (yA (yA Sm 8 48 (upd (Sm.2.1 8 48) (19 + 23 * p + 5) (Sc.1 (128 + p) 5 + 1))) 8 48 (upd ((yA Sm 8 48 (upd (Sm.2.1 8 48) (19 + 23 * p + 5) (Sc.1 (128 + p) 5 + 1))).2.1 8 48) (19 + 23 * p + 8) (Sc.1 (128 + p) 15 - 1))) 8 48 (upd ((yA (yA Sm 8 48 (upd (Sm.2.1 8 48) (19 + 23 * p + 5) (Sc.1 (128 + p) 5 + 1))) 8 48 (upd ((yA Sm 8 48 (upd (Sm.2.1 8 48) (19 + 23 * p + 5) (Sc.1 (128 + p) 5 + 1))).2.1 8 48) (19 + 23 * p + 8) (Sc.1 (128 + p) 15 - 1))).2.1 8 48) (203 + 4 * q + 2) (Sc.1 (256 + q) 2 + 1)) ⟨rfl, Or.inr (Or.inl rfl)⟩, fun i a b => by rw [yA_same, upd_o _ _ (by omega)]⟩
  have T3 := ST_QF T2 Q3
  have D4 := DY_any (o := 2) (k := 14) (i := 1) (v := Sc.1 2 14 + Sc.1 2 16) D3 T3.2.2.2.2.2.2.1 nl12 (Or.inl ⟨rfl, rfl, rfl⟩)
  have Q4 : QF Sc Sm (yI (yI (yI (yI Sc (128 + p) 5 (Sc.1 (128 + p) 5 + 1)) (128 + p) 15 (Sc.1 (128 + p) 15 - 1)) (256 + q) 2 (Sc.1 (256 + q) 2 + 1)) 2 14 (Sc.1 2 14 + Sc.1 2 16)) (yA Sm 8 48 (upd (upd (upd (upd (Sm.2.1 8 48) (19 + 23 * p + 5) (Sc.1 (128 + p) 5 + 1)) (19 + 23 * p + 8) (Sc.1 (128 + p) 15 - 1)) (203 + 4 * q + 2) (Sc.1 (256 + q) 2 + 1)) 1 (Sc.1 2 14 + Sc.1 2 16))) := by
    refine ⟨FR_trans Q1.1 (FR_trans Q2.1 (FR_trans Q3.1 (FR_I _ _ _ _ (by unfold pQC; omega)))), FR_A _ _ _ _ ⟨rfl, Or.inr (Or.inl rfl)⟩, fun i a b => ?_⟩
    rw [yA_same, upd_o _ _ (by omega), upd_o _ _ (by omega), upd_o _ _ (by omega), upd_o _ _ (by omega)]
  simp only [yA_yA, yA_same] at D4
  have T4 := ST_QF hT0 Q4
  -- both after the counters
  have ec : f_X10_fly N Sc pI = (if Sc.1 (128 + p) 7 = 0 then f_X10_fly_104 N (yI (yI (yI (yI Sc (128 + p) 5 (Sc.1 (128 + p) 5 + 1)) (128 + p) 15 (Sc.1 (128 + p) 15 - 1)) (256 + q) 2 (Sc.1 (256 + q) 2 + 1)) 2 14 (Sc.1 2 14 + Sc.1 2 16)) pI (128 + p) (512 + g) (64 + l) (256 + q) else if Sc.1 (128 + p) 5 + 1 = Sc.1 (128 + p) 7 then f_X10_fly_111 N (yI (yI (yI (yI Sc (128 + p) 5 (Sc.1 (128 + p) 5 + 1)) (128 + p) 15 (Sc.1 (128 + p) 15 - 1)) (256 + q) 2 (Sc.1 (256 + q) 2 + 1)) 2 14 (Sc.1 2 14 + Sc.1 2 16)) (128 + p) else f_X10_fly_104 N (yI (yI (yI (yI Sc (128 + p) 5 (Sc.1 (128 + p) 5 + 1)) (128 + p) 15 (Sc.1 (128 + p) 15 - 1)) (256 + q) 2 (Sc.1 (256 + q) 2 + 1)) 2 14 (Sc.1 2 14 + Sc.1 2 16)) pI (128 + p) (512 + g) (64 + l) (256 + q)) := by
    unfold f_X10_fly f_X10_fly_0
    rw [gR_nn hpI np8 x1, gR_nn g1 g24 eF, gR_nn a1 l12 r1, gR_nn b1 q8 (t9 q b2), sq_s, sq_s, sq_s, sq_s]
    have v1 : (yI Sc (128 + p) 5 (Sc.1 (128 + p) 5 + 1)).1 (256 + q) 2 = Sc.1 (256 + q) 2 := yI_1n _ _ (by omega)
    rw [v1]
    have v2 : (yI (yI Sc (128 + p) 5 (Sc.1 (128 + p) 5 + 1)) (256 + q) 2 (Sc.1 (256 + q) 2 + 1)).1 (128 + p) 15 = Sc.1 (128 + p) 15 := by rw [yI_1n _ _ (by omega), yI_1n _ _ (by omega)]
    rw [v2, yI_cm _ _ _ (show ¬ (256 + q = 128 + p ∧ 2 = 15) by omega)]
    have v3 : ∀ k, k ≠ 2 → (yI (yI (yI Sc (128 + p) 5 (Sc.1 (128 + p) 5 + 1)) (128 + p) 15 (Sc.1 (128 + p) 15 - 1)) (256 + q) 2 (Sc.1 (256 + q) 2 + 1)).1 2 k = Sc.1 2 k := fun k hk => by rw [yI_1n _ _ (by omega), yI_1n _ _ (by omega), yI_1n _ _ (by omega)]
    rw [v3 14 (by decide), v3 16 (by decide)]
    have v4 : (yI (yI (yI (yI Sc (128 + p) 5 (Sc.1 (128 + p) 5 + 1)) (128 + p) 15 (Sc.1 (128 + p) 15 - 1)) (256 + q) 2 (Sc.1 (256 + q) 2 + 1)) 2 14 (Sc.1 2 14 + Sc.1 2 16)).1 (128 + p) 7 = Sc.1 (128 + p) 7 := by rw [yI_1n _ _ (by omega), yI_1n _ _ (by omega), yI_1n _ _ (by omega), yI_1n _ _ (by omega)]
    have v5 : (yI (yI (yI (yI Sc (128 + p) 5 (Sc.1 (128 + p) 5 + 1)) (128 + p) 15 (Sc.1 (128 + p) 15 - 1)) (256 + q) 2 (Sc.1 (256 + q) 2 + 1)) 2 14 (Sc.1 2 14 + Sc.1 2 16)).1 (128 + p) 5 = Sc.1 (128 + p) 5 + 1 := by rw [yI_1n _ _ (by omega), yI_1n _ _ (by omega), yI_1n _ _ (by omega), yI_1s]
    rw [v4, v5]
  have em : f_X12_fly N Sm pI = (if Sc.1 (128 + p) 7 = 0 then f_X12_fly_98 N (yA Sm 8 48 (upd (upd (upd (upd (Sm.2.1 8 48) (19 + 23 * p + 5) (Sc.1 (128 + p) 5 + 1)) (19 + 23 * p + 8) (Sc.1 (128 + p) 15 - 1)) (203 + 4 * q + 2) (Sc.1 (256 + q) 2 + 1)) 1 (Sc.1 2 14 + Sc.1 2 16))) pI (Sc.1 (128 + p) 9) (Sc.1 (128 + p) 16) else if Sc.1 (128 + p) 5 + 1 = Sc.1 (128 + p) 7 then f_X12_fly_108 N (yA Sm 8 48 (upd (upd (upd (upd (Sm.2.1 8 48) (19 + 23 * p + 5) (Sc.1 (128 + p) 5 + 1)) (19 + 23 * p + 8) (Sc.1 (128 + p) 15 - 1)) (203 + 4 * q + 2) (Sc.1 (256 + q) 2 + 1)) 1 (Sc.1 2 14 + Sc.1 2 16))) pI else f_X12_fly_98 N (yA Sm 8 48 (upd (upd (upd (upd (Sm.2.1 8 48) (19 + 23 * p + 5) (Sc.1 (128 + p) 5 + 1)) (19 + 23 * p + 8) (Sc.1 (128 + p) 15 - 1)) (203 + 4 * q + 2) (Sc.1 (256 + q) 2 + 1)) 1 (Sc.1 2 14 + Sc.1 2 16))) pI (Sc.1 (128 + p) 9) (Sc.1 (128 + p) 16)) := by
    unfold f_X12_fly f_X12_fly_0
    rw [em_planeR hpI np8 (nn_l 1 (by decide)) (by decide), bV_s, em_planeR hpI np8 (nn_l 11 (by decide)) (by decide), bV_s, em_planeR hpI np8 (nn_l 5 (by decide)) (by decide), bV_s, u 1 9 (by decide) rfl, u 11 16 (by decide) rfl, u 5 5 (by decide) rfl, em_planeW hpI np8 (nn_l 5 (by decide)) (by decide), bS_s, em_planeR hpI np8 (nn_l 8 (by decide)) (by decide), bV_s, yA_same, upd_o _ _ (by omega), u 8 15 (by decide) rfl, em_planeW hpI np8 (nn_l 8 (by decide)) (by decide), bS_s]
    simp only [yA_yA, yA_same]
    rw [em_pilR b1 q8 (nn_l 2 (by decide)) (by decide), bV_s, yA_same, upd_o _ _ (by omega), upd_o _ _ (by omega), d6 q b2 2 (by decide), em_setPilot b1 (nn_l 2 (by decide)) q8 (by decide), bS_s]
    simp only [yA_yA, yA_same]
    rw [gA_nn (nn_l 1 (by decide)) (by decide), gA_nn (nn_l 1 (by decide)) (by decide), upd_o _ _ (by omega), upd_o _ _ (by omega), upd_o _ _ (by omega), d2, yA_1, t6.2.2, sq_s, em_planeR hpI np8 (nn_l 7 (by decide)) (by decide), bV_s, yA_same, upd_o _ _ (by omega), upd_o _ _ (by omega), upd_o _ _ (by omega), upd_o _ _ (by omega), u 7 7 (by decide) rfl]
    by_cases z : Sc.1 (128 + p) 7 = 0
    · rw [if_pos z, if_pos (by rw [z]; decide)]
    · rw [if_neg z, if_neg (fun y => z ((nn_eq fa1 (nn_l 0 (by decide))).mpr (by have := (nn_le fa1 (nn_l 0 (by decide))).mp y; omega))), em_planeR hpI np8 (nn_l 5 (by decide)) (by decide), bV_s, yA_same, upd_o _ _ (show 19 + 23 * p + 5 ≠ 1 by omega), upd_o _ _ (show 19 + 23 * p + 5 ≠ 203 + 4 * q + 2 by omega), upd_o _ _ (show 19 + 23 * p + 5 ≠ 19 + 23 * p + 8 by omega), upd_s, em_planeR hpI np8 (nn_l 7 (by decide)) (by decide), bV_s, yA_same, upd_o _ _ (by omega), upd_o _ _ (by omega), upd_o _ _ (by omega), upd_o _ _ (by omega), u 7 7 (by decide) rfl]
  have cQ : ∀ k, k ≠ 5 → k ≠ 15 → (yI (yI (yI (yI Sc (128 + p) 5 (Sc.1 (128 + p) 5 + 1)) (128 + p) 15 (Sc.1 (128 + p) 15 - 1)) (256 + q) 2 (Sc.1 (256 + q) 2 + 1)) 2 14 (Sc.1 2 14 + Sc.1 2 16)).1 (128 + p) k = Sc.1 (128 + p) k := fun k z y => by rw [yI_1n _ _ (by omega), yI_1n _ _ (by omega), yI_1n _ _ (by omega), yI_1n _ _ (by omega)]
  have cG : ∀ k, (yI (yI (yI (yI Sc (128 + p) 5 (Sc.1 (128 + p) 5 + 1)) (128 + p) 15 (Sc.1 (128 + p) 15 - 1)) (256 + q) 2 (Sc.1 (256 + q) 2 + 1)) 2 14 (Sc.1 2 14 + Sc.1 2 16)).1 (512 + g) k = Sc.1 (512 + g) k := fun k => by rw [yI_1n _ _ (by omega), yI_1n _ _ (by omega), yI_1n _ _ (by omega), yI_1n _ _ (by omega)]
  have c13 : (yI (yI (yI (yI Sc (128 + p) 5 (Sc.1 (128 + p) 5 + 1)) (128 + p) 15 (Sc.1 (128 + p) 15 - 1)) (256 + q) 2 (Sc.1 (256 + q) 2 + 1)) 2 14 (Sc.1 2 14 + Sc.1 2 16)).1 2 13 = Sc.1 2 13 := by rw [yI_1n _ _ (by omega), yI_1n _ _ (by omega), yI_1n _ _ (by omega), yI_1n _ _ (by omega)]
  have cT : (yI (yI (yI (yI Sc (128 + p) 5 (Sc.1 (128 + p) 5 + 1)) (128 + p) 15 (Sc.1 (128 + p) 15 - 1)) (256 + q) 2 (Sc.1 (256 + q) 2 + 1)) 2 14 (Sc.1 2 14 + Sc.1 2 16)).1 (128 + p) 15 = Sc.1 (128 + p) 15 - 1 := by rw [yI_1n _ _ (by omega), yI_1n _ _ (by omega), yI_1s]
  have w12 : (yA Sm 8 48 (upd (upd (upd (upd (Sm.2.1 8 48) (19 + 23 * p + 5) (Sc.1 (128 + p) 5 + 1)) (19 + 23 * p + 8) (Sc.1 (128 + p) 15 - 1)) (203 + 4 * q + 2) (Sc.1 (256 + q) 2 + 1)) 1 (Sc.1 2 14 + Sc.1 2 16))).2.1 8 48 (19 + 23 * p + 12) = Sc.1 (128 + p) 17 := by rw [yA_same, upd_o _ _ (by omega), upd_o _ _ (by omega), upd_o _ _ (by omega), upd_o _ _ (by omega), g4]
  have w8 : (yA Sm 8 48 (upd (upd (upd (upd (Sm.2.1 8 48) (19 + 23 * p + 5) (Sc.1 (128 + p) 5 + 1)) (19 + 23 * p + 8) (Sc.1 (128 + p) 15 - 1)) (203 + 4 * q + 2) (Sc.1 (256 + q) 2 + 1)) 1 (Sc.1 2 14 + Sc.1 2 16))).2.1 8 48 (19 + 23 * p + 8) = Sc.1 (128 + p) 15 - 1 := by rw [yA_same, upd_o _ _ (by omega), upd_o _ _ (by omega), upd_s]
  have w10 : (yA Sm 8 48 (upd (upd (upd (upd (Sm.2.1 8 48) (19 + 23 * p + 5) (Sc.1 (128 + p) 5 + 1)) (19 + 23 * p + 8) (Sc.1 (128 + p) 15 - 1)) (203 + 4 * q + 2) (Sc.1 (256 + q) 2 + 1)) 1 (Sc.1 2 14 + Sc.1 2 16))).2.1 8 48 (19 + 23 * p + 10) = Sc.1 (128 + p) 11 := by rw [yA_same, upd_o _ _ (by omega), upd_o _ _ (by omega), upd_o _ _ (by omega), upd_o _ _ (by omega), u 10 11 (by decide) rfl]
  have cA : (yI (yI (yI (yI Sc (128 + p) 5 (Sc.1 (128 + p) 5 + 1)) (128 + p) 15 (Sc.1 (128 + p) 15 - 1)) (256 + q) 2 (Sc.1 (256 + q) 2 + 1)) 2 14 (Sc.1 2 14 + Sc.1 2 16)).2.1 = Sc.2.1 := rfl
  rw [ec, em]
  generalize yI (yI (yI (yI Sc (128 + p) 5 (Sc.1 (128 + p) 5 + 1)) (128 + p) 15 (Sc.1 (128 + p) 15 - 1)) (256 + q) 2 (Sc.1 (256 + q) 2 + 1)) 2 14 (Sc.1 2 14 + Sc.1 2 16) = C at *
  generalize yA Sm 8 48 (upd (upd (upd (upd (Sm.2.1 8 48) (19 + 23 * p + 5) (Sc.1 (128 + p) 5 + 1)) (19 + 23 * p + 8) (Sc.1 (128 + p) 15 - 1)) (203 + 4 * q + 2) (Sc.1 (256 + q) 2 + 1)) 1 (Sc.1 2 14 + Sc.1 2 16)) = W at *
  sorry
