theorem sCl_cg {S S' : yS} (h : S'.2.1 1 = S.2.1 1) (k : Nat) (l q : Int32) : sCl S' k l q = sCl S k l q ∧ sWi S' k l q = sWi S k l q := by
  unfold sCl sWi sTl
  rw [h]
  exact ⟨rfl, rfl⟩
theorem fly_both {cK : Nat → Nat} {N nf nl np nq nb ng p : Nat} {Sc Sm : yS} {pI : Int32} (hT : ST cK nf nl np nq nb ng Sc Sm) (hD : DY cK nf nl np nq nb ng Sc Sm) (hN : 120 < N) (hp : p < np) (hpI : nn pI p) (hal : Sc.1 (128 + p) 8 = -1) (hdn : Sc.1 (128 + p) 12 = 0) : ∃ Sc' Sm', f_X10_fly N Sc pI = some (0, Sc') ∧ f_X12_fly N Sm pI = some (0, Sm') ∧ DY cK nf nl np nq nb ng Sc' Sm' ∧ QF cK Sc Sm Sc' Sm' := by
  have hT0 := hT
  have hD0 := hD
  obtain ⟨d1, d2, d3, d4, d5, d6, d7, d8, d9⟩ := hD
  obtain ⟨t1, t2, t3, ⟨kt, hRT, hWd⟩, t5, t6, t7, t8, t9, t10, t11, t12, t13, t14⟩ := hT
  have np8 : p < 8 := by have := t7.1.2.1; omega
  have nl12 : nl ≤ 12 := t2.2.1
  have hPI := d9 p hp
  obtain ⟨i1, ⟨fa, fa1, fa2⟩, i3, i4, i5, i6⟩ := d9 p hp
  rcases i4 with ⟨⟨f, z1, _⟩, _⟩ | ⟨_, i7, ⟨l, m, M, a1, a2, a3, a4, a5⟩, ⟨q, b1, b2⟩, g, g1, g2, g3, g4, g5, g6, g7⟩
  · exact absurd z1.nneg (by rw [hal]; decide)
  have l12 : l < 12 := by omega
  have q8 : q < 8 := by have := t7.2.1.2.1; omega
  have g24 : g < 24 := by have := t7.2.2.2.2.1; omega
  have eF : Sc.2.1 2 11 g = 1 := (t11 g g2).1
  obtain ⟨kk, r1, _⟩ := t2.2.2.2.1 l a2
  have x1 := (t8 p hp).1
  have u : ∀ j kk, j < 12 → pS j = kk → Sm.2.1 8 48 (19 + 23 * p + j) = Sc.1 (128 + p) kk := fun j kk hj hk => by rw [← hk]; exact d5 p hp j hj
  -- the counters
  have Q1 : QF cK Sc Sm (yI Sc (128 + p) 5 (Sc.1 (128 + p) 5 + 1)) (yA Sm 8 48 (upd (Sm.2.1 8 48) (19 + 23 * p + 5) (Sc.1 (128 + p) 5 + 1))) := ⟨FR_I _ _ _ _ (by unfold pQC; omega), FR_A _ _ _ _ ⟨rfl, Or.inr (Or.inl rfl)⟩, fun i a b => by rw [yA_same, upd_o _ _ (by omega)]⟩
  have D1 := DY_pl (j := 5) (v := Sc.1 (128 + p) 5 + 1) hD0 t7 nl12 hp (by decide) (PI_up hPI (Or.inl rfl) np8 (by decide) nl12)
  have T1 := ST_QF hT0 Q1
  have PI1 := D1.2.2.2.2.2.2.2.2 p hp
  have Q2 : QF cK (yI Sc (128 + p) 5 (Sc.1 (128 + p) 5 + 1)) (yA Sm 8 48 (upd (Sm.2.1 8 48) (19 + 23 * p + 5) (Sc.1 (128 + p) 5 + 1))) (yI (yI Sc (128 + p) 5 (Sc.1 (128 + p) 5 + 1)) (128 + p) 15 (Sc.1 (128 + p) 15 - 1)) (yA (yA Sm 8 48 (upd (Sm.2.1 8 48) (19 + 23 * p + 5) (Sc.1 (128 + p) 5 + 1))) 8 48 (upd ((yA Sm 8 48 (upd (Sm.2.1 8 48) (19 + 23 * p + 5) (Sc.1 (128 + p) 5 + 1))).2.1 8 48) (19 + 23 * p + 8) (Sc.1 (128 + p) 15 - 1))) := ⟨FR_I _ _ _ _ (by unfold pQC; omega), FR_A _ _ _ _ ⟨rfl, Or.inr (Or.inl rfl)⟩, fun i a b => by rw [yA_same, upd_o _ _ (by omega)]⟩
  have D2 := DY_pl (j := 8) (v := Sc.1 (128 + p) 15 - 1) D1 T1.2.2.2.2.2.2.1 nl12 hp (by decide) (PI_up PI1 (Or.inr (Or.inr (Or.inr rfl))) np8 (by decide) nl12)
  have T2 := ST_QF T1 Q2
  have D3 := DY_any (o := 256 + q) (k := 2) (i := 203 + 4 * q + 2) (v := Sc.1 (256 + q) 2 + 1) D2 T2.2.2.2.2.2.2.1 nl12 (Or.inr (Or.inl ⟨q, b2, rfl, by decide, rfl⟩))
  have Q3 : QF cK (yI (yI Sc (128 + p) 5 (Sc.1 (128 + p) 5 + 1)) (128 + p) 15 (Sc.1 (128 + p) 15 - 1)) _ _ _ := ⟨FR_I (p := pQC) _ (256 + q) 2 (Sc.1 (256 + q) 2 + 1) (by unfold pQC; omega), FR_A (p := pQM) (yA (yA Sm 8 48 (upd (Sm.2.1 8 48) (19 + 23 * p + 5) (Sc.1 (128 + p) 5 + 1))) 8 48 (upd ((yA Sm 8 48 (upd (Sm.2.1 8 48) (19 + 23 * p + 5) (Sc.1 (128 + p) 5 + 1))).2.1 8 48) (19 + 23 * p + 8) (Sc.1 (128 + p) 15 - 1))) 8 48 (upd ((yA (yA Sm 8 48 (upd (Sm.2.1 8 48) (19 + 23 * p + 5) (Sc.1 (128 + p) 5 + 1))) 8 48 (upd ((yA Sm 8 48 (upd (Sm.2.1 8 48) (19 + 23 * p + 5) (Sc.1 (128 + p) 5 + 1))).2.1 8 48) (19 + 23 * p + 8) (Sc.1 (128 + p) 15 - 1))).2.1 8 48) (203 + 4 * q + 2) (Sc.1 (256 + q) 2 + 1)) ⟨rfl, Or.inr (Or.inl rfl)⟩, fun i a b => by rw [yA_same, upd_o _ _ (by omega)]⟩
  have T3 := ST_QF T2 Q3
  have D4 := DY_any (o := 2) (k := 14) (i := 1) (v := Sc.1 2 14 + Sc.1 2 16) D3 T3.2.2.2.2.2.2.1 nl12 (Or.inl ⟨rfl, rfl, rfl⟩)
  have Q4 : QF cK Sc Sm (yI (yI (yI (yI Sc (128 + p) 5 (Sc.1 (128 + p) 5 + 1)) (128 + p) 15 (Sc.1 (128 + p) 15 - 1)) (256 + q) 2 (Sc.1 (256 + q) 2 + 1)) 2 14 (Sc.1 2 14 + Sc.1 2 16)) (yA Sm 8 48 (upd (upd (upd (upd (Sm.2.1 8 48) (19 + 23 * p + 5) (Sc.1 (128 + p) 5 + 1)) (19 + 23 * p + 8) (Sc.1 (128 + p) 15 - 1)) (203 + 4 * q + 2) (Sc.1 (256 + q) 2 + 1)) 1 (Sc.1 2 14 + Sc.1 2 16))) := by
    refine ⟨FR_trans Q1.1 (FR_trans Q2.1 (FR_trans Q3.1 (FR_I _ _ _ _ (by unfold pQC; omega)))), FR_A _ _ _ _ ⟨rfl, Or.inr (Or.inl rfl)⟩, fun i a b => ?_⟩
    rw [yA_same, upd_o _ _ (by omega), upd_o _ _ (by omega), upd_o _ _ (by omega), upd_o _ _ (by omega)]
  simp only [yA_yA, yA_same] at D4
  rw [show pS 5 = 5 from rfl, show pS 8 = 15 from rfl] at D4
  have T4 := ST_QF hT0 Q4
  -- both after the counters
  have ec : f_X10_fly N Sc pI = (if Sc.1 (128 + p) 7 = 0 then f_X10_fly_104 N (yI (yI (yI (yI Sc (128 + p) 5 (Sc.1 (128 + p) 5 + 1)) (128 + p) 15 (Sc.1 (128 + p) 15 - 1)) (256 + q) 2 (Sc.1 (256 + q) 2 + 1)) 2 14 (Sc.1 2 14 + Sc.1 2 16)) pI (128 + p) (512 + g) (64 + l) (256 + q) else if Sc.1 (128 + p) 5 + 1 = Sc.1 (128 + p) 7 then f_X10_fly_111 N (yI (yI (yI (yI Sc (128 + p) 5 (Sc.1 (128 + p) 5 + 1)) (128 + p) 15 (Sc.1 (128 + p) 15 - 1)) (256 + q) 2 (Sc.1 (256 + q) 2 + 1)) 2 14 (Sc.1 2 14 + Sc.1 2 16)) (128 + p) else f_X10_fly_104 N (yI (yI (yI (yI Sc (128 + p) 5 (Sc.1 (128 + p) 5 + 1)) (128 + p) 15 (Sc.1 (128 + p) 15 - 1)) (256 + q) 2 (Sc.1 (256 + q) 2 + 1)) 2 14 (Sc.1 2 14 + Sc.1 2 16)) pI (128 + p) (512 + g) (64 + l) (256 + q)) := by
    unfold f_X10_fly f_X10_fly_0
    rw [gR_nn hpI np8 x1, gR_nn g1 g24 eF, gR_nn a1 l12 r1, gR_nn b1 q8 (t9 q b2), sq_s, sq_s, sq_s, sq_s]
    have v1 : (yI Sc (128 + p) 5 (Sc.1 (128 + p) 5 + 1)).1 (256 + q) 2 = Sc.1 (256 + q) 2 := yI_1n _ _ (by omega)
    rw [v1]
    have v2 : (yI (yI Sc (128 + p) 5 (Sc.1 (128 + p) 5 + 1)) (256 + q) 2 (Sc.1 (256 + q) 2 + 1)).1 (128 + p) 15 = Sc.1 (128 + p) 15 := by rw [yI_1n _ _ (by omega), yI_1n _ _ (by omega)]
    rw [v2, yI_cm _ _ _ (show ¬ (256 + q = 128 + p ∧ 2 = 15) by omega)]
    have v3 : ∀ k, k ≠ 2 → (yI (yI (yI Sc (128 + p) 5 (Sc.1 (128 + p) 5 + 1)) (128 + p) 15 (Sc.1 (128 + p) 15 - 1)) (256 + q) 2 (Sc.1 (256 + q) 2 + 1)).1 2 k = Sc.1 2 k := fun k hk => by rw [yI_1n _ _ (by omega), yI_1n _ _ (by omega), yI_1n _ _ (by omega)]
    rw [v3 14 (by decide), v3 16 (by decide)]
    have v4 : (yI (yI (yI (yI Sc (128 + p) 5 (Sc.1 (128 + p) 5 + 1)) (128 + p) 15 (Sc.1 (128 + p) 15 - 1)) (256 + q) 2 (Sc.1 (256 + q) 2 + 1)) 2 14 (Sc.1 2 14 + Sc.1 2 16)).1 (128 + p) 7 = Sc.1 (128 + p) 7 := by rw [yI_1n _ _ (by omega), yI_1n _ _ (by omega), yI_1n _ _ (by omega), yI_1n _ _ (by omega)]
    have v5 : (yI (yI (yI (yI Sc (128 + p) 5 (Sc.1 (128 + p) 5 + 1)) (128 + p) 15 (Sc.1 (128 + p) 15 - 1)) (256 + q) 2 (Sc.1 (256 + q) 2 + 1)) 2 14 (Sc.1 2 14 + Sc.1 2 16)).1 (128 + p) 5 = Sc.1 (128 + p) 5 + 1 := by rw [yI_1n _ _ (by omega), yI_1n _ _ (by omega), yI_1n _ _ (by omega), yI_1s]
    rw [v4, v5]
  have em : f_X12_fly N Sm pI = (if Sc.1 (128 + p) 7 = 0 then f_X12_fly_98 N (yA Sm 8 48 (upd (upd (upd (upd (Sm.2.1 8 48) (19 + 23 * p + 5) (Sc.1 (128 + p) 5 + 1)) (19 + 23 * p + 8) (Sc.1 (128 + p) 15 - 1)) (203 + 4 * q + 2) (Sc.1 (256 + q) 2 + 1)) 1 (Sc.1 2 14 + Sc.1 2 16))) pI (Sc.1 (128 + p) 9) (Sc.1 (128 + p) 16) else if Sc.1 (128 + p) 5 + 1 = Sc.1 (128 + p) 7 then f_X12_fly_108 N (yA Sm 8 48 (upd (upd (upd (upd (Sm.2.1 8 48) (19 + 23 * p + 5) (Sc.1 (128 + p) 5 + 1)) (19 + 23 * p + 8) (Sc.1 (128 + p) 15 - 1)) (203 + 4 * q + 2) (Sc.1 (256 + q) 2 + 1)) 1 (Sc.1 2 14 + Sc.1 2 16))) pI else f_X12_fly_98 N (yA Sm 8 48 (upd (upd (upd (upd (Sm.2.1 8 48) (19 + 23 * p + 5) (Sc.1 (128 + p) 5 + 1)) (19 + 23 * p + 8) (Sc.1 (128 + p) 15 - 1)) (203 + 4 * q + 2) (Sc.1 (256 + q) 2 + 1)) 1 (Sc.1 2 14 + Sc.1 2 16))) pI (Sc.1 (128 + p) 9) (Sc.1 (128 + p) 16)) := by
    unfold f_X12_fly f_X12_fly_0
    rw [em_planeR hpI np8 (nn_l 1 (by decide)) (by decide), bV_s, em_planeR hpI np8 (nn_l 11 (by decide)) (by decide), bV_s, em_planeR hpI np8 (nn_l 5 (by decide)) (by decide), bV_s, u 1 9 (by decide) rfl, u 11 16 (by decide) rfl, u 5 5 (by decide) rfl, em_planeW hpI np8 (nn_l 5 (by decide)) (by decide), bS_s, em_planeR hpI np8 (nn_l 8 (by decide)) (by decide), bV_s, yA_same, upd_o _ _ (by omega), u 8 15 (by decide) rfl, em_planeW hpI np8 (nn_l 8 (by decide)) (by decide), bS_s]
    simp only [yA_yA, yA_same]
    rw [em_pilR b1 q8 (nn_l 2 (by decide)) (by decide), bV_s, yA_same, upd_o _ _ (by omega), upd_o _ _ (by omega), d6 q b2 2 (by decide), em_setPilot b1 (nn_l 2 (by decide)) q8 (by decide), bS_s]
    simp only [yA_yA, yA_same]
    rw [gA_nn (nn_l 1 (by decide)) (by decide), gA_nn (nn_l 1 (by decide)) (by decide), upd_o _ _ (by omega), upd_o _ _ (by omega), upd_o _ _ (by omega), d2, yA_1, t6.2.2, sq_s, em_planeR hpI np8 (nn_l 7 (by decide)) (by decide), bV_s, yA_same, upd_o _ _ (by omega), upd_o _ _ (by omega), upd_o _ _ (by omega), upd_o _ _ (by omega), u 7 7 (by decide) rfl]
    by_cases z : Sc.1 (128 + p) 7 = 0
    · rw [if_pos z, if_pos (by rw [z]; decide)]
    · rw [if_neg z, if_neg (fun y => z ((nn_eq fa1 (nn_l 0 (by decide))).mpr (by have := (nn_le fa1 (nn_l 0 (by decide))).mp y; omega))), em_planeR hpI np8 (nn_l 5 (by decide)) (by decide), bV_s, yA_same, upd_o _ _ (show 19 + 23 * p + 5 ≠ 1 by omega), upd_o _ _ (show 19 + 23 * p + 5 ≠ 203 + 4 * q + 2 by omega), upd_o _ _ (show 19 + 23 * p + 5 ≠ 19 + 23 * p + 8 by omega), upd_s, bV_s]
  have cQ : ∀ k, k ≠ 5 → k ≠ 15 → (yI (yI (yI (yI Sc (128 + p) 5 (Sc.1 (128 + p) 5 + 1)) (128 + p) 15 (Sc.1 (128 + p) 15 - 1)) (256 + q) 2 (Sc.1 (256 + q) 2 + 1)) 2 14 (Sc.1 2 14 + Sc.1 2 16)).1 (128 + p) k = Sc.1 (128 + p) k := fun k z y => by rw [yI_1n _ _ (by omega), yI_1n _ _ (by omega), yI_1n _ _ (by omega), yI_1n _ _ (by omega)]
  have cG : ∀ k, (yI (yI (yI (yI Sc (128 + p) 5 (Sc.1 (128 + p) 5 + 1)) (128 + p) 15 (Sc.1 (128 + p) 15 - 1)) (256 + q) 2 (Sc.1 (256 + q) 2 + 1)) 2 14 (Sc.1 2 14 + Sc.1 2 16)).1 (512 + g) k = Sc.1 (512 + g) k := fun k => by rw [yI_1n _ _ (by omega), yI_1n _ _ (by omega), yI_1n _ _ (by omega), yI_1n _ _ (by omega)]
  have c13 : (yI (yI (yI (yI Sc (128 + p) 5 (Sc.1 (128 + p) 5 + 1)) (128 + p) 15 (Sc.1 (128 + p) 15 - 1)) (256 + q) 2 (Sc.1 (256 + q) 2 + 1)) 2 14 (Sc.1 2 14 + Sc.1 2 16)).1 2 13 = Sc.1 2 13 := by rw [yI_1n _ _ (by omega), yI_1n _ _ (by omega), yI_1n _ _ (by omega), yI_1n _ _ (by omega)]
  have cT : (yI (yI (yI (yI Sc (128 + p) 5 (Sc.1 (128 + p) 5 + 1)) (128 + p) 15 (Sc.1 (128 + p) 15 - 1)) (256 + q) 2 (Sc.1 (256 + q) 2 + 1)) 2 14 (Sc.1 2 14 + Sc.1 2 16)).1 (128 + p) 15 = Sc.1 (128 + p) 15 - 1 := by rw [yI_1n _ _ (by omega), yI_1n _ _ (by omega), yI_1s]
  have w12 : (yA Sm 8 48 (upd (upd (upd (upd (Sm.2.1 8 48) (19 + 23 * p + 5) (Sc.1 (128 + p) 5 + 1)) (19 + 23 * p + 8) (Sc.1 (128 + p) 15 - 1)) (203 + 4 * q + 2) (Sc.1 (256 + q) 2 + 1)) 1 (Sc.1 2 14 + Sc.1 2 16))).2.1 8 48 (19 + 23 * p + 12) = Sc.1 (128 + p) 17 := by rw [yA_same, upd_o _ _ (by omega), upd_o _ _ (by omega), upd_o _ _ (by omega), upd_o _ _ (by omega), g4]
  have w8 : (yA Sm 8 48 (upd (upd (upd (upd (Sm.2.1 8 48) (19 + 23 * p + 5) (Sc.1 (128 + p) 5 + 1)) (19 + 23 * p + 8) (Sc.1 (128 + p) 15 - 1)) (203 + 4 * q + 2) (Sc.1 (256 + q) 2 + 1)) 1 (Sc.1 2 14 + Sc.1 2 16))).2.1 8 48 (19 + 23 * p + 8) = Sc.1 (128 + p) 15 - 1 := by rw [yA_same, upd_o _ _ (by omega), upd_o _ _ (by omega), upd_s]
  have w10 : (yA Sm 8 48 (upd (upd (upd (upd (Sm.2.1 8 48) (19 + 23 * p + 5) (Sc.1 (128 + p) 5 + 1)) (19 + 23 * p + 8) (Sc.1 (128 + p) 15 - 1)) (203 + 4 * q + 2) (Sc.1 (256 + q) 2 + 1)) 1 (Sc.1 2 14 + Sc.1 2 16))).2.1 8 48 (19 + 23 * p + 10) = Sc.1 (128 + p) 11 := by rw [yA_same, upd_o _ _ (by omega), upd_o _ _ (by omega), upd_o _ _ (by omega), upd_o _ _ (by omega), u 10 11 (by decide) rfl]
  have cA : (yI (yI (yI (yI Sc (128 + p) 5 (Sc.1 (128 + p) 5 + 1)) (128 + p) 15 (Sc.1 (128 + p) 15 - 1)) (256 + q) 2 (Sc.1 (256 + q) 2 + 1)) 2 14 (Sc.1 2 14 + Sc.1 2 16)).2.1 = Sc.2.1 := rfl
  rw [ec, em]
  generalize yI (yI (yI (yI Sc (128 + p) 5 (Sc.1 (128 + p) 5 + 1)) (128 + p) 15 (Sc.1 (128 + p) 15 - 1)) (256 + q) 2 (Sc.1 (256 + q) 2 + 1)) 2 14 (Sc.1 2 14 + Sc.1 2 16) = C at *
  generalize yA Sm 8 48 (upd (upd (upd (upd (Sm.2.1 8 48) (19 + 23 * p + 5) (Sc.1 (128 + p) 5 + 1)) (19 + 23 * p + 8) (Sc.1 (128 + p) 15 - 1)) (203 + 4 * q + 2) (Sc.1 (256 + q) 2 + 1)) 1 (Sc.1 2 14 + Sc.1 2 16)) = W at *
  have eL := cQ 9 (by decide) (by decide)
  have eP := cQ 16 (by decide) (by decide)
  have eW := cQ 11 (by decide) (by decide)
  have hal' : C.1 (128 + p) 8 = -1 := (cQ 8 (by decide) (by decide)).trans hal
  have hdn' : C.1 (128 + p) 12 = 0 := (cQ 12 (by decide) (by decide)).trans hdn
  have hfor : ∀ (X Y : yS), ST cK nf nl np nq nb ng X Y → DY cK nf nl np nq nb ng X Y → QF cK Sc Sm X Y → X.1 (128 + p) 8 = -1 → X.1 (128 + p) 12 = 0 → ∃ Sc' Sm', f_X10_forceDown N X (128 + p) = some (0, Sc') ∧ f_X12_forced N Y pI = some (0, Sm') ∧ DY cK nf nl np nq nb ng Sc' Sm' ∧ QF cK Sc Sm Sc' Sm' := by
    intro X Y h1 h2 h3 h4 h5
    obtain ⟨Sc', Sm', e1, e2, e3, e4⟩ := forced_both (N := N) h1 h2 hN hp hpI h4
    exact ⟨Sc', Sm', e1, e2, e3 h5, QF_trans h3 e4⟩
  have h111 : ∃ Sc' Sm', f_X10_fly_111 N C (128 + p) = some (0, Sc') ∧ f_X12_fly_108 N W pI = some (0, Sm') ∧ DY cK nf nl np nq nb ng Sc' Sm' ∧ QF cK Sc Sm Sc' Sm' := by
    obtain ⟨Sc', Sm', e1, e2, e3, e4⟩ := hfor C W T4 D4 Q4 hal' hdn'
    unfold f_X10_fly_111 f_X12_fly_108
    exact ⟨Sc', Sm', by rw [e1, bS_s], by rw [e2, bS_s], e3, e4⟩
  have h104 : ∃ Sc' Sm', f_X10_fly_104 N C pI (128 + p) (512 + g) (64 + l) (256 + q) = some (0, Sc') ∧ f_X12_fly_98 N W pI (Sc.1 (128 + p) 9) (Sc.1 (128 + p) 16) = some (0, Sm') ∧ DY cK nf nl np nq nb ng Sc' Sm' ∧ QF cK Sc Sm Sc' Sm' := by
    unfold f_X10_fly_104 f_X12_fly_98
    rw [em_planeR hpI np8 (nn_l 8 (by decide)) (by decide), bV_s, w8, cT]
    by_cases tk : 0 ≤ Sc.1 (128 + p) 15 - 1
    · rw [if_pos tk, if_pos tk, em_planeR hpI np8 (nn_l 10 (by decide)) (by decide), bV_s, w10]
      obtain ⟨kt', hRT', hWd'⟩ := T4.2.2.2.1
      obtain ⟨v, Sc0, Sm1, e1, e2, D5, Q5, F5⟩ := aloft_both (N := N) T4 D4 hN hp hpI (by rw [eL]; exact a1) a2 (by rw [eP]; exact b1) b2 (by rw [cQ 17 (by decide) (by decide)]; exact g1) g2 (by rw [w12, cQ 17 (by decide) (by decide)]) (by rw [cG, eP]; exact g6) (by rw [cG, eL]; exact g7) hRT'
      rw [eL, eP, eW] at e2
      have e98 : (if ¬ Sc.1 (128 + p) 11 = 1 then f_X12_fly_130 N W pI (Sc.1 (128 + p) 9) (Sc.1 (128 + p) 16) 0 else f_X12_fly_130 N W pI (Sc.1 (128 + p) 9) (Sc.1 (128 + p) 16) 1) = f_X12_fly_130 N W pI (Sc.1 (128 + p) 9) (Sc.1 (128 + p) 16) (Sc.1 (128 + p) 11) := by
        rcases i3 with z | z
        · rw [z, if_pos (by decide)]
        · rw [z, if_neg (by decide)]
      rw [e98, e2, e1, bS_s, sq_s]
      have T5 := ST_QF T4 Q5
      have Q6 := QF_trans Q4 Q5
      have xP : ∀ k, (yI Sc0 (512 + g) 9 (Sc0.1 4 1)).1 (128 + p) k = C.1 (128 + p) k := fun k => by rw [yI_1n _ _ (by omega)]; exact (F5 _ k (fun y => by have := y.1; omega)).1
      have x13 : (yI Sc0 (512 + g) 9 (Sc0.1 4 1)).1 2 13 = C.1 2 13 := by rw [yI_1n _ _ (by omega)]; exact (F5 _ 13 (fun y => by have := y.1; omega)).1
      have xA : (yI Sc0 (512 + g) 9 (Sc0.1 4 1)).2.1 1 = C.2.1 1 := funext fun k => (F5 1 k (fun y => by have := y.1; omega)).2
      have x16 : (yI Sc0 (512 + g) 9 (Sc0.1 4 1)).1 1 6 = C.1 1 6 := by rw [yI_1n _ _ (by omega)]; exact (F5 _ 6 (fun y => by have := y.1; omega)).1
      generalize yI Sc0 (512 + g) 9 (Sc0.1 4 1) = X at *
      -- on, or landing
      have mv : ∀ (X' Y' : yS) (fw : Int32), ST cK nf nl np nq nb ng X' Y' → DY cK nf nl np nq nb ng X' Y' → QF cK Sc Sm X' Y' → (∀ k, k ≠ 11 → X'.1 (128 + p) k = X.1 (128 + p) k) → X'.1 (128 + p) 11 = fw → X'.1 2 13 = X.1 2 13 → X'.2.1 1 = X.2.1 1 → X'.1 1 6 = X.1 1 6 → ¬ v = 76 → ∃ Sc' Sm', f_X10_fly_158 N X' pI (128 + p) (64 + l) (256 + q) v = some (0, Sc') ∧ f_X12_fly_324 N Y' pI (Sc.1 (128 + p) 9) (Sc.1 (128 + p) 16) fw (C.1 (128 + p) 10) (sCl C kt' (Sc.1 (128 + p) 9) (C.1 2 13)) (sWi C kt' (Sc.1 (128 + p) 9) (C.1 2 13)) = some (0, Sm') ∧ DY cK nf nl np nq nb ng Sc' Sm' ∧ QF cK Sc Sm Sc' Sm' := by
        intro X' Y' fw y1 y2 y3 y4 y5 y6 y7 y8 y9
        obtain ⟨kt2, hR2, hW2⟩ := y1.2.2.2.1
        have ek : kt2 = kt' := nn_inj hR2.1 (by rw [y8, x16]; exact hRT'.1)
        subst ek
        have z : ∀ k, k ≠ 11 → X'.1 (128 + p) k = C.1 (128 + p) k := fun k hk => (y4 k hk).trans (xP k)
        have zL : X'.1 (128 + p) 9 = Sc.1 (128 + p) 9 := (z 9 (by decide)).trans eL
        have zP : X'.1 (128 + p) 16 = Sc.1 (128 + p) 16 := (z 16 (by decide)).trans eP
        obtain ⟨Sc', Sm', m1, m2, m3, m4⟩ := move_both (N := N) (v := v) y1 y2 hN hp hpI ((z 8 (by decide)).trans hal') ((z 12 (by decide)).trans hdn') (by rw [zL]; exact a1) a2 (by rw [zP]; exact b1) b2 hR2 hW2 y9
        rw [zL, zP, y5, z 10 (by decide), y6, x13, (sCl_cg (y7.trans xA) kt2 _ _).1, (sCl_cg (y7.trans xA) kt2 _ _).2] at m2
        exact ⟨Sc', Sm', m1, m2, m3, QF_trans y3 m4⟩
      by_cases v76 : v = 76
      · rw [if_neg (show ¬ ¬ v = 76 from fun y => y v76), if_pos (show ¬ v = 84 by rw [v76]; decide)]
        obtain ⟨Sc', Sm', f1, f2, f3, f4⟩ := hfor X Sm1 T5 D5 Q6 ((xP 8).trans hal') ((xP 12).trans hdn')
        refine ⟨Sc', Sm', ?_, by rw [f2, bS_s], f3, f4⟩
        obtain ⟨kt2, hR2, hW2⟩ := T5.2.2.2.1
        have h198 : ∀ t, f_X10_fly_198 N X pI (128 + p) (64 + l) v t = some (0, Sc') := by
          intro t
          unfold f_X10_fly_198 f_X10_fly_212 f_X10_fly_253
          rw [if_pos v76, f1, bS_s]
        unfold f_X10_fly_158 f_X10_fly_197
        rw [e_cloudAt hR2 (by omega), bV_s, e_knows, bV_s, h198, h198]
        by_cases c1 : X.1 (64 + l) 3 ≤ sCl X kt2 (X.1 (128 + p) 9) (X.1 2 13)
        · rw [if_pos c1]
        · rw [if_neg c1]
          by_cases c2 : kBit (X.1 (256 + q) 3) (X.1 (128 + p) 9) = 0
          · rw [if_neg (fun y => y c2)]
          · rw [if_pos c2]
      · rw [if_pos v76]
        by_cases v84 : v = 84
        · rw [if_neg (show ¬ ¬ v = 84 from fun y => y v84), if_neg (show ¬ ¬ v = 84 from fun y => y v84), xP 11, eW]
          -- the other way
          have turn : ∀ t : Int32, (t = 0 ∨ t = 1) → ∃ Sc' Sm', f_X10_fly_155 N X pI (128 + p) (64 + l) (256 + q) v (128 + p) t = some (0, Sc') ∧ f_X12_fly_305 N Sm1 pI (Sc.1 (128 + p) 9) (Sc.1 (128 + p) 16) (C.1 (128 + p) 10) (sCl C kt' (Sc.1 (128 + p) 9) (C.1 2 13)) (sWi C kt' (Sc.1 (128 + p) 9) (C.1 2 13)) t = some (0, Sm') ∧ DY cK nf nl np nq nb ng Sc' Sm' ∧ QF cK Sc Sm Sc' Sm' := by
            intro t ht
            have D7 := DY_pl (j := 10) (v := t) D5 T5.2.2.2.2.2.2.1 nl12 hp (by decide) (PI_way (D5.2.2.2.2.2.2.2.2 p hp) ht np8 nl12)
            have Q7 : QF cK X Sm1 (yI X (128 + p) 11 t) (yA Sm1 8 48 (upd (Sm1.2.1 8 48) (19 + 23 * p + 10) t)) := ⟨FR_I _ _ _ _ (by unfold pQC; omega), FR_A _ _ _ _ ⟨rfl, Or.inr (Or.inl rfl)⟩, fun i a b => by rw [yA_same, upd_o _ _ (by omega)]⟩
            have M := mv (yI X (128 + p) 11 t) (yA Sm1 8 48 (upd (Sm1.2.1 8 48) (19 + 23 * p + 10) t)) t (ST_QF T5 Q7) D7 (QF_trans Q6 Q7) (fun k hk => yI_1n _ _ (fun y => hk y.2)) (yI_1s _ _ _ _) (yI_1n _ _ (by omega)) rfl (yI_1n _ _ (by omega)) v76
            have k1 : f_X10_fly_155 N X pI (128 + p) (64 + l) (256 + q) v (128 + p) t = f_X10_fly_158 N (yI X (128 + p) 11 t) pI (128 + p) (64 + l) (256 + q) v := by
              unfold f_X10_fly_155
              rw [gP_t ht, sq_s]
            have k2 : f_X12_fly_305 N Sm1 pI (Sc.1 (128 + p) 9) (Sc.1 (128 + p) 16) (C.1 (128 + p) 10) (sCl C kt' (Sc.1 (128 + p) 9) (C.1 2 13)) (sWi C kt' (Sc.1 (128 + p) 9) (C.1 2 13)) t = f_X12_fly_324 N (yA Sm1 8 48 (upd (Sm1.2.1 8 48) (19 + 23 * p + 10) t)) pI (Sc.1 (128 + p) 9) (Sc.1 (128 + p) 16) t (C.1 (128 + p) 10) (sCl C kt' (Sc.1 (128 + p) 9) (C.1 2 13)) (sWi C kt' (Sc.1 (128 + p) 9) (C.1 2 13)) := by
              unfold f_X12_fly_305 f_X12_fly_321
              rcases ht with rfl | rfl
              · rw [if_pos rfl, em_planeW hpI np8 (nn_l 10 (by decide)) (by decide), bS_s]
              · rw [if_neg i10, em_planeW hpI np8 (nn_l 10 (by decide)) (by decide), bS_s]
            rw [k1, k2]
            exact M
          by_cases fz : Sc.1 (128 + p) 11 = 0
          · rw [if_neg (fun y => y fz), if_neg (fun y => y fz)]
            exact turn 1 (Or.inr rfl)
          · rw [if_pos fz, if_pos fz]
            exact turn 0 (Or.inl rfl)
        · rw [if_pos v84, if_pos v84]
          exact mv X Sm1 (Sc.1 (128 + p) 11) T5 D5 Q6 (fun _ _ => rfl) ((xP 11).trans eW) rfl rfl rfl v76
    · rw [if_neg tk, if_neg tk]
      exact h111
  by_cases z : Sc.1 (128 + p) 7 = 0
  · rw [if_pos z, if_pos z]
    exact h104
  · rw [if_neg z, if_neg z]
    by_cases y : Sc.1 (128 + p) 5 + 1 = Sc.1 (128 + p) 7
    · rw [if_pos y, if_pos y]
      exact h111
    · rw [if_neg y, if_neg y]
      exact h104
