theorem t01_b {x y : Int32} (h : x = y) (hy : y = 0 ∨ y = 1) : t01 x = b01 (y = 1) := by
  rw [h, t01_id hy]
  rcases hy with e | e
  · rw [e, b01_f (by decide)]
  · rw [e, b01_t rfl]
theorem rF_pI {S S' : yS} (h : rF 4 S S') : FR pI1 S S' := by
  intro o k n
  by_cases e : o = 4
  · subst e
    refine ⟨h.2.2.1 k (fun z => n ⟨Or.inl rfl, Or.inl z⟩), h.2.2.2 k (fun z => n ⟨Or.inl rfl, Or.inr (Or.inr z)⟩)⟩
  · exact ⟨congrFun (h.1 o e).1 k, congrFun (h.1 o e).2 k⟩
theorem pAc_pI {S S' : yS} (h : FR pAc S S') : FR pI2 S S' := FR_mono h (fun o k z => ⟨z.1, by have := z.2; omega⟩)
theorem aloft_both {cK : Nat → Nat} {N nf nl np nq nb ng p l q g : Nat} {Sc Sm : yS} {pI : Int32} (hT : ST cK nf nl np nq nb ng Sc Sm) (hD : DY cK nf nl np nq nb ng Sc Sm) (hN : 120 < N) (hp : p < np) (hpI : nn pI p) (a1 : nn (Sc.1 (128 + p) 9) l) (a2 : l < nl) (b1 : nn (Sc.1 (128 + p) 16) q) (b2 : q < nq) (g1 : nn (Sc.1 (128 + p) 17) g) (g2 : g < ng) (g4 : Sm.2.1 8 48 (19 + 23 * p + 12) = Sc.1 (128 + p) 17) (g6 : Sc.1 (512 + g) 1 = Sc.1 (128 + p) 16) (g7 : Sc.1 (512 + g) 2 = Sc.1 (128 + p) 9) {kt : Nat} (hRT : RT kt Sc Sm) : ∃ v Sc0 Sm1, f_X10_aloftAct N Sc (128 + p) = some (v, Sc0) ∧ f_X12_fly_130 N Sm pI (Sc.1 (128 + p) 9) (Sc.1 (128 + p) 16) (Sc.1 (128 + p) 11) = (if ¬ v = 76 then if ¬ v = 84 then f_X12_fly_324 N Sm1 pI (Sc.1 (128 + p) 9) (Sc.1 (128 + p) 16) (Sc.1 (128 + p) 11) (Sc.1 (128 + p) 10) (sCl Sc kt (Sc.1 (128 + p) 9) (Sc.1 2 13)) (sWi Sc kt (Sc.1 (128 + p) 9) (Sc.1 2 13)) else if ¬ (Sc.1 (128 + p) 11) = 0 then f_X12_fly_305 N Sm1 pI (Sc.1 (128 + p) 9) (Sc.1 (128 + p) 16) (Sc.1 (128 + p) 10) (sCl Sc kt (Sc.1 (128 + p) 9) (Sc.1 2 13)) (sWi Sc kt (Sc.1 (128 + p) 9) (Sc.1 2 13)) 0 else f_X12_fly_305 N Sm1 pI (Sc.1 (128 + p) 9) (Sc.1 (128 + p) 16) (Sc.1 (128 + p) 10) (sCl Sc kt (Sc.1 (128 + p) 9) (Sc.1 2 13)) (sWi Sc kt (Sc.1 (128 + p) 9) (Sc.1 2 13)) 1 else bS (f_X12_forced N Sm1 pI) fun w4 S3 => some (0, S3)) ∧ DY cK nf nl np nq nb ng (yI Sc0 (512 + g) 9 (Sc0.1 4 1)) Sm1 ∧ QF cK Sc Sm (yI Sc0 (512 + g) 9 (Sc0.1 4 1)) Sm1 ∧ FR pI1 Sc Sc0 := by
  have hT0 := hT
  have hD0 := hD
  obtain ⟨d1, d2, d3, d4, d5, d6, d7, d8, d9⟩ := hD
  obtain ⟨t1, t2, t3, t4, ⟨k8, k9, t5, t5'⟩, t6, t7, t8, t9, t10, t11, t12, t13, t14⟩ := hT
  have np8 : p < 8 := by have := t7.1.2.1; omega
  have l12 : l < 12 := by have := t2.2.1; omega
  have g24 : g < 24 := by have := t7.2.2.2.2.1; omega
  have q8 : q < 8 := by have := t7.2.1.2.1; omega
  obtain ⟨k, hR⟩ := t2.2.2.2.1 l a2
  obtain ⟨r1, ⟨ra, ra1, ra2⟩, ⟨rb, rb1, rb2⟩, r4, r5, r6, r7, r8, r9, r10, r11, r12⟩ := hR
  have eF : Sc.2.1 2 11 g = 1 := (t11 g g2).1
  have u : ∀ j kk, j < 12 → pS j = kk → Sm.2.1 8 48 (19 + 23 * p + j) = Sc.1 (128 + p) kk := fun j kk hj hk => by rw [← hk]; exact d5 p hp j hj
  obtain ⟨x1, x2, x3, x4, x5, x6, ⟨sp, sp1, sp2, sp3⟩, x8⟩ := t8 p hp
  obtain ⟨_, _, fw, _, _, _⟩ := d9 p hp
  -- the goal
  obtain ⟨go, fi, hgo, hgo1, hfi⟩ : ∃ go fi, go = (if Sc.1 (128 + p) 11 = 0 then Sc.1 (64 + l) 0 else Sc.1 (64 + l) 1) ∧ nn go fi ∧ fi < 8 := by
    by_cases z : Sc.1 (128 + p) 11 = 0
    · exact ⟨_, ra, rfl, by rw [if_pos z]; exact ra1, ra2⟩
    · exact ⟨_, rb, rfl, by rw [if_neg z]; exact rb1, rb2⟩
  obtain ⟨y1, y2, y3, y4, y5⟩ := t1.2.2.2 fi hfi
  -- class
  obtain ⟨X, hX⟩ : ∃ X, X = upd (upd (upd (upd (upd (Sc.2.1 4 2) 2 (sCl Sc kt (Sc.1 (128 + p) 9) (Sc.1 2 13) - Sc.1 (64 + l) 3)) 22 (if Sc.1 (128 + p) 11 = 0 then -(sWi Sc kt (Sc.1 (128 + p) 9) (Sc.1 2 13)) else sWi Sc kt (Sc.1 (128 + p) 9) (Sc.1 2 13))) 0 0) 5 (Sc.1 (128 + p) 15)) 6 (rUp (if Sc.1 (128 + p) 11 = 0 then Sc.1 (128 + p) 10 else Sc.1 (64 + l) 2 - Sc.1 (128 + p) 10) (Sc.1 (128 + p) 0)) := ⟨_, rfl⟩
  obtain ⟨Y, hY⟩ : ∃ Y, Y = cCom X (nNt (Sc.1 2 13)) (t01 (Sc.2.1 1 1 fi)) (kBit (Sc.1 (256 + q) 3) (Sc.1 (128 + p) 9)) (Sc.1 (256 + q) 2) (Sc.1 (128 + p) 6 - Sc.1 (128 + p) 5) := ⟨_, rfl⟩
  have ec : f_X10_aloftAct N Sc (128 + p) = bV (f_X8r_inForce N (yA Sc 4 2 Y) 1 (Sc.1 2 13)) fun w12 => bS (f_X8r_run N (yA Sc 4 2 Y) w12 71) fun w13 S7 => some (w13, S7) := by
    unfold f_X10_aloftAct f_X10_aloftAct_0
    rw [gR_nn a1 l12 r1, e_cloudAt hRT (by omega), bV_s, e_put (c := 2) (nn_l 99 (by decide)) (by decide), bS_s]
    have rt1 : ∀ Z, RT kt (yA Sc 4 2 Z) Sm := fun Z => RT_congr hRT rfl rfl rfl rfl rfl rfl rfl rfl rfl rfl
    have hW : ∀ Z, f_X10_windFor N (yA Sc 4 2 Z) (128 + p) = some (if Sc.1 (128 + p) 11 = 0 then -(sWi Sc kt (Sc.1 (128 + p) 9) (Sc.1 2 13)) else sWi Sc kt (Sc.1 (128 + p) 9) (Sc.1 2 13)) := by
      intro Z
      unfold f_X10_windFor f_X10_windFor_0 f_X10_windFor_29
      rw [e_windAt (rt1 Z) (by omega), bV_s]
      show (if Sc.1 (128 + p) 11 = 0 then some (-(sWi Sc kt (Sc.1 (128 + p) 9) (Sc.1 2 13))) else some (sWi Sc kt (Sc.1 (128 + p) 9) (Sc.1 2 13))) = _
      by_cases z : Sc.1 (128 + p) 11 = 0
      · rw [if_pos z, if_pos z]
      · rw [if_neg z, if_neg z]
    rw [hW, bV_s, e_put (c := 22) (nn_l 119 (by decide)) (by decide), bS_s, e_put (c := 0) (nn_l 97 (by decide)) (by decide), bS_s, e_put (c := 5) (nn_l 102 (by decide)) (by decide), bS_s, e_toGo, bV_s]
    simp only [yA_yA, yA_same, yA_1]
    rw [e_roundUp sp1 (by omega), bV_s, e_put (c := 6) (nn_l 103 (by decide)) (by decide), bS_s]
    simp only [yA_yA, yA_same, yA_1]
    rw [← hX, yA_2n _ _ (by decide), gR_nn g1 g24 eF, e_goal, bV_s]
    simp only [yA_1]
    rw [← hgo]
    rw [e_common (S := yA Sc 4 2 X) (P := 128 + p) (G := 512 + g) (q := q) (fi := fi) (by show nn (Sc.1 (512 + g) 1) q; rw [g6]; exact b1) q8 (by rw [yA_2n _ _ (by decide)]; exact t9 q b2) hgo1 hfi (by omega) (by omega), bS_s]
    simp only [yA_yA, yA_same, yA_1]
    rw [yA_2n _ _ (by decide), g7, ← hY]
  -- reference
  obtain ⟨Z, hZ⟩ : ∃ Z, Z = mCom (upd (upd (upd (Sm.2.1 8 56) 0 (sCl Sc kt (Sc.1 (128 + p) 9) (Sc.1 2 13) - Sc.1 (64 + l) 3)) 1 (if Sc.1 (128 + p) 11 = 0 then -(sWi Sc kt (Sc.1 (128 + p) 9) (Sc.1 2 13)) else sWi Sc kt (Sc.1 (128 + p) 9) (Sc.1 2 13))) 2 0) (nNt (Sc.1 2 13)) (b01 (Sm.2.1 8 48 (3 + 2 * fi) = 1)) (kBit (Sc.1 (256 + q) 3) (Sc.1 (128 + p) 9)) (Sc.1 (256 + q) 2) (Sc.1 (128 + p) 15) (rUp (if Sc.1 (128 + p) 11 = 0 then Sc.1 (128 + p) 10 else Sc.1 (64 + l) 2 - Sc.1 (128 + p) 10) (Sc.1 (128 + p) 0)) (Sc.1 (128 + p) 6 - Sc.1 (128 + p) 5) := ⟨_, rfl⟩
  have em : f_X12_fly_130 N Sm pI (Sc.1 (128 + p) 9) (Sc.1 (128 + p) 16) (Sc.1 (128 + p) 11) = bS (f_X12_act N (yA Sm 8 56 Z) 1 (Sc.1 (128 + p) 17) 1) fun w3 S2 => if ¬ w3 = 76 then if ¬ w3 = 84 then f_X12_fly_324 N S2 pI (Sc.1 (128 + p) 9) (Sc.1 (128 + p) 16) (Sc.1 (128 + p) 11) (Sc.1 (128 + p) 10) (sCl Sc kt (Sc.1 (128 + p) 9) (Sc.1 2 13)) (sWi Sc kt (Sc.1 (128 + p) 9) (Sc.1 2 13)) else if ¬ (Sc.1 (128 + p) 11) = 0 then f_X12_fly_305 N S2 pI (Sc.1 (128 + p) 9) (Sc.1 (128 + p) 16) (Sc.1 (128 + p) 10) (sCl Sc kt (Sc.1 (128 + p) 9) (Sc.1 2 13)) (sWi Sc kt (Sc.1 (128 + p) 9) (Sc.1 2 13)) 0 else f_X12_fly_305 N S2 pI (Sc.1 (128 + p) 9) (Sc.1 (128 + p) 16) (Sc.1 (128 + p) 10) (sCl Sc kt (Sc.1 (128 + p) 9) (Sc.1 2 13)) (sWi Sc kt (Sc.1 (128 + p) 9) (Sc.1 2 13)) 1 else bS (f_X12_forced N S2 pI) fun w4 S3 => some (0, S3) := by
    have h257 : ∀ (T : yS) (to le : Int32) (wi : Int32), T.2.1 8 48 = Sm.2.1 8 48 → T.2.1 8 16 = Sm.2.1 8 16 → nn to fi → f_X12_fly_257 N T pI (Sc.1 (128 + p) 9) (Sc.1 (128 + p) 16) (Sc.1 (128 + p) 11) (Sc.1 (128 + p) 10) (sCl Sc kt (Sc.1 (128 + p) 9) (Sc.1 2 13)) wi pI (Sc.1 (128 + p) 16) (Sc.1 (128 + p) 9) to (Sc.1 (128 + p) 15) le = bS (f_X12_act N (yA T 8 56 (mCom (T.2.1 8 56) (nNt (Sc.1 2 13)) (b01 (Sm.2.1 8 48 (3 + 2 * fi) = 1)) (kBit (Sc.1 (256 + q) 3) (Sc.1 (128 + p) 9)) (Sc.1 (256 + q) 2) (Sc.1 (128 + p) 15) (rUp le (Sc.1 (128 + p) 0)) (Sc.1 (128 + p) 6 - Sc.1 (128 + p) 5))) 1 (Sc.1 (128 + p) 17) 1) fun w3 S2 => if ¬ w3 = 76 then if ¬ w3 = 84 then f_X12_fly_324 N S2 pI (Sc.1 (128 + p) 9) (Sc.1 (128 + p) 16) (Sc.1 (128 + p) 11) (Sc.1 (128 + p) 10) (sCl Sc kt (Sc.1 (128 + p) 9) (Sc.1 2 13)) wi else if ¬ (Sc.1 (128 + p) 11) = 0 then f_X12_fly_305 N S2 pI (Sc.1 (128 + p) 9) (Sc.1 (128 + p) 16) (Sc.1 (128 + p) 10) (sCl Sc kt (Sc.1 (128 + p) 9) (Sc.1 2 13)) wi 0 else f_X12_fly_305 N S2 pI (Sc.1 (128 + p) 9) (Sc.1 (128 + p) 16) (Sc.1 (128 + p) 10) (sCl Sc kt (Sc.1 (128 + p) 9) (Sc.1 2 13)) wi 1 else bS (f_X12_forced N S2 pI) fun w4 S3 => some (0, S3) := by
      intro T to le wi hT1 hT2 hto
      unfold f_X12_fly_257
      rw [em_common (S := T) hpI np8 b1 q8 hto hfi (s := sp) (by rw [hT2, x2]; exact sp1) (by omega), bS_s, em_planeR hpI np8 (nn_l 12 (by decide)) (by decide), bV_s, yA_2n _ _ (by decide), hT1, hT2, g4, d1, x2, u 6 6 (by decide) rfl, u 5 5 (by decide) rfl, d6 q b2 3 (by decide), d6 q b2 2 (by decide)]
    unfold f_X12_fly_130
    rw [em_planeR hpI np8 (nn_l 2 (by decide)) (by decide), bV_s, gA_nn (nn_l 0 (by decide)) (by decide), d1, em_cloud hRT (by omega), bV_s, gA_nn (nn_l 0 (by decide)) (by decide), d1, em_wind hRT (by omega), bV_s, gA_nn a1 l12, gA_nn (nn_l 0 (by decide)) (by decide), sq_s, u 2 10 (by decide) rfl, r8]
    have w56 : ∀ A : Nat → Int32, (yA Sm 8 56 A).2.1 8 48 = Sm.2.1 8 48 := fun A => yA_2n _ _ (by decide)
    have h199 : ∀ (x : Int32), f_X12_fly_199 N (yA Sm 8 56 (upd (Sm.2.1 8 56) 0 (sCl Sc kt (Sc.1 (128 + p) 9) (Sc.1 2 13) - Sc.1 (64 + l) 3))) pI (Sc.1 (128 + p) 9) (Sc.1 (128 + p) 16) (Sc.1 (128 + p) 11) (Sc.1 (128 + p) 10) (sCl Sc kt (Sc.1 (128 + p) 9) (Sc.1 2 13)) (sWi Sc kt (Sc.1 (128 + p) 9) (Sc.1 2 13)) 1 x = f_X12_fly_257 N (yA Sm 8 56 (upd (upd (upd (Sm.2.1 8 56) 0 (sCl Sc kt (Sc.1 (128 + p) 9) (Sc.1 2 13) - Sc.1 (64 + l) 3)) 1 x) 2 0)) pI (Sc.1 (128 + p) 9) (Sc.1 (128 + p) 16) (Sc.1 (128 + p) 11) (Sc.1 (128 + p) 10) (sCl Sc kt (Sc.1 (128 + p) 9) (Sc.1 2 13)) (sWi Sc kt (Sc.1 (128 + p) 9) (Sc.1 2 13)) pI (Sc.1 (128 + p) 16) (Sc.1 (128 + p) 9) go (Sc.1 (128 + p) 15) (if Sc.1 (128 + p) 11 = 0 then Sc.1 (128 + p) 10 else Sc.1 (64 + l) 2 - Sc.1 (128 + p) 10) := by
      intro x
      unfold f_X12_fly_199
      rw [gA_nn (nn_l 1 (by decide)) (by decide), sq_s, gA_nn (nn_l 2 (by decide)) (by decide), sq_s]
      simp only [yA_yA, yA_same]
      unfold f_X12_fly_231
      by_cases z : Sc.1 (128 + p) 11 = 0
      · rw [if_pos z, gA_nn a1 l12, yA_2n _ _ (by decide), r5, em_planeR hpI np8 (nn_l 8 (by decide)) (by decide), bV_s, if_pos z, w56, u 8 15 (by decide) rfl, if_pos z, hgo, if_pos z]
      · rw [if_neg z, gA_nn a1 l12, yA_2n _ _ (by decide), r6, em_planeR hpI np8 (nn_l 8 (by decide)) (by decide), bV_s, if_neg z, w56, u 8 15 (by decide) rfl, gA_nn a1 l12, yA_2n _ _ (by decide), r7, if_neg z, hgo, if_neg z]
    by_cases z : Sc.1 (128 + p) 11 = 0
    · rw [if_pos z, h199, h257 _ _ _ _ (w56 _) (yA_2n _ _ (by decide)) hgo1]
      simp only [yA_yA, yA_same]
      rw [hZ, if_pos z, if_pos z]
    · rw [if_neg z, h199, h257 _ _ _ _ (w56 _) (yA_2n _ _ (by decide)) hgo1]
      simp only [yA_yA, yA_same]
      rw [hZ, if_neg z, if_neg z]
  -- both speak
  have hLR : lRu (yA Sc 4 2 Y) (yA Sm 8 56 Z) := by
    intro t ht
    rw [yA_same, yA_same, hY, hZ, hX]
    rcases (show t = 0 ∨ t = 1 ∨ t = 2 ∨ t = 3 ∨ t = 4 ∨ t = 5 ∨ t = 6 ∨ t = 7 ∨ t = 8 ∨ t = 9 by omega) with rfl | rfl | rfl | rfl | rfl | rfl | rfl | rfl | rfl | rfl
    · rfl
    · rfl
    · rfl
    · rfl
    · exact t01_b y2 y4
    · rfl
    · rfl
    · rfl
    · rfl
    · rfl
  obtain ⟨v, ln, Sc0, e1, e2, e3, _, e5⟩ := rules_both (N := N) (kd := 1) (kI := 1) (oth := 71) (t := Sc.1 2 13) (Sc := yA Sc 4 2 Y) (Sm := yA Sm 8 56 Z) (by omega) (RR_congr t5 rfl rfl rfl rfl rfl rfl rfl rfl rfl rfl) (RK_congr t5' rfl rfl rfl rfl rfl rfl rfl) hLR (nn_l 1 (by decide)) (by decide) (by rw [yA_2n _ _ (by decide)]; exact d1) rfl
  obtain ⟨Sm', f1, f2⟩ := e5 g (Sc.1 (128 + p) 17) g1 g24
  have F1 : FR pI1 Sc Sc0 := FR_trans (FR_A _ _ _ _ ⟨Or.inl rfl, by decide⟩) (rF_pI e3)
  have F2 : FR pI2 Sm Sm' := FR_trans (FR_A _ _ _ _ ⟨rfl, by decide⟩) (pAc_pI f2)
  have D1 : DY cK nf nl np nq nb ng Sc0 Sm' := DY_irr hD0 t7.2.2.1.2.1 F1 F2
  have Q1 : QF cK Sc Sm Sc0 Sm' := ⟨FR_mono F1 (fun o k z => by have z1 := z.1; have z2 := z.2; unfold pQC; omega), FR_mono F2 (fun o k z => ⟨z.1, by have := z.2; omega⟩), fun i _ _ => by rw [(F2 8 48 (fun y => by have := y.2; omega)).2]⟩
  have w' : Sm'.2.1 8 48 = Sm.2.1 8 48 := (F2 8 48 (fun y => by have := y.2; omega)).2
  have T1 := ST_QF hT0 Q1
  refine ⟨v, Sc0, yA Sm' 8 48 (upd (Sm'.2.1 8 48) (1345 + 5 * g + 4) (Sc0.1 4 1)), ?_, ?_, ?_, ?_, F1⟩
  · rw [ec]
    have : (bV (f_X8r_inForce N (yA Sc 4 2 Y) 1 (Sc.1 2 13)) fun w12 => bS (f_X8r_run N (yA Sc 4 2 Y) w12 71) fun w13 S7 => some (w13, S7)) = (bV (f_X8r_inForce N (yA Sc 4 2 Y) 1 (Sc.1 2 13)) fun w => f_X8r_run N (yA Sc 4 2 Y) w 71) := by
      congr 1
      funext w
      cases f_X8r_run N (yA Sc 4 2 Y) w 71 with
      | none => rfl
      | some x => rfl
    rw [this, e1]
  · rw [em, f1, bS_s, yA_2n _ _ (by decide), w', ← e2]
  · exact DY_any D1 T1.2.2.2.2.2.2.1 T1.2.1.2.1 (Or.inr (Or.inr ⟨g, 4, g2, rfl, by decide, by decide, rfl, rfl⟩))
  · refine QF_trans Q1 ⟨FR_I _ _ _ _ (by unfold pQC; omega), FR_A _ _ _ _ ⟨rfl, Or.inr (Or.inl rfl)⟩, fun i a b => by rw [yA_same, upd_o _ _ (by omega)]⟩
