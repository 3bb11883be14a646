theorem startAct_both {cK : Nat → Nat} {N nf nl np nq nb ng p q l g : Nat} {Sc Sm : yS} {gI : Int32} (hT : ST cK nf nl np nq nb ng Sc Sm) (hD : DY cK nf nl np nq nb ng Sc Sm) (hN : 120 < N) (hg : g < ng) (hgI : nn gI g) (p1 : nn (Sc.1 (512 + g) 0) p) (p2 : p < np) (q1 : nn (Sc.1 (512 + g) 1) q) (q2 : q < nq) (l1 : nn (Sc.1 (512 + g) 2) l) (l2 : l < nl) : ∃ v Sc0, f_X10_startAct N Sc (512 + g) = some (v, Sc0) ∧ FR pI1 Sc Sc0 ∧ (∃ Sm', f_X12_whyNot_177 N Sm gI 0 (Sc.1 (512 + g) 0) (Sc.1 (512 + g) 1) (Sc.1 (512 + g) 2) (Sc.1 (128 + p) 8) (b01 (Sc.1 (128 + p) 8 = Sc.1 (64 + l) 0)) = some (if v = 71 then 0 else 7, Sm') ∧ FR pI2 Sm Sm') ∧ ∃ Sm1, f_X12_whyNot_177 N Sm gI 1 (Sc.1 (512 + g) 0) (Sc.1 (512 + g) 1) (Sc.1 (512 + g) 2) (Sc.1 (128 + p) 8) (b01 (Sc.1 (128 + p) 8 = Sc.1 (64 + l) 0)) = some (if v = 71 then 0 else 7, Sm1) ∧ DY cK nf nl np nq nb ng (yI Sc0 (512 + g) 8 (Sc0.1 4 1)) Sm1 ∧ QF cK Sc Sm (yI Sc0 (512 + g) 8 (Sc0.1 4 1)) Sm1 := by
  have hT0 := hT
  have hD0 := hD
  obtain ⟨d1, d2, d3, ⟨kw, hRW, _⟩, d5, d6, d7, d8, d9⟩ := hD
  obtain ⟨t1, t2, t3, t4, ⟨k8, k9, t5, t5'⟩, t6, t7, t8, t9, t10, t11, t12, t13, t14⟩ := hT
  have g24 : g < 24 := by have := t7.2.2.2.2.1; omega
  have np8 : p < 8 := by have := t7.1.2.1; omega
  have l12 : l < 12 := by have := t2.2.1; omega
  have q8 : q < 8 := by have := t7.2.1.2.1; omega
  obtain ⟨k, hR⟩ := t2.2.2.2.1 l l2
  obtain ⟨r1, ⟨ra, ra1, ra2⟩, ⟨rb, rb1, rb2⟩, r4, r5, r6, r7, r8, r9, r10, r11, r12⟩ := hR
  have u : ∀ j kk, j < 12 → pS j = kk → Sm.2.1 8 48 (19 + 23 * p + j) = Sc.1 (128 + p) kk := fun j kk hj hk => by rw [← hk]; exact d5 p p2 j hj
  obtain ⟨x1, x2, x3, x4, x5, x6, ⟨sp, sp1, sp2, sp3⟩, x8⟩ := t8 p p2
  obtain ⟨fw, hfw⟩ : ∃ fw, fw = b01 (Sc.1 (128 + p) 8 = Sc.1 (64 + l) 0) := ⟨_, rfl⟩
  have fw01 : fw = 0 ∨ fw = 1 := by rw [hfw]; exact b01_r
  obtain ⟨go, fi, hgo, hgo1, hfi⟩ : ∃ go fi, go = (if fw = 0 then Sc.1 (64 + l) 0 else Sc.1 (64 + l) 1) ∧ nn go fi ∧ fi < 8 := by
    by_cases z : fw = 0
    · exact ⟨_, ra, rfl, by rw [if_pos z]; exact ra1, ra2⟩
    · exact ⟨_, rb, rfl, by rw [if_neg z]; exact rb1, rb2⟩
  obtain ⟨y1, y2, y3, y4, y5⟩ := t1.2.2.2 fi hfi
  -- class, once the word's numbers are known
  have hc : ∃ (cv wv av : Int32), (∃ Y, Y = cCom (upd (upd (upd (upd (upd (Sc.2.1 4 2) 2 cv) 22 wv) 0 av) 5 (Sc.1 (128 + p) 3)) 6 (rUp (Sc.1 (64 + l) 2) (Sc.1 (128 + p) 0))) (nNt (Sc.1 2 13)) (t01 (Sc.2.1 1 1 fi)) (kBit (Sc.1 (256 + q) 3) (Sc.1 (512 + g) 2)) (Sc.1 (256 + q) 2) (Sc.1 (128 + p) 6 - Sc.1 (128 + p) 5) ∧ f_X10_startAct N Sc (512 + g) = bV (f_X8r_inForce N (yA Sc 4 2 Y) 0 (Sc.1 2 13)) fun w7 => bS (f_X8r_run N (yA Sc 4 2 Y) w7 87) fun w8 S5 => some (w8, S5)) ∧ ∃ Z, Z = mCom (upd (upd (upd (Sm.2.1 8 56) 0 cv) 1 wv) 2 av) (nNt (Sc.1 2 13)) (b01 (Sm.2.1 8 48 (3 + 2 * fi) = 1)) (kBit (Sc.1 (256 + q) 3) (Sc.1 (512 + g) 2)) (Sc.1 (256 + q) 2) (Sc.1 (128 + p) 3) (rUp (Sc.1 (64 + l) 2) (Sc.1 (128 + p) 0)) (Sc.1 (128 + p) 6 - Sc.1 (128 + p) 5) ∧ ∀ kp, f_X12_whyNot_177 N Sm gI kp (Sc.1 (512 + g) 0) (Sc.1 (512 + g) 1) (Sc.1 (512 + g) 2) (Sc.1 (128 + p) 8) fw = bS (f_X12_act N (yA Sm 8 56 Z) 0 gI kp) fun w2 S2 => if ¬ w2 = 71 then f_X12_whyNot_367 N S2 7 else f_X12_whyNot_367 N S2 0 := by
    have h183 : ∀ (Z : Nat → Int32) (av : Int32), f_X10_startAct_183 N (yA Sc 4 2 Z) (512 + g) (128 + p) (64 + l) fw 97 av = bV (f_X8r_inForce N (yA Sc 4 2 (cCom (upd (upd (upd Z 0 av) 5 (Sc.1 (128 + p) 3)) 6 (rUp (Sc.1 (64 + l) 2) (Sc.1 (128 + p) 0))) (nNt (Sc.1 2 13)) (t01 (Sc.2.1 1 1 fi)) (kBit (Sc.1 (256 + q) 3) (Sc.1 (512 + g) 2)) (Sc.1 (256 + q) 2) (Sc.1 (128 + p) 6 - Sc.1 (128 + p) 5))) 0 (Sc.1 2 13)) fun w7 => bS (f_X8r_run N (yA Sc 4 2 (cCom (upd (upd (upd Z 0 av) 5 (Sc.1 (128 + p) 3)) 6 (rUp (Sc.1 (64 + l) 2) (Sc.1 (128 + p) 0))) (nNt (Sc.1 2 13)) (t01 (Sc.2.1 1 1 fi)) (kBit (Sc.1 (256 + q) 3) (Sc.1 (512 + g) 2)) (Sc.1 (256 + q) 2) (Sc.1 (128 + p) 6 - Sc.1 (128 + p) 5))) w7 87) fun w8 S5 => some (w8, S5) := by
      intro Z av
      unfold f_X10_startAct_183
      rw [e_put (c := 0) (nn_l 97 (by decide)) (by decide), bS_s, e_put (c := 5) (nn_l 102 (by decide)) (by decide), bS_s]
      simp only [yA_yA, yA_same, yA_1]
      rw [e_roundUp sp1 (by omega), bV_s, e_put (c := 6) (nn_l 103 (by decide)) (by decide), bS_s, e_goal, bV_s]
      simp only [yA_yA, yA_same, yA_1]
      rw [← hgo, e_common (S := yA Sc 4 2 (upd (upd (upd Z 0 av) 5 (Sc.1 (128 + p) 3)) 6 (rUp (Sc.1 (64 + l) 2) (Sc.1 (128 + p) 0)))) (P := 128 + p) (G := 512 + g) (q := q) (fi := fi) q1 q8 (by rw [yA_2n _ _ (by decide)]; exact t9 q q2) hgo1 hfi (by omega) (by omega), bS_s]
      simp only [yA_yA, yA_same, yA_1]
      rw [yA_2n _ _ (by decide)]
    have h333 : ∀ (T : yS) (kp : Int32), T.2.1 8 48 = Sm.2.1 8 48 → (∀ k, k ≠ 56 → T.2.1 8 k = Sm.2.1 8 k) → f_X12_whyNot_333 N T gI kp (Sc.1 (512 + g) 0) (Sc.1 (512 + g) 2) (Sc.1 (512 + g) 0) (Sc.1 (512 + g) 1) (Sc.1 (512 + g) 2) go = bS (f_X12_act N (yA T 8 56 (mCom (T.2.1 8 56) (nNt (Sc.1 2 13)) (b01 (Sm.2.1 8 48 (3 + 2 * fi) = 1)) (kBit (Sc.1 (256 + q) 3) (Sc.1 (512 + g) 2)) (Sc.1 (256 + q) 2) (Sc.1 (128 + p) 3) (rUp (Sc.1 (64 + l) 2) (Sc.1 (128 + p) 0)) (Sc.1 (128 + p) 6 - Sc.1 (128 + p) 5))) 0 gI kp) fun w2 S2 => if ¬ w2 = 71 then f_X12_whyNot_367 N S2 7 else f_X12_whyNot_367 N S2 0 := by
      intro T kp h1 h2
      unfold f_X12_whyNot_333
      rw [gA_nn p1 np8, gA_nn l1 l12, em_common (S := T) p1 np8 q1 q8 hgo1 hfi (s := sp) (by rw [h2 16 (by decide), x2]; exact sp1) (by omega), bS_s, h1, h2 16 (by decide), h2 19 (by decide), h2 4 (by decide), d1, x2, x5, r7, u 6 6 (by decide) rfl, u 5 5 (by decide) rfl, d6 q q2 3 (by decide), d6 q q2 2 (by decide)]
    have w56 : ∀ A : Nat → Int32, (yA Sm 8 56 A).2.1 8 48 = Sm.2.1 8 48 := fun A => yA_2n _ _ (by decide)
    have o56 : ∀ (A : Nat → Int32) k, k ≠ 56 → (yA Sm 8 56 A).2.1 8 k = Sm.2.1 8 k := fun A k hk => yA_2n _ _ (fun y => hk y.2)
    have h304 : ∀ (A : Nat → Int32) (kp av : Int32), f_X12_whyNot_304 N (yA Sm 8 56 A) gI kp (Sc.1 (512 + g) 0) (Sc.1 (512 + g) 1) (Sc.1 (512 + g) 2) fw 2 av = bS (f_X12_act N (yA Sm 8 56 (mCom (upd A 2 av) (nNt (Sc.1 2 13)) (b01 (Sm.2.1 8 48 (3 + 2 * fi) = 1)) (kBit (Sc.1 (256 + q) 3) (Sc.1 (512 + g) 2)) (Sc.1 (256 + q) 2) (Sc.1 (128 + p) 3) (rUp (Sc.1 (64 + l) 2) (Sc.1 (128 + p) 0)) (Sc.1 (128 + p) 6 - Sc.1 (128 + p) 5))) 0 gI kp) fun w2 S2 => if ¬ w2 = 71 then f_X12_whyNot_367 N S2 7 else f_X12_whyNot_367 N S2 0 := by
      intro A kp av
      unfold f_X12_whyNot_304
      rw [gA_nn (nn_l 2 (by decide)) (by decide), sq_s]
      simp only [yA_yA, yA_same]
      rw [gA_nn l1 l12, gA_nn l1 l12, o56 _ 2 (by decide), o56 _ 3 (by decide), r5, r6]
      have e := h333 (yA Sm 8 56 (upd A 2 av)) kp (w56 _) (o56 _)
      simp only [yA_yA, yA_same] at e
      by_cases z : fw = 0
      · rw [if_pos z]
        rw [hgo, if_pos z] at e
        exact e
      · rw [if_neg z]
        rw [hgo, if_neg z] at e
        exact e
    have eL := e_latest hRW hN (Sc.1 (128 + p) 8) (Sc.1 (512 + g) 2) (Sc.1 2 13)
    have eM := em_wordAt hRW hN (Sc.1 (128 + p) 8) (Sc.1 (512 + g) 2) (Sc.1 2 13)
    have hst : f_X10_startAct N Sc (512 + g) = f_X10_startAct_39 N Sc (512 + g) (128 + p) (64 + l) fw := by
      unfold f_X10_startAct f_X10_startAct_0
      rw [gR_nn p1 np8 x1, gR_nn l1 l12 r1, hfw]
      by_cases z : Sc.1 (128 + p) 8 = Sc.1 (64 + l) 0
      · rw [if_neg (fun y => y z), b01_t z]
      · rw [if_pos z, b01_f z]
    have h177 : ∀ kp, f_X12_whyNot_177 N Sm gI kp (Sc.1 (512 + g) 0) (Sc.1 (512 + g) 1) (Sc.1 (512 + g) 2) (Sc.1 (128 + p) 8) fw = (if ¬ encW (sWd Sc kw (Sc.1 (128 + p) 8) (Sc.1 (512 + g) 2) (Sc.1 2 13)) = -1 then gA 2305 (encW (sWd Sc kw (Sc.1 (128 + p) 8) (Sc.1 (512 + g) 2) (Sc.1 2 13)) + 2) fun j2 => gA 12 (Sc.1 (512 + g) 2) fun j3 => f_X12_whyNot_227 N Sm gI kp (Sc.1 (512 + g) 0) (Sc.1 (512 + g) 1) (Sc.1 (512 + g) 2) fw (encW (sWd Sc kw (Sc.1 (128 + p) 8) (Sc.1 (512 + g) 2) (Sc.1 2 13))) 0 (Sm.2.1 8 48 j2 - Sm.2.1 8 5 j3) else f_X12_whyNot_227 N Sm gI kp (Sc.1 (512 + g) 0) (Sc.1 (512 + g) 1) (Sc.1 (512 + g) 2) fw (encW (sWd Sc kw (Sc.1 (128 + p) 8) (Sc.1 (512 + g) 2) (Sc.1 2 13))) 0 0) := by
      intro kp
      unfold f_X12_whyNot_177
      rw [gA_nn (nn_l 0 (by decide)) (by decide), d1, eM, bV_s]
    rw [hst]
    unfold f_X10_startAct_39
    rw [eL, bV_s]
    simp only [h177]
    cases hs : sWd Sc kw (Sc.1 (128 + p) 8) (Sc.1 (512 + g) 2) (Sc.1 2 13) with
    | none =>
      have nw : ¬ ¬ encW none = -1 := fun y => y rfl
      have nc : ¬ ¬ encN none = -1 := fun y => y rfl
      refine ⟨0, 0, 999, ⟨_, rfl, ?_⟩, _, rfl, fun kp => ?_⟩
      · rw [if_neg nc]
        unfold f_X10_startAct_73
        rw [if_neg i10]
        unfold f_X10_startAct_94
        rw [if_neg i10]
        unfold f_X10_startAct_126
        rw [e_put (c := 2) (nn_l 99 (by decide)) (by decide), bS_s]
        have e148 : ∀ w : Int32, w = 0 → f_X10_startAct_148 N (yA Sc 4 2 (upd (Sc.2.1 4 2) 2 0)) (512 + g) (128 + p) (64 + l) fw (encN none) 1 119 w = f_X10_startAct_183 N (yA Sc 4 2 (upd (upd (Sc.2.1 4 2) 2 0) 22 0)) (512 + g) (128 + p) (64 + l) fw 97 999 := by
          intro w hw
          unfold f_X10_startAct_148
          rw [e_put (c := 22) (nn_l 119 (by decide)) (by decide), bS_s, if_neg i10, hw]
          simp only [yA_yA, yA_same]
        rw [e148 _ (by decide), e148 _ rfl, h183]
        by_cases z : fw = 0
        · rw [if_pos z]
        · rw [if_neg z]
      · rw [if_neg nw]
        unfold f_X12_whyNot_227
        rw [gA_nn (nn_l 0 (by decide)) (by decide), sq_s, if_neg nw]
        unfold f_X12_whyNot_270
        rw [gA_nn (nn_l 1 (by decide)) (by decide), sq_s, if_neg nw]
        simp only [yA_yA, yA_same]
        rw [h304]
    | some j =>
      have hj := sWd_lt hs
      have hk := hRW.2.1
      have nj := nn_lit j (by omega)
      have nw : nn (encW (some j)) (1465 + 7 * j) := nn_lit (1465 + 7 * j) (by omega)
      have hne : ¬ encW (some j) = -1 := fun e => nw.nneg (by rw [e]; decide)
      obtain ⟨_, z2, z3, z4, _⟩ := hRW.2.2.2.2 j hj
      refine ⟨Sc.2.1 3 3 j - Sc.1 (64 + l) 3, if fw = 0 then -(Sc.2.1 3 4 j) else Sc.2.1 3 4 j, Sc.1 2 13 - Sc.2.1 3 2 j, ⟨_, rfl, ?_⟩, _, rfl, fun kp => ?_⟩
      · rw [if_pos (encN_ne j (by omega)), show encN (some j) = Int32.ofNat j from rfl]
        unfold f_X10_startAct_73
        rw [if_pos rfl, gA_nn nj (by omega)]
        unfold f_X10_startAct_94
        rw [if_pos rfl, gA_nn nj (by omega)]
        unfold f_X10_startAct_126
        rw [e_put (c := 2) (nn_l 99 (by decide)) (by decide), bS_s]
        have e148 : ∀ w : Int32, f_X10_startAct_148 N (yA Sc 4 2 (upd (Sc.2.1 4 2) 2 (Sc.2.1 3 3 j - Sc.1 (64 + l) 3))) (512 + g) (128 + p) (64 + l) fw (Int32.ofNat j) 0 119 w = f_X10_startAct_183 N (yA Sc 4 2 (upd (upd (Sc.2.1 4 2) 2 (Sc.2.1 3 3 j - Sc.1 (64 + l) 3)) 22 w)) (512 + g) (128 + p) (64 + l) fw 97 (Sc.1 2 13 - Sc.2.1 3 2 j) := by
          intro w
          unfold f_X10_startAct_148
          rw [e_put (c := 22) (nn_l 119 (by decide)) (by decide), bS_s, if_pos rfl, gA_nn nj (by omega)]
          simp only [yA_yA, yA_same, yA_1]
          rw [yA_2n _ _ (by decide)]
        rw [e148, e148, h183, h183]
        by_cases z : fw = 0
        · rw [if_pos z, if_pos z]
        · rw [if_neg z, if_neg z]
      · rw [if_pos hne, gA_nn (nn_add nw (nn_l 2 (by decide)) (by omega)) (by omega), gA_nn l1 l12, r8, show 1465 + 7 * j + 2 = 1467 + 7 * j by omega, ← z3]
        unfold f_X12_whyNot_227
        rw [gA_nn (nn_l 0 (by decide)) (by decide), sq_s, if_pos hne]
        have e270 : ∀ w : Int32, f_X12_whyNot_270 N (yA Sm 8 56 (upd (Sm.2.1 8 56) 0 (Sc.2.1 3 3 j - Sc.1 (64 + l) 3))) gI kp (Sc.1 (512 + g) 0) (Sc.1 (512 + g) 1) (Sc.1 (512 + g) 2) fw (encW (some j)) 1 w = f_X12_whyNot_304 N (yA Sm 8 56 (upd (upd (Sm.2.1 8 56) 0 (Sc.2.1 3 3 j - Sc.1 (64 + l) 3)) 1 w)) gI kp (Sc.1 (512 + g) 0) (Sc.1 (512 + g) 1) (Sc.1 (512 + g) 2) fw 2 (Sc.1 2 13 - Sc.2.1 3 2 j) := by
          intro w
          unfold f_X12_whyNot_270
          rw [gA_nn (nn_l 1 (by decide)) (by decide), sq_s, if_pos hne]
          simp only [yA_yA, yA_same]
          rw [gA_nn (nn_l 0 (by decide)) (by decide), gA_nn (nn_add nw (nn_l 1 (by decide)) (by omega)) (by omega), w56, d1, show 1465 + 7 * j + 1 = 1466 + 7 * j by omega, ← z2]
        by_cases z : fw = 0
        · rw [if_pos z, gA_nn (nn_add nw (nn_l 3 (by decide)) (by omega)) (by omega), w56, show 1465 + 7 * j + 3 = 1468 + 7 * j by omega, ← z4, e270, h304, if_pos z]
        · rw [if_neg z, gA_nn (nn_add nw (nn_l 3 (by decide)) (by omega)) (by omega), w56, show 1465 + 7 * j + 3 = 1468 + 7 * j by omega, ← z4, e270, h304, if_neg z]
  obtain ⟨cv, wv, av, ⟨Y, hY, ec⟩, Z, hZ, em⟩ := hc
  have hLR : lRu (yA Sc 4 2 Y) (yA Sm 8 56 Z) := by
    intro t ht
    rw [yA_same, yA_same, hY, hZ]
    rcases (show t = 0 ∨ t = 1 ∨ t = 2 ∨ t = 3 ∨ t = 4 ∨ t = 5 ∨ t = 6 ∨ t = 7 ∨ t = 8 ∨ t = 9 by omega) with rfl | rfl | rfl | rfl | rfl | rfl | rfl | rfl | rfl | rfl
    · rfl
    · rfl
    · rfl
    · rfl
    · exact t01_b y2 y4
    · rfl
    · rfl
    · rfl
    · rfl
    · rfl
  obtain ⟨v, ln, Sc0, e1, e2, e3, e4, e5⟩ := rules_both (N := N) (kd := 0) (kI := 0) (oth := 87) (t := Sc.1 2 13) (Sc := yA Sc 4 2 Y) (Sm := yA Sm 8 56 Z) (by omega) (RR_congr t5 rfl rfl rfl rfl rfl rfl rfl rfl rfl rfl) (RK_congr t5' rfl rfl rfl rfl rfl rfl rfl) hLR (nn_l 0 (by decide)) (by decide) (by rw [yA_2n _ _ (by decide)]; exact d1) rfl
  have F1 : FR pI1 Sc Sc0 := FR_trans (FR_A _ _ _ _ ⟨Or.inl rfl, by decide⟩) (rF_pI e3)
  have h367 : ∀ X : yS, (if ¬ v = 71 then f_X12_whyNot_367 N X 7 else f_X12_whyNot_367 N X 0) = some (if v = 71 then 0 else 7, X) := by
    intro X
    unfold f_X12_whyNot_367
    by_cases z : v = 71
    · rw [if_neg (fun y => y z), if_pos z]
    · rw [if_pos z, if_neg z]
  refine ⟨v, Sc0, ?_, F1, ?_, ?_⟩
  · rw [ec]
    have : (bV (f_X8r_inForce N (yA Sc 4 2 Y) 0 (Sc.1 2 13)) fun w12 => bS (f_X8r_run N (yA Sc 4 2 Y) w12 87) fun w13 S7 => some (w13, S7)) = (bV (f_X8r_inForce N (yA Sc 4 2 Y) 0 (Sc.1 2 13)) fun w => f_X8r_run N (yA Sc 4 2 Y) w 87) := by
      congr 1
      funext w
      cases f_X8r_run N (yA Sc 4 2 Y) w 87 with
      | none => rfl
      | some x => rfl
    rw [this, e1]
  · obtain ⟨Sm', f1, f2⟩ := e4 gI
    refine ⟨Sm', ?_, FR_trans (FR_A _ _ _ _ ⟨rfl, by decide⟩) (pAc_pI f2)⟩
    rw [← hfw, em, f1, bS_s, h367]
  · obtain ⟨Sm', f1, f2⟩ := e5 g gI hgI g24
    have F2 : FR pI2 Sm Sm' := FR_trans (FR_A _ _ _ _ ⟨rfl, by decide⟩) (pAc_pI f2)
    have D1 : DY cK nf nl np nq nb ng Sc0 Sm' := DY_irr hD0 t7.2.2.1.2.1 F1 F2
    have Q1 : QF cK Sc Sm Sc0 Sm' := ⟨FR_mono F1 (fun o k z => by have z1 := z.1; have z2 := z.2; unfold pQC; omega), FR_mono F2 (fun o k z => ⟨z.1, by have := z.2; omega⟩), fun i _ _ => by rw [(F2 8 48 (fun y => by have := y.2; omega)).2]⟩
    have w' : Sm'.2.1 8 48 = Sm.2.1 8 48 := (F2 8 48 (fun y => by have := y.2; omega)).2
    have T1 := ST_QF hT0 Q1
    refine ⟨yA Sm' 8 48 (upd (Sm'.2.1 8 48) (1345 + 5 * g + 3) (Sc0.1 4 1)), ?_, ?_, ?_⟩
    · rw [← hfw, em, f1, bS_s, h367, yA_2n _ _ (by decide), w', ← e2]
    · exact DY_any D1 T1.2.2.2.2.2.2.1 T1.2.1.2.1 (Or.inr (Or.inr ⟨g, 3, hg, rfl, by decide, by decide, rfl, rfl⟩))
    · exact QF_trans Q1 ⟨FR_I _ _ _ _ (by unfold pQC; omega), FR_A _ _ _ _ ⟨rfl, Or.inr (Or.inl rfl)⟩, fun i a b => by rw [yA_same, upd_o _ _ (by omega)]⟩
