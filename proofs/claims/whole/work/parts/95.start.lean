/-! A PLANE STARTS -/
theorem pBgs_QC {o k : Nat} (h : pBgs o k) : pQC o k := by
  obtain ⟨a, b, c, d⟩ := h
  unfold pQC
  omega
theorem pSt_QC {p q g o k : Nat} (hp : p < 8) (hq : q < 8) (hg : g < 24) (h : pSt p q g o k) : pQC o k := by
  unfold pQC
  rcases h with ⟨a, b | b | b⟩ | ⟨a, b | b⟩ | ⟨a, b⟩ <;> omega
theorem start_both {cK : Nat → Nat} {N nf nl np nq nb ng g p q l fi : Nat} {Sc Sm : yS} {gI : Int32} (hT : ST cK nf nl np nq nb ng Sc Sm) (hD : DY cK nf nl np nq nb ng Sc Sm) (hN : 120 < N) (hg : g < ng) (hgI : nn gI g) (p1 : nn (Sc.1 (512 + g) 0) p) (p2 : p < np) (q1 : nn (Sc.1 (512 + g) 1) q) (q2 : q < nq) (l1 : nn (Sc.1 (512 + g) 2) l) (l2 : l < nl) (f1 : nn (Sc.1 (128 + p) 8) fi) (f2 : fi < nf) (hen : Sc.1 (128 + p) 8 = Sc.1 (64 + l) 0 ∨ Sc.1 (128 + p) 8 = Sc.1 (64 + l) 1) (hst : Sc.1 (512 + g) 4 = 0) : ∃ Sc' Sm', f_X10_start N Sc gI = some (0, Sc') ∧ f_X12_start N Sm gI = some (0, Sm') ∧ DY cK nf nl np nq nb ng Sc' Sm' ∧ QF cK Sc Sm Sc' Sm' := by
  have hD0 := hD
  have hbs := RBs_of hT hD
  obtain ⟨d1, d2, d3, ⟨kw, hRW⟩, d5, d6, d7, d8, d9⟩ := hD
  obtain ⟨t1, t2, ⟨t3, t3'⟩, t4, t5, t6, t7, t8, t9, t10, t11, ⟨o, o1, o2, o3⟩, t13, t14⟩ := hT
  have g24 : g < 24 := by have := t7.2.2.2.2.1; omega
  have ng24 : ng ≤ 24 := t7.2.2.2.2.1
  have np8 : p < 8 := by have := t7.1.2.1; omega
  have npb : np ≤ 8 := t7.1.2.1
  have nqb : nq ≤ 8 := t7.2.1.2.1
  have l12 : l < 12 := by have := t2.2.1; omega
  have nl12 : nl ≤ 12 := t2.2.1
  have q8 : q < 8 := by omega
  have nb30 : nb ≤ 30 := t7.2.2.1.2.1
  have nf8 : nf ≤ 8 := t1.2.1
  have f8 : fi < 8 := by omega
  obtain ⟨e0, e1, e2, e3, e4, _, _, _, _⟩ := t11 g hg
  obtain ⟨k, hR⟩ := t2.2.2.2.1 l l2
  obtain ⟨r1, ⟨ra, ra1, ra2⟩, ⟨rb, rb1, rb2⟩, ⟨m, m1, m2, m3⟩, r5, r6, r7, r8, r9, r10, r11, r12⟩ := hR
  have u : ∀ j kk, j < 12 → pS j = kk → Sm.2.1 8 48 (19 + 23 * p + j) = Sc.1 (128 + p) kk := fun j kk hj hk => by rw [← hk]; exact d5 p p2 j hj
  obtain ⟨x1, x2, x3, x4, x5, x6, x7, x8⟩ := t8 p p2
  obtain ⟨i1, i2, i3, i4, i5, i6⟩ := d9 p p2
  have g12 : Sc.1 (128 + p) 12 = 0 := by
    rcases i4 with ⟨_, z⟩ | ⟨z, _⟩
    · exact z
    · exact absurd f1.nneg (by rw [z]; decide)
  have hcf : cK fi = cK (128 + p) := by
    rcases i4 with ⟨⟨f', z1, _, z2⟩, _⟩ | ⟨z, _⟩
    · rw [nn_inj f1 z1]; exact z2
    · exact absurd f1.nneg (by rw [z]; decide)
  have hclk : cK (64 + l) = cK (128 + p) := by
    rw [← t3'.1 l l2 fi (by rcases hen with z | z <;> rw [← z] <;> first | exact Or.inl f1 | exact Or.inr f1)]
    exact hcf
  -- the goal and the room
  have hgo : ∃ x, nn (if Sc.1 (128 + p) 8 = Sc.1 (64 + l) 0 then Sc.1 (64 + l) 1 else Sc.1 (64 + l) 0) x ∧ x < 8 := by
    by_cases z : Sc.1 (128 + p) 8 = Sc.1 (64 + l) 0
    · rw [if_pos z]; exact ⟨rb, rb1, rb2⟩
    · rw [if_neg z]; exact ⟨ra, ra1, ra2⟩
  obtain ⟨x, hx, hx8⟩ := hgo
  -- what the model writes first
  generalize hMW : mSt (Sm.2.1 8 48) p q g (Sm.2.1 8 48 0) (Sc.1 (128 + p) 8) (b01 (Sc.1 (128 + p) 8 = Sm.2.1 8 2 l)) (Sc.1 (512 + g) 2) (if Sc.1 (128 + p) 8 = Sm.2.1 8 2 l then 0 else Sm.2.1 8 4 l) (Sm.2.1 8 19 p) (Sc.1 (512 + g) 1) gI (Sc.1 (512 + g) 0) = MW
  have wo : ∀ i, (i < 19 ∨ (235 ≤ i ∧ i < 1345) ∨ 1465 ≤ i) → MW i = Sm.2.1 8 48 i := by
    intro i hi
    rw [← hMW]
    exact mSt_o _ _ _ _ _ _ _ _ _ _ (by omega) (by omega) (by omega) (by omega) (by omega) (by omega) (by omega) (by omega) (by omega) (by omega) (by omega) (by omega)
  have hTK : TKs cK nf nb l m o cK Sc (yA Sm 8 48 MW) := by
    refine ⟨RBs_fr hbs ⟨rfl, rfl, rfl⟩ (fun _ _ => rfl) ⟨rfl, yA_2n _ _ (by decide), ?_⟩, o1, o2, o3, fun b hb => ?_, ?_, m1, m2, m3, ?_, nf8, l12⟩
    · rw [yA_same]; exact wo 0 (by omega)
    · rw [yA_2n _ _ (by decide), yA_2n _ _ (by decide), yA_2n _ _ (by decide)]
      obtain ⟨_, _, _, w25, w26, w27, _⟩ := t10 b hb
      exact ⟨w25, w26, w27⟩
    · rw [yA_2n _ _ (by decide)]; exact t3
    · rw [yA_2n _ _ (by decide)]; exact r7
  have hRB : RBd cK nf nb Sc (yA Sm 8 48 MW) := RBd_fr d7 nb30 (fun _ _ _ => ⟨rfl, rfl⟩) (fun i a b => by rw [yA_same]; exact wo i (by omega))
  obtain ⟨S1, M1, v1, v2, v3, v4, v5⟩ := take_loop (N := N) (nf := nf) (nb := nb) (l := l) (m := m) (x := x) (a := fi) (pO := 128 + p) (o := o) (c := cK) (pI := Sc.1 (512 + g) 0) (lI := Sc.1 (512 + g) 2) (by omega) l1 hx hx8 f1 f8 (by omega) p1 ((t3'.2.2 p np8).mpr p2) hcf nb 0 N N 0 (cry Sc p l fi) Sc (yA Sm 8 48 MW) (by omega) (by omega) (by omega) hTK hRB rfl (fun k _ z => by rw [tb_zero] at z; exact absurd z (by decide)) (fun j hj => by omega)
  have cB : ∀ o k, (o < 384 ∨ 414 ≤ o ∨ k < 5) → S1.1 o k = Sc.1 o k ∧ S1.2.1 o k = Sc.2.1 o k := fun o k w => v4 o k (fun z => by unfold pBgs at z; omega)
  -- the class
  have hcl : f_X10_start N Sc gI = some (0, cSt S1 p q g (S1.1 2 13) (Sc.1 (128 + p) 8) (b01 (S1.1 (128 + p) 8 = S1.1 (64 + l) 0)) (S1.1 (512 + g) 2) (if S1.1 (128 + p) 8 = S1.1 (64 + l) 0 then 0 else S1.1 (64 + l) 2) (S1.1 (128 + p) 3) (S1.1 (512 + g) 1) gI (S1.1 (512 + g) 0)) := by
    unfold f_X10_start f_X10_start_0
    rw [gR_nn hgI g24 e0, gR_nn p1 np8 x1, gR_nn q1 q8 (t9 q q2), gR_nn l1 l12 r1]
    have tk : f_X10_takeBags N Sc (Sc.1 (512 + g) 0) (64 + l) = some (0, S1) := by
      unfold f_X10_takeBags f_X10_takeBags_0
      rw [gR_nn p1 np8 x1]
      have t24 : ∀ t1 v, f_X3_goal N Sc (64 + l) t1 = some v → f_X10_takeBags_24 N Sc (Sc.1 (512 + g) 0) (64 + l) (128 + p) (64 + l) t1 = f_X10_takeBags_40 N N Sc (Sc.1 (512 + g) 0) (64 + l) (128 + p) v (cry Sc p l fi) 0 := by
        intro t1 v hv
        unfold f_X10_takeBags_24
        rw [hv, bV_s, e_carry f1 f8, bV_s]
      by_cases z : Sc.1 (128 + p) 8 = Sc.1 (64 + l) 0
      · rw [if_pos z] at v1
        rw [if_neg (fun w => w z), t24 1 (Sc.1 (64 + l) 1) rfl]
        exact v1
      · rw [if_neg z] at v1
        rw [if_pos z, t24 0 (Sc.1 (64 + l) 0) rfl]
        exact v1
    rw [tk, bS_s]
    exact e_wr np8 q8 g24 l12
  rw [(cB 2 13 (by omega)).1, (cB (128 + p) 8 (by omega)).1, (cB (64 + l) 0 (by omega)).1, (cB (512 + g) 2 (by omega)).1, (cB (64 + l) 2 (by omega)).1, (cB (128 + p) 3 (by omega)).1, (cB (512 + g) 1 (by omega)).1, (cB (512 + g) 0 (by omega)).1] at hcl
  -- the model
  have hml : f_X12_start N Sm gI = some (0, M1) := by
    unfold f_X12_start f_X12_start_0
    rw [gA_nn hgI g24, gA_nn hgI g24, gA_nn hgI g24, e1, e2, e3, em_planeR p1 np8 (nn_l 0 (by decide)) (by decide), bV_s, u 0 8 (by decide) rfl, em_carry p1 np8 l1 l12 f1 f8 x3 x4 (t1.2.2.2 fi f8).1.symm r8 (u 5 5 (by decide) rfl), bV_s, gA_nn l1 l12, r5]
    by_cases z : Sc.1 (128 + p) 8 = Sc.1 (64 + l) 0
    · rw [if_neg (fun w => w z), gA_nn l1 l12, r6, em_wr np8 q8 g24 l12 hgI p1 q1 l1, hMW]
      rw [if_pos z] at v2
      exact v2
    · rw [if_pos z, gA_nn l1 l12, r5, em_wr np8 q8 g24 l12 hgI p1 q1 l1, hMW]
      rw [if_neg z] at v2
      exact v2
  refine ⟨_, _, hcl, hml, ?_, ?_⟩
  · obtain ⟨⟨a8, a9, a10, a11, a15, a16, a17⟩, ⟨b4, b5, b7⟩, c0, c1⟩ := cSt_v np8 q8 g24 S1 (Sc.1 2 13) (Sc.1 (128 + p) 8) (b01 (Sc.1 (128 + p) 8 = Sc.1 (64 + l) 0)) (Sc.1 (512 + g) 2) (if Sc.1 (128 + p) 8 = Sc.1 (64 + l) 0 then 0 else Sc.1 (64 + l) 2) (Sc.1 (128 + p) 3) (Sc.1 (512 + g) 1) gI (Sc.1 (512 + g) 0)
    have fo := cSt_o S1 p q g (Sc.1 2 13) (Sc.1 (128 + p) 8) (b01 (Sc.1 (128 + p) 8 = Sc.1 (64 + l) 0)) (Sc.1 (512 + g) 2) (if Sc.1 (128 + p) 8 = Sc.1 (64 + l) 0 then 0 else Sc.1 (64 + l) 2) (Sc.1 (128 + p) 3) (Sc.1 (512 + g) 1) gI (Sc.1 (512 + g) 0)
    obtain ⟨⟨w1, w2⟩, ⟨y0, y1, y2, y10, y8, y11, y12, y13⟩, z0, z1⟩ := mSt_v np8 q8 g24 (Sm.2.1 8 48) (Sm.2.1 8 48 0) (Sc.1 (128 + p) 8) (b01 (Sc.1 (128 + p) 8 = Sm.2.1 8 2 l)) (Sc.1 (512 + g) 2) (if Sc.1 (128 + p) 8 = Sm.2.1 8 2 l then 0 else Sm.2.1 8 4 l) (Sm.2.1 8 19 p) (Sc.1 (512 + g) 1) gI (Sc.1 (512 + g) 0)
    have wX : ∀ i, i ≠ 1345 + 5 * g + 0 → i ≠ 1345 + 5 * g + 1 → i ≠ 19 + 23 * p + 0 → i ≠ 19 + 23 * p + 1 → i ≠ 19 + 23 * p + 2 → i ≠ 19 + 23 * p + 10 → i ≠ 19 + 23 * p + 8 → i ≠ 19 + 23 * p + 11 → i ≠ 19 + 23 * p + 12 → i ≠ 19 + 23 * p + 13 → i ≠ 203 + 4 * q + 0 → i ≠ 203 + 4 * q + 1 → MW i = Sm.2.1 8 48 i := by
      rw [← hMW]
      exact fun i => mSt_o _ _ _ _ _ _ _ _ _ _
    rw [hMW] at w1 w2 y0 y1 y2 y10 y8 y11 y12 y13 z0 z1
    rw [r5] at y2 y10
    rw [r7] at y2
    rw [x5] at y8
    rw [d1] at w2
    generalize cSt S1 p q g (Sc.1 2 13) (Sc.1 (128 + p) 8) (b01 (Sc.1 (128 + p) 8 = Sc.1 (64 + l) 0)) (Sc.1 (512 + g) 2) (if Sc.1 (128 + p) 8 = Sc.1 (64 + l) 0 then 0 else Sc.1 (64 + l) 2) (Sc.1 (128 + p) 3) (Sc.1 (512 + g) 1) gI (Sc.1 (512 + g) 0) = SF at a8 a9 a10 a11 a15 a16 a17 b4 b5 b7 c0 c1 fo ⊢
    have cF : ∀ o k, (o < 384 ∨ 414 ≤ o ∨ k < 5) → ¬ pSt p q g o k → SF.1 o k = Sc.1 o k ∧ SF.2.1 o k = Sc.2.1 o k := fun o k w n => ⟨((fo o k n).1).trans (cB o k w).1, ((fo o k n).2).trans (cB o k w).2⟩
    have cN : ∀ o k, (o < 128 ∨ (o ≠ 128 + p ∧ o ≠ 256 + q ∧ o ≠ 512 + g ∧ (o < 384 ∨ 414 ≤ o))) → SF.1 o k = Sc.1 o k ∧ SF.2.1 o k = Sc.2.1 o k := fun o k w => cF o k (by omega) (fun z => by unfold pSt at z; omega)
    have M0 : ∀ i, (i < 235 ∨ 1345 ≤ i) → M1.2.1 8 48 i = MW i := fun i hi => by rw [v5.2 i hi, yA_same]
    refine DY_one (p := p) hD0 ?_ ?_ ?_ ⟨kw, ?_⟩ ?_ ?_ ?_ ?_ ?_ ?_ ?_ ?_ ?_
    · rw [M0 0 (by omega), wo 0 (by omega), (cN 2 13 (by omega)).1]; exact d1
    · rw [M0 1 (by omega), wo 1 (by omega), (cN 2 14 (by omega)).1]; exact d2
    · rw [(cN 2 13 (by omega)).1]; exact d3
    · exact RWk_congr hRW (cN 3 0 (by omega)).1 (cN 3 1 (by omega)).1 (wF_1 v5 8 (by decide)) (funext fun k => (cN 3 k (by omega)).2) (by rw [M0 2 (by omega), wo 2 (by omega)]) (fun i a b => by rw [M0 i (by omega), wo i (by omega)])
    · intro p' hp' hn
      exact ⟨fun k => (cN (128 + p') k (by omega)).1, (cN (128 + p') 19 (by omega)).2⟩
    · intro p' hp' hn j hj
      rw [M0 _ (by omega)]
      exact wX _ (by omega) (by omega) (by omega) (by omega) (by omega) (by omega) (by omega) (by omega) (by omega) (by omega) (by omega) (by omega)
    · intro j hj
      rw [M0 _ (by omega)]
      have kp : ∀ j kk, j < 12 → pS j = kk → j ≠ 0 → j ≠ 1 → j ≠ 2 → j ≠ 10 → j ≠ 8 → j ≠ 11 → ¬ pSt p q g (128 + p) kk → MW (19 + 23 * p + j) = SF.1 (128 + p) kk := by
        intro j kk h1 h2 n0 n1 n2 n10 n8 n11 hn
        rw [wX _ (by omega) (by omega) (by omega) (by omega) (by omega) (by omega) (by omega) (by omega) (by omega) (by omega) (by omega) (by omega), (cF (128 + p) kk (by omega) hn).1]
        exact u j kk h1 h2
      rcases (show j = 0 ∨ j = 1 ∨ j = 2 ∨ j = 3 ∨ j = 4 ∨ j = 5 ∨ j = 6 ∨ j = 7 ∨ j = 8 ∨ j = 9 ∨ j = 10 ∨ j = 11 by omega) with rfl | rfl | rfl | rfl | rfl | rfl | rfl | rfl | rfl | rfl | rfl | rfl
      · exact y0.trans a8.symm
      · exact y1.trans a9.symm
      · exact y2.trans a10.symm
      · exact kp 3 12 (by decide) rfl (by decide) (by decide) (by decide) (by decide) (by decide) (by decide) (by unfold pSt; omega)
      · exact kp 4 13 (by decide) rfl (by decide) (by decide) (by decide) (by decide) (by decide) (by decide) (by unfold pSt; omega)
      · exact kp 5 5 (by decide) rfl (by decide) (by decide) (by decide) (by decide) (by decide) (by decide) (by unfold pSt; omega)
      · exact kp 6 6 (by decide) rfl (by decide) (by decide) (by decide) (by decide) (by decide) (by decide) (by unfold pSt; omega)
      · exact kp 7 7 (by decide) rfl (by decide) (by decide) (by decide) (by decide) (by decide) (by decide) (by unfold pSt; omega)
      · exact y8.trans a15.symm
      · exact kp 9 14 (by decide) rfl (by decide) (by decide) (by decide) (by decide) (by decide) (by decide) (by unfold pSt; omega)
      · exact y10.trans a11.symm
      · exact y11.trans a16.symm
    · have s : ∀ k, ¬ pSt p q g (128 + p) k → SF.1 (128 + p) k = Sc.1 (128 + p) k := fun k hn => (cF (128 + p) k (by omega) hn).1
      have s12 := s 12 (by unfold pSt; omega)
      refine ⟨by rw [s 13 (by unfold pSt; omega)]; exact i1, by rw [s 7 (by unfold pSt; omega)]; exact i2, by rw [a11]; exact b01_r, Or.inr ⟨a8, Or.inl (s12.trans g12), ⟨l, ?_⟩, ⟨q, by rw [a16]; exact q1, q2⟩, g, by rw [a17]; exact hgI, hg, by rw [b4]; decide, ?_, ?_, ?_, ?_⟩, fun _ => by rw [s 18 (by unfold pSt; omega)]; exact i5 g12, fun z => ?_⟩
      · by_cases z : Sc.1 (128 + p) 8 = Sc.1 (64 + l) 0
        · refine ⟨0, m, by rw [a9]; exact l1, l2, ?_, by rw [(cN (64 + l) 2 (by omega)).1]; exact m1, by omega, hclk⟩
          rw [a10, if_pos z]
          exact nn_l 0 (by decide)
        · refine ⟨m, m, by rw [a9]; exact l1, l2, ?_, by rw [(cN (64 + l) 2 (by omega)).1]; exact m1, Nat.le_refl _, hclk⟩
          rw [a10, if_neg z]
          exact m1
      · rw [M0 _ (by omega), a17]; exact y12
      · rw [M0 _ (by omega), b7]; exact y13
      · rw [a16]; exact (cF (512 + g) 1 (by omega) (by unfold pSt; omega)).1
      · rw [a9]; exact (cF (512 + g) 2 (by omega) (by unfold pSt; omega)).1
      · rw [s12, g12] at z
        exact absurd z (by decide)
    · intro q' hq' j hj
      rw [M0 _ (by omega)]
      by_cases e : q' = q
      · subst e
        rcases (show j = 0 ∨ j = 1 ∨ j = 2 ∨ j = 3 by omega) with rfl | rfl | rfl | rfl
        · exact z0.trans c0.symm
        · exact z1.trans c1.symm
        · rw [wX _ (by omega) (by omega) (by omega) (by omega) (by omega) (by omega) (by omega) (by omega) (by omega) (by omega) (by omega) (by omega), (cF (256 + q') 2 (by omega) (by unfold pSt; omega)).1]; exact d6 q' hq' 2 (by decide)
        · rw [wX _ (by omega) (by omega) (by omega) (by omega) (by omega) (by omega) (by omega) (by omega) (by omega) (by omega) (by omega) (by omega), (cF (256 + q') 3 (by omega) (by unfold pSt; omega)).1]; exact d6 q' hq' 3 (by decide)
      · rw [wX _ (by omega) (by omega) (by omega) (by omega) (by omega) (by omega) (by omega) (by omega) (by omega) (by omega) (by omega) (by omega), (cN (256 + q') j (by omega)).1]
        exact d6 q' hq' j hj
    · exact RBd_fr v3 nb30 (fun b hb k => fo (384 + b) k (fun z => by unfold pSt at z; omega)) (fun i a b => rfl)
    · intro g' hg' j hj
      rw [M0 _ (by omega)]
      by_cases e : g' = g
      · subst e
        rcases (show j = 0 ∨ j = 1 ∨ j = 2 ∨ j = 3 ∨ j = 4 by omega) with rfl | rfl | rfl | rfl | rfl
        · exact w1.trans b4.symm
        · exact w2.trans b5.symm
        · rw [wX _ (by omega) (by omega) (by omega) (by omega) (by omega) (by omega) (by omega) (by omega) (by omega) (by omega) (by omega) (by omega)]
          exact (d8 g' hg' 2 (by decide)).trans (cF (512 + g') 6 (by omega) (by unfold pSt; omega)).1.symm
        · rw [wX _ (by omega) (by omega) (by omega) (by omega) (by omega) (by omega) (by omega) (by omega) (by omega) (by omega) (by omega) (by omega)]
          exact (d8 g' hg' 3 (by decide)).trans (cF (512 + g') 8 (by omega) (by unfold pSt; omega)).1.symm
        · rw [wX _ (by omega) (by omega) (by omega) (by omega) (by omega) (by omega) (by omega) (by omega) (by omega) (by omega) (by omega) (by omega)]
          exact (d8 g' hg' 4 (by decide)).trans (cF (512 + g') 9 (by omega) (by unfold pSt; omega)).1.symm
      · rw [wX _ (by omega) (by omega) (by omega) (by omega) (by omega) (by omega) (by omega) (by omega) (by omega) (by omega) (by omega) (by omega), (cN (512 + g') _ (by omega)).1]
        exact d8 g' hg' j hj
    · intro l' hl'
      exact (cN (64 + l') 2 (by omega)).1
    · intro g' hg' hne
      have e : g' ≠ g := fun z => by rw [z] at hne; exact hne hst
      rw [(cN (512 + g') 7 (by omega)).1, (cN (512 + g') 4 (by omega)).1, (cN (512 + g') 1 (by omega)).1, (cN (512 + g') 2 (by omega)).1]
      exact ⟨rfl, hne, rfl, rfl⟩
  · refine ⟨FR_trans (FR_mono v4 (fun o k z => pBgs_QC z)) (FR_mono (cSt_o _ _ _ _ _ _ _ _ _ _ _ _ _) (fun o k z => pSt_QC np8 q8 g24 z)), FR_trans (FR_A _ _ _ _ ⟨rfl, Or.inr (Or.inl rfl)⟩) (FR_mono v5.1 (fun o k z => ⟨z.1, Or.inr (Or.inl z.2)⟩)), fun i a b => ?_⟩
    rw [v5.2 i (by omega), yA_same]
    exact wo i (by omega)
