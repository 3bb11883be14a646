/-! FIND -/
theorem pUn_out {p q o k : Nat} (h1 : o ≠ 128 + p) (h2 : o ≠ 256 + q) (h3 : o < 384 ∨ 414 ≤ o ∨ k < 5 ∨ 10 < k) : ¬ pUn p q o k := by
  rintro (⟨a, b, c, d⟩ | ⟨a, _⟩ | ⟨a, _⟩) <;> omega
theorem pUn_pl {p q k : Nat} (hp : p < 8) (hq : q < 8) (h : k ≠ 8 ∧ k ≠ 9 ∧ k ≠ 10 ∧ k ≠ 12 ∧ k ≠ 15 ∧ k ≠ 16) : ¬ pUn p q (128 + p) k := by
  rintro (⟨a, b, c, d⟩ | ⟨a, _⟩ | ⟨a, _⟩) <;> omega
theorem pUn_pi {p q k : Nat} (hp : p < 8) (hq : q < 8) (h : 2 ≤ k) : ¬ pUn p q (256 + q) k := by
  rintro (⟨a, b, c, d⟩ | ⟨a, _⟩ | ⟨a, _⟩) <;> omega
theorem pUn_QW {p q o k : Nat} (hp : p < 8) (hq : q < 8) (h : pUn p q o k) : pQW o k := by
  unfold pQW pQC
  rcases h with ⟨a, b, c, d⟩ | ⟨a, _⟩ | ⟨a, _⟩ <;> omega
theorem find_DY {cK : Nat → Nat} {nf nl np nq nb ng p q fi : Nat} {Sc Sm SD MB : yS} {f : Int32} (hT1 : ST cK nf nl np nq nb ng Sc Sm) (hD1 : DY cK nf nl np nq nb ng Sc Sm) (p2 : p < np) (q2 : q < nq) (hf : nn f fi) (hfi : fi < nf) (hcf : cK fi = cK (128 + p)) (v3 : RBd cK nf nb SD MB) (v4 : FR (pUn p q) (yI Sc (128 + p) 18 0) SD) (v5 : SD.1 (128 + p) 8 = f ∧ SD.1 (128 + p) 9 = -1 ∧ SD.1 (128 + p) 10 = -1 ∧ SD.1 (128 + p) 12 = 0 ∧ SD.1 (128 + p) 15 = 0 ∧ SD.1 (128 + p) 16 = -1 ∧ SD.1 (256 + q) 0 = f ∧ SD.1 (256 + q) 1 = -1) (v6 : FR (fun o k => o = 8 ∧ k = 48) Sm MB) (v7 : MB.2.1 8 48 (19 + 23 * p + 0) = f ∧ MB.2.1 8 48 (19 + 23 * p + 1) = -1 ∧ MB.2.1 8 48 (19 + 23 * p + 2) = -1 ∧ MB.2.1 8 48 (19 + 23 * p + 3) = 0 ∧ MB.2.1 8 48 (19 + 23 * p + 8) = 0 ∧ MB.2.1 8 48 (19 + 23 * p + 11) = -1 ∧ MB.2.1 8 48 (203 + 4 * q + 0) = f ∧ MB.2.1 8 48 (203 + 4 * q + 1) = -1) (w : ∀ i, (i < 235 ∨ 1345 ≤ i) → i ≠ 19 + 23 * p + 0 → i ≠ 19 + 23 * p + 1 → i ≠ 19 + 23 * p + 2 → i ≠ 19 + 23 * p + 3 → i ≠ 19 + 23 * p + 8 → i ≠ 19 + 23 * p + 11 → i ≠ 19 + 23 * p + 12 → i ≠ 203 + 4 * q + 0 → i ≠ 203 + 4 * q + 1 → MB.2.1 8 48 i = Sm.2.1 8 48 i) : DY cK nf nl np nq nb ng SD MB := by
  obtain ⟨d1, d2, d3, ⟨kw, d4⟩, d5, d6, d7, d8, d9⟩ := id hD1
  obtain ⟨i1, i2, i3, _, _, _⟩ := d9 p p2
  have np8 : np ≤ 8 := hT1.2.2.2.2.2.2.1.1.2.1
  have nq8 : nq ≤ 8 := hT1.2.2.2.2.2.2.1.2.1.2.1
  have ng24 : ng ≤ 24 := hT1.2.2.2.2.2.2.1.2.2.2.2.1
  have nl12 : nl ≤ 12 := hT1.2.1.2.1
  have p8 : p < 8 := by omega
  have q8 : q < 8 := by omega
  clear hT1
  have u : ∀ j q, j < 12 → pS j = q → Sm.2.1 8 48 (19 + 23 * p + j) = Sc.1 (128 + p) q := fun j q hj hk => by rw [← hk]; exact d5 p p2 j hj
  obtain ⟨f1, f2, f3, f4, f5, f6, f7, f8⟩ := v5
  obtain ⟨h1, h2, h3, h4, h5, h6, h7, h8⟩ := v7
  have c1 : ∀ o k, (o ≠ 128 + p ∨ k ≠ 18) → (yI Sc (128 + p) 18 0).1 o k = Sc.1 o k := fun o k h => yI_1n _ _ (by omega)
  have cD : ∀ o k, o ≠ 128 + p → o ≠ 256 + q → (o < 384 ∨ 414 ≤ o ∨ k < 5 ∨ 10 < k) → SD.1 o k = Sc.1 o k ∧ SD.2.1 o k = Sc.2.1 o k := fun o k x y z => by
    have e := v4 o k (pUn_out x y z)
    exact ⟨e.1.trans (c1 o k (Or.inl x)), e.2⟩
  have cP : ∀ k, k ≠ 8 → k ≠ 9 → k ≠ 10 → k ≠ 12 → k ≠ 15 → k ≠ 16 → k ≠ 18 → SD.1 (128 + p) k = Sc.1 (128 + p) k := fun k b1 b2 b3 b4 b5 b6 b7 => (v4 _ k (pUn_pl p8 q8 ⟨b1, b2, b3, b4, b5, b6⟩)).1.trans (c1 _ k (Or.inr b7))
  have c18 : SD.1 (128 + p) 18 = 0 := (v4 _ 18 (pUn_pl p8 q8 (by decide))).1.trans (yI_1s _ _ _ _)
  have cQ : ∀ k, 2 ≤ k → SD.1 (256 + q) k = Sc.1 (256 + q) k := fun k b => (v4 _ k (pUn_pi p8 q8 b)).1.trans (c1 _ k (by omega))
  refine DY_one (p := p) hD1 ?_ ?_ ?_ ⟨kw, ?_⟩ ?_ ?_ ?_ ?_ ?_ ?_ ?_ ?_ ?_
  · rw [w 0 (by omega) (by omega) (by omega) (by omega) (by omega) (by omega) (by omega) (by omega) (by omega) (by omega), (cD 2 13 (by omega) (by omega) (by omega)).1]; exact d1
  · rw [w 1 (by omega) (by omega) (by omega) (by omega) (by omega) (by omega) (by omega) (by omega) (by omega) (by omega), (cD 2 14 (by omega) (by omega) (by omega)).1]; exact d2
  · rw [(cD 2 13 (by omega) (by omega) (by omega)).1]; exact d3
  · exact RWk_congr d4 (cD 3 0 (by omega) (by omega) (by omega)).1 (cD 3 1 (by omega) (by omega) (by omega)).1 (v6 8 34 (fun z => by omega)).1 (funext fun k => (cD 3 k (by omega) (by omega) (by omega)).2) (w 2 (by omega) (by omega) (by omega) (by omega) (by omega) (by omega) (by omega) (by omega) (by omega) (by omega)) (fun i x y => w i (by omega) (by omega) (by omega) (by omega) (by omega) (by omega) (by omega) (by omega) (by omega) (by omega))
  · intro p' hp' hne
    have : p' < 8 := by omega
    exact ⟨fun k => (cD _ k (by omega) (by omega) (by omega)).1, (cD _ 19 (by omega) (by omega) (by omega)).2⟩
  · intro p' hp' hne j hj
    have : p' < 8 := by omega
    exact w _ (by omega) (by omega) (by omega) (by omega) (by omega) (by omega) (by omega) (by omega) (by omega) (by omega)
  · intro j hj
    have ws : j ≠ 0 → j ≠ 1 → j ≠ 2 → j ≠ 3 → j ≠ 8 → j ≠ 11 → MB.2.1 8 48 (19 + 23 * p + j) = (yI Sm 8 47 0).2.1 8 48 (19 + 23 * p + j) := fun b0 b1 b2 b3 b4 b5 => w _ (by omega) (by omega) (by omega) (by omega) (by omega) (by omega) (by omega) (by omega) (by omega) (by omega)
    rcases (show j = 0 ∨ j = 1 ∨ j = 2 ∨ j = 3 ∨ j = 4 ∨ j = 5 ∨ j = 6 ∨ j = 7 ∨ j = 8 ∨ j = 9 ∨ j = 10 ∨ j = 11 by omega) with rfl | rfl | rfl | rfl | rfl | rfl | rfl | rfl | rfl | rfl | rfl | rfl
    · exact h1.trans f1.symm
    · exact h2.trans f2.symm
    · exact h3.trans f3.symm
    · exact h4.trans f4.symm
    · rw [ws (by decide) (by decide) (by decide) (by decide) (by decide) (by decide)]; exact (u 4 13 (by decide) rfl).trans (cP 13 (by decide) (by decide) (by decide) (by decide) (by decide) (by decide) (by decide)).symm
    · rw [ws (by decide) (by decide) (by decide) (by decide) (by decide) (by decide)]; exact (u 5 5 (by decide) rfl).trans (cP 5 (by decide) (by decide) (by decide) (by decide) (by decide) (by decide) (by decide)).symm
    · rw [ws (by decide) (by decide) (by decide) (by decide) (by decide) (by decide)]; exact (u 6 6 (by decide) rfl).trans (cP 6 (by decide) (by decide) (by decide) (by decide) (by decide) (by decide) (by decide)).symm
    · rw [ws (by decide) (by decide) (by decide) (by decide) (by decide) (by decide)]; exact (u 7 7 (by decide) rfl).trans (cP 7 (by decide) (by decide) (by decide) (by decide) (by decide) (by decide) (by decide)).symm
    · exact h5.trans f5.symm
    · rw [ws (by decide) (by decide) (by decide) (by decide) (by decide) (by decide)]; exact (u 9 14 (by decide) rfl).trans (cP 14 (by decide) (by decide) (by decide) (by decide) (by decide) (by decide) (by decide)).symm
    · rw [ws (by decide) (by decide) (by decide) (by decide) (by decide) (by decide)]; exact (u 10 11 (by decide) rfl).trans (cP 11 (by decide) (by decide) (by decide) (by decide) (by decide) (by decide) (by decide)).symm
    · exact h6.trans f6.symm
  · refine ⟨by rw [cP 13 (by decide) (by decide) (by decide) (by decide) (by decide) (by decide) (by decide)]; exact i1, by rw [cP 7 (by decide) (by decide) (by decide) (by decide) (by decide) (by decide) (by decide)]; exact i2, by rw [cP 11 (by decide) (by decide) (by decide) (by decide) (by decide) (by decide) (by decide)]; exact i3, Or.inl ⟨⟨fi, by rw [f1]; exact hf, hfi, hcf⟩, f4⟩, fun _ => c18, fun z => ?_⟩
    rw [f4] at z
    exact absurd z (by decide)
  · intro q' hq' j hj
    have : q' < 8 := by omega
    by_cases e : q' = q
    · subst e
      rcases (show j = 0 ∨ j = 1 ∨ j = 2 ∨ j = 3 by omega) with rfl | rfl | rfl | rfl
      · exact h7.trans f7.symm
      · exact h8.trans f8.symm
      · rw [w _ (by omega) (by omega) (by omega) (by omega) (by omega) (by omega) (by omega) (by omega) (by omega) (by omega), cQ 2 (by decide)]; exact d6 q' hq' 2 (by decide)
      · rw [w _ (by omega) (by omega) (by omega) (by omega) (by omega) (by omega) (by omega) (by omega) (by omega) (by omega), cQ 3 (by decide)]; exact d6 q' hq' 3 (by decide)
    · rw [w _ (by omega) (by omega) (by omega) (by omega) (by omega) (by omega) (by omega) (by omega) (by omega) (by omega), (cD _ _ (by omega) (by omega) (by omega)).1]; exact d6 q' hq' j hj
  · exact v3
  · intro g' hg' j hj
    have : g' < 24 := by omega
    rw [w _ (by omega) (by omega) (by omega) (by omega) (by omega) (by omega) (by omega) (by omega) (by omega) (by omega), (cD _ _ (by omega) (by omega) (by omega)).1]; exact d8 g' hg' j hj
  · intro l' hl'
    have : l' < 12 := by omega
    exact (cD _ 2 (by omega) (by omega) (by omega)).1
  · intro g' hg' hne
    have : g' < 24 := by omega
    rw [(cD _ 7 (by omega) (by omega) (by omega)).1, (cD _ 4 (by omega) (by omega) (by omega)).1, (cD _ 1 (by omega) (by omega) (by omega)).1, (cD _ 2 (by omega) (by omega) (by omega)).1]
    exact ⟨rfl, hne, rfl, rfl⟩
theorem find_both {cK : Nat → Nat} {N nf nl np nq nb ng : Nat} {Sc Sm : yS} {pI : Int32} (hN : 120 < N) (hT : ST cK nf nl np nq nb ng Sc Sm) (hD : DY cK nf nl np nq nb ng Sc Sm) : ∃ v Sc' Sm', f_X11_find N Sc pI = some (v, Sc') ∧ f_X12_find N Sm pI = some (v, Sm') ∧ ST cK nf nl np nq nb ng Sc' Sm' ∧ DY cK nf nl np nq nb ng Sc' Sm' ∧ kR Sc Sm Sc' Sm' := by
  obtain ⟨hT1, hD1⟩ := clear_both hT hD
  obtain ⟨t1, t2, t3, t4, t5, t6, t7, t8, t9, t10, t11, t12, t13, t14⟩ := id hT1
  unfold f_X11_find f_X11_find_0 f_X12_find f_X12_find_0 f_X12_find_56
  rw [sq_s]
  rcases down_both (N := N) (pI := pI) hT1 hD1 with ⟨p, p1, p2, h12, e1, e2⟩ | ⟨e1, e2⟩
  · obtain ⟨z12, z8, l, m, M, a1, a2, a3, a4, a5, a6, a7, a8⟩ := down_has hT1 hD1 p2 h12
    have p8 : p < 8 := by have := t7.1.2.1; omega
    have l12 : l < 12 := by have := t2.2.1; omega
    have nb30 : nb ≤ 30 := t7.2.2.1.2.1
    obtain ⟨kk, hR⟩ := t2.2.2.2.1 l a2
    have u : ∀ j q, j < 12 → pS j = q → (yI Sm 8 47 0).2.1 8 48 (19 + 23 * p + j) = Sc.1 (128 + p) q := fun j q hj hk => by rw [← hk]; exact hD1.2.2.2.2.1 p p2 j hj
    have r5 : (yI Sm 8 47 0).2.1 8 2 l = Sc.1 (64 + l) 0 := hR.2.2.2.2.1
    have r6 : (yI Sm 8 47 0).2.1 8 3 l = Sc.1 (64 + l) 1 := hR.2.2.2.2.2.1
    have r7 : (yI Sm 8 47 0).2.1 8 4 l = Sc.1 (64 + l) 2 := hR.2.2.2.2.2.2.1
    obtain ⟨d1, d2, d3, ⟨kw, d4⟩, d5, d6, d7, d8, d9⟩ := id hD1
    obtain ⟨i1, i2, i3, i4, i5, i6⟩ := d9 p p2
    obtain ⟨q, q1, q2⟩ : ∃ q, nn (Sc.1 (128 + p) 16) q ∧ q < nq := by
      rcases i4 with ⟨⟨f, f1, _⟩, _⟩ | ⟨_, _, _, ⟨q, q1, q2⟩, _⟩
      · exact absurd f1.nneg (by rw [z8]; decide)
      · exact ⟨q, q1, q2⟩
    have q8 : q < 8 := by have := t7.2.1.2.1; omega
    -- the same end
    have hend : ∃ f fi, nn f fi ∧ fi < nf ∧ cK fi = cK (128 + p) ∧ f_X3_nearer N Sc (64 + l) (Sc.1 (128 + p) 10) = some f ∧ ∀ K : Int32 → Option (Int32 × yS), (if (yI Sm 8 47 0).2.1 8 4 l < 2 * Sc.1 (128 + p) 10 then K ((yI Sm 8 47 0).2.1 8 3 l) else K ((yI Sm 8 47 0).2.1 8 2 l)) = K f := by
      obtain ⟨_, _, _, _, _, _, ⟨fa, fa1, fa2⟩, fb, fb1, fb2⟩ := t14 l a2
      unfold f_X3_nearer f_X3_nearer_0 f_X3_nearer_21
      rw [r5, r6, r7]
      have n2 := nn_mul (nn_l 2 (by decide)) a3 (by omega)
      have n3 := nn_sub a4 a3 a5
      by_cases c : M < 2 * m
      · refine ⟨Sc.1 (64 + l) 1, fb, fb1, fb2, (t3.2.1 l a2 fb (Or.inr fb1)).trans a8, ?_, fun K => ?_⟩
        · rw [if_pos ((nn_lt n3 a3).mpr (by omega))]
        · rw [if_pos ((nn_lt a4 n2).mpr c)]
      · refine ⟨Sc.1 (64 + l) 0, fa, fa1, fa2, (t3.2.1 l a2 fa (Or.inl fa1)).trans a8, ?_, fun K => ?_⟩
        · rw [if_neg (fun z => by have := (nn_lt n3 a3).mp z; omega)]
        · rw [if_neg (fun z => c ((nn_lt a4 n2).mp z))]
    obtain ⟨f, fi, hf, hfi, hcf, hn, hk⟩ := hend
    have c1 : ∀ o k, (o ≠ 128 + p ∨ k ≠ 18) → (yI Sc (128 + p) 18 0).1 o k = Sc.1 o k := fun o k h => yI_1n _ _ (by omega)
    obtain ⟨SD, MB, v1, v2, v3, v4, v5, v6, v7, v8⟩ := unload_both (N := N) (nf := nf) (nb := nb) (p := p) (q := q) (pI := pI) (f := f) (Sc := yI Sc (128 + p) 18 0) (Sm := yI Sm 8 47 0) (by omega) p8 p1 q8 hf hfi hcf (t8 p p2).1 (by rw [c1 _ 16 (by omega)]; exact q1) (t9 q q2) (by rw [c1 _ 16 (by omega)]; exact u 11 16 (by decide) rfl) (RBs_fr (RBs_of hT1 hD1) ⟨c1 2 9 (by omega), c1 2 13 (by omega), rfl⟩ (fun b hb => c1 _ 1 (by omega)) ⟨rfl, rfl, rfl⟩) (RBd_fr d7 nb30 (fun b hb k => ⟨c1 _ k (by omega), rfl⟩) (fun _ _ _ => rfl))
    have w0 : MB.2.1 8 48 (19 + 23 * p + 0) = f := v7.1
    refine ⟨f, SD, MB, ?_, ?_, ?_, ?_, kR_trans kR_cl (kR_FR (pc := fun o _ => o ≠ 0) (FR_trans (FR_I _ _ _ _ (show 128 + p ≠ 0 by omega)) (FR_mono v4 (fun o k z => ?_))) v6 (fun k z => z rfl) (fun k a b z => by have := z.2; omega))⟩
    · rw [e1, bV_s, if_pos (show ¬ (1 : Int32) = 0 by decide), gR_nn p1 p8 (t8 p p2).1, gR_nn a1 l12 hR.1, hn, bV_s, sq_s, v1, bS_s]
    · rw [e2, bV_s, if_pos (show ¬ (1 : Int32) = 0 by decide), em_planeR p1 p8 (nn_l 1 (by decide)) (by decide), bV_s, em_planeR p1 p8 (nn_l 2 (by decide)) (by decide), bV_s, u 1 9 (by decide) rfl, u 2 10 (by decide) rfl, gA_nn a1 l12, gA_nn a1 l12, gA_nn a1 l12]
      refine Eq.trans (hk (fun x => bS (f_X12_comeTo N (yI Sm 8 47 0) pI x) fun w1 S1 => bV (f_X12_plane N S1 pI 0) fun w2 => some (w2, S1))) ?_
      show (bS (f_X12_comeTo N (yI Sm 8 47 0) pI f) fun w1 S1 => bV (f_X12_plane N S1 pI 0) fun w2 => some (w2, S1)) = some (f, MB)
      rw [v2, bS_s, em_planeR p1 p8 (nn_l 0 (by decide)) (by decide), bV_s, w0]
    · exact ST_FW hT1 (FR_trans (FR_I _ _ _ _ (by unfold pQW; omega)) (FR_mono v4 (fun o k z => pUn_QW p8 q8 z))) (FR_mono v6 (fun o k z => Or.inl ⟨z.1, Or.inr (Or.inl z.2)⟩)) (fun i x y => v8 i (by omega) (by omega) (by omega) (by omega) (by omega) (by omega) (by omega) (by omega) (by omega) (by omega))
    · exact find_DY hT1 hD1 p2 q2 hf hfi hcf v3 v4 v5 v6 v7 v8
    · have := pUn_QW p8 q8 z
      intro e
      subst e
      unfold pUn pBgs at z
      clear this
      rcases z with ⟨a, _⟩ | ⟨a, _⟩ | ⟨a, _⟩ <;> omega
  · rw [e1, bV_s, e2, bV_s, if_neg (show ¬ ¬ (0 : Int32) = 0 from fun w => w rfl), if_neg (show ¬ ¬ (0 : Int32) = 0 from fun w => w rfl)]
    exact ⟨-1, _, _, rfl, rfl, hT1, hD1, kR_cl⟩
