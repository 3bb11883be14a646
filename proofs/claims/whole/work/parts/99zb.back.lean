/-! GIVEN BACK -/
def RSd (np nq nb ng : Nat) (O S : yS) : Prop := S.1 2 13 = O.1 2 13 ∧ S.1 2 14 = O.1 2 14 ∧ S.1 3 1 = O.1 3 1 ∧ (∀ p, p < np → ∀ k, k ∈ lst6 → S.1 (128 + p) k = O.1 (128 + p) k) ∧ (∀ p, p < nq → ∀ k, k ∈ lst5 → S.1 (256 + p) k = O.1 (256 + p) k) ∧ (∀ p, p < nb → ∀ k, k ∈ lst0 → S.1 (384 + p) k = O.1 (384 + p) k) ∧ ∀ p, p < ng → ∀ k, k ∈ lst1 → S.1 (512 + p) k = O.1 (512 + p) k
theorem l6m {k : Nat} : k ∈ lst6 ↔ (5 ≤ k ∧ k ≤ 17 ∧ k ≠ 6) := by
  unfold lst6
  simp only [List.mem_cons, List.not_mem_nil, or_false]
  omega
theorem l5m {k : Nat} : k ∈ lst5 ↔ k ≤ 2 := by
  unfold lst5
  simp only [List.mem_cons, List.not_mem_nil, or_false]
  omega
theorem l0m {k : Nat} : k ∈ lst0 ↔ (5 ≤ k ∧ k ≤ 10 ∧ k ≠ 9) := by
  unfold lst0
  simp only [List.mem_cons, List.not_mem_nil, or_false]
  omega
theorem l1m {k : Nat} : k ∈ lst1 ↔ (4 ≤ k ∧ k ≤ 9) := by
  unfold lst1
  simp only [List.mem_cons, List.not_mem_nil, or_false]
  omega
theorem KL_no {o k : Nat} (h : (o = 2 ∧ k ≠ 13 ∧ k ≠ 14) ∨ (o = 3 ∧ k = 0) ∨ (64 ≤ o ∧ o < 128) ∨ (136 ≤ o ∧ o < 256) ∨ (264 ≤ o ∧ o < 384) ∨ (414 ≤ o ∧ o < 512) ∨ 536 ≤ o ∨ (128 ≤ o ∧ o < 136 ∧ (k < 5 ∨ k = 6 ∨ 17 < k)) ∨ (256 ≤ o ∧ o < 264 ∧ 2 < k) ∨ (384 ≤ o ∧ o < 414 ∧ (k < 5 ∨ 10 < k)) ∨ (512 ≤ o ∧ o < 536 ∧ (k < 4 ∨ 9 < k))) : ¬ pKL o k := by
  unfold pKL pKT pQH pQC
  omega
theorem KT_KL {o k : Nat} (h : ¬ pKL o k) : ¬ pKT o k := fun z => h (Or.inl z)
theorem back_class {cK : Nat → Nat} {N nf nl np nq nb ng : Nat} {O OM S M : yS} (hN : 2400 < N) (hOT : ST cK nf nl np nq nb ng O OM) (hOD : DY cK nf nl np nq nb ng O OM) (hP : KP np nq nb ng O OM) (F : FR pKL O S) : ∃ S', f_X10_giveBack N S = some (0, S') ∧ S'.2 = S.2 ∧ FR pQH S S' ∧ RSd np nq nb ng O S' := by
  obtain ⟨t1, t2, t3, t4, t5, t6, t7, t8, t9, t10, t11, t12, t13, t14⟩ := id hOT
  have np8 : np ≤ 8 := t7.1.2.1
  have nq8 : nq ≤ 8 := t7.2.1.2.1
  have nb30 : nb ≤ 30 := t7.2.2.1.2.1
  have ng24 : ng ≤ 24 := t7.2.2.2.2.1
  obtain ⟨k1, k2, k3, k4, k17, k18, k19, _⟩ := hP
  have f2 : ∀ k, k ≠ 13 → k ≠ 14 → S.1 2 k = O.1 2 k ∧ S.2.1 2 k = O.2.1 2 k := fun k a b => F 2 k (KL_no (Or.inl ⟨rfl, a, b⟩))
  generalize hS0 : yI (yI (yI S 2 13 (S.1 2 17)) 2 14 (S.1 2 18)) 3 1 (S.1 2 19) = S0
  have c0 : ∀ o k, ¬ (o = 2 ∧ (k = 13 ∨ k = 14)) → ¬ (o = 3 ∧ k = 1) → S0.1 o k = S.1 o k := fun o k h h' => by rw [← hS0, yI_1n _ _ (by omega), yI_1n _ _ (by omega), yI_1n _ _ (by omega)]
  have c0r : S0.2 = S.2 := by rw [← hS0]; rfl
  have v13 : S0.1 2 13 = O.1 2 13 := by rw [← hS0, yI_1n _ _ (by omega), yI_1n _ _ (by omega), yI_1s, (f2 17 (by decide) (by decide)).1]; exact k17
  have v14 : S0.1 2 14 = O.1 2 14 := by rw [← hS0, yI_1n _ _ (by omega), yI_1s, (f2 18 (by decide) (by decide)).1]; exact k18
  have v31 : S0.1 3 1 = O.1 3 1 := by rw [← hS0, yI_1s, (f2 19 (by decide) (by decide)).1]; exact k19
  have r2 : ∀ k, k ≠ 13 → k ≠ 14 → S0.2.1 2 k = O.2.1 2 k := fun k a b => by rw [c0r]; exact (f2 k a b).2
  have i2 : ∀ k, k ≠ 13 → k ≠ 14 → S0.1 2 k = O.1 2 k := fun k a b => by rw [c0 2 k (by omega) (by omega)]; exact (f2 k a b).1
  have fk : ∀ o k, ((136 ≤ o ∧ o < 256) ∨ (264 ≤ o ∧ o < 384) ∨ (414 ≤ o ∧ o < 512) ∨ 536 ≤ o) → S0.1 o k = O.1 o k := fun o k h => by rw [c0 o k (by omega) (by omega)]; exact (F o k (KL_no (by omega))).1
  obtain ⟨A, a1, a2, a3⟩ := backL6 (N := N) (n := np) np8 np 0 N S0 (by omega) (by omega) (by rw [i2 5 (by decide) (by decide)]; exact t7.1.1) (fun j hj => by rw [r2 4 (by decide) (by decide)]; exact (t8 j hj).1) (fun j hj => by rw [c0 _ _ (by omega) (by omega), (F (128 + j) 20 (KL_no (by omega))).1]; exact (k1 j hj).1) (fun j hj => by
    rw [fk _ _ (by omega), fk _ _ (by omega), show 128 + 64 + j = 192 + j by omega, (k1 j hj).2 11 (by decide), (k1 j hj).2 12 (by decide)]
    exact ⟨(hOD.2.2.2.2.2.2.2.2 j hj).2.2.1, down01 hOD hj⟩)
  have ai : ∀ o k, (o < 128 ∨ 128 + np ≤ o) → A.1 o k = S0.1 o k := fun o k h => by rw [a3, if_neg (fun z => by omega)]
  obtain ⟨B, b1, b2, b3⟩ := backL5 (N := N) (n := nq) nq8 nq 0 N A (by omega) (by omega) (by rw [ai 2 7 (by omega), i2 7 (by decide) (by decide)]; exact t7.2.1.1) (fun j hj => by rw [a2, r2 6 (by decide) (by decide)]; exact t9 j hj) (fun j hj => by rw [ai _ _ (by omega), c0 _ _ (by omega) (by omega), (F (256 + j) 4 (KL_no (by omega))).1]; exact (k2 j hj).1)
  have bi : ∀ o k, (o < 256 ∨ 256 + nq ≤ o) → B.1 o k = A.1 o k := fun o k h => by rw [b3, if_neg (fun z => by omega)]
  obtain ⟨D, d1, d2, d3⟩ := backL0 (N := N) (n := nb) nb30 nb 0 N B (by omega) (by omega) (by rw [bi 2 9 (by omega), ai 2 9 (by omega), i2 9 (by decide) (by decide)]; exact t7.2.2.1.1) (fun j hj => by rw [b2, a2, r2 8 (by decide) (by decide)]; exact (t10 j hj).1) (fun j hj => by rw [bi _ _ (by omega), ai _ _ (by omega), c0 _ _ (by omega) (by omega), (F (384 + j) 11 (KL_no (by omega))).1]; exact (k3 j hj).1)
  have di : ∀ o k, (o < 384 ∨ 384 + nb ≤ o) → D.1 o k = B.1 o k := fun o k h => by rw [d3, if_neg (fun z => by omega)]
  obtain ⟨E, e1, e2, e3⟩ := backL1 (N := N) (n := ng) ng24 ng 0 N D (by omega) (by omega) (by rw [di 2 12 (by omega), bi 2 12 (by omega), ai 2 12 (by omega), i2 12 (by decide) (by decide)]; exact t7.2.2.2.1) (fun j hj => by rw [d2, b2, a2, r2 11 (by decide) (by decide)]; exact (t11 j hj).1) (fun j hj => by rw [di _ _ (by omega), bi _ _ (by omega), ai _ _ (by omega), c0 _ _ (by omega) (by omega), (F (512 + j) 10 (KL_no (by omega))).1]; exact (k4 j hj).1)
  have ei : ∀ o k, (o < 512 ∨ 512 + ng ≤ o) → E.1 o k = D.1 o k := fun o k h => by rw [e3, if_neg (fun z => by omega)]
  have rest : ∀ o k, o < 128 → E.1 o k = S0.1 o k := fun o k h => by rw [ei _ _ (by omega), di _ _ (by omega), bi _ _ (by omega), ai _ _ (by omega)]
  refine ⟨E, ?_, e2.trans (d2.trans (b2.trans (a2.trans c0r))), fun o k h => ⟨?_, by rw [e2, d2, b2, a2, c0r]⟩, by rw [rest 2 13 (by omega)]; exact v13, by rw [rest 2 14 (by omega)]; exact v14, by rw [rest 3 1 (by omega)]; exact v31, fun p hp k hk => ?_, fun p hp k hk => ?_, fun p hp k hk => ?_, fun p hp k hk => ?_⟩
  · unfold f_X10_giveBack f_X10_giveBack_0
    rw [sq_s, sq_s, sq_s, show (yI S 2 13 (S.1 2 17)).1 2 18 = S.1 2 18 from yI_1n _ _ (by decide), show (yI (yI S 2 13 (S.1 2 17)) 2 14 (S.1 2 18)).1 2 19 = S.1 2 19 from by rw [yI_1n _ _ (by decide), yI_1n _ _ (by decide)], hS0]
    exact a1.trans (b1.trans (d1.trans e1))
  · unfold pQH pQC at h
    rw [e3 o k, if_neg (fun z => by have := l1m.mp z.2.2; omega), d3 o k, if_neg (fun z => by have := l0m.mp z.2.2; omega), b3 o k, if_neg (fun z => by have := l5m.mp z.2.2; omega), a3 o k, if_neg (fun z => by have := l6m.mp z.2.2; omega), c0 o k (by omega) (by omega)]
  · rw [ei _ _ (by omega), di _ _ (by omega), bi _ _ (by omega), a3, if_pos ⟨by omega, by omega, hk⟩, fk _ _ (by omega), show 128 + p + 64 = 192 + p by omega]
    exact (k1 p hp).2 k hk
  · rw [ei _ _ (by omega), di _ _ (by omega), b3, if_pos ⟨by omega, by omega, hk⟩, ai _ _ (by omega), fk _ _ (by omega), show 256 + p + 64 = 320 + p by omega]
    exact (k2 p hp).2 k hk
  · rw [ei _ _ (by omega), d3, if_pos ⟨by omega, by omega, hk⟩, bi _ _ (by omega), ai _ _ (by omega), fk _ _ (by omega), show 384 + p + 64 = 448 + p by omega]
    exact (k3 p hp).2 k hk
  · rw [e3, if_pos ⟨by omega, by omega, hk⟩, di _ _ (by omega), bi _ _ (by omega), ai _ _ (by omega), fk _ _ (by omega), show 512 + p + 64 = 576 + p by omega]
    exact (k4 p hp).2 k hk
theorem fin_both {cK : Nat → Nat} {nf nl np nq nb ng kw : Nat} {O OM S M : yS} (hOT : ST cK nf nl np nq nb ng O OM) (hOD : DY cK nf nl np nq nb ng O OM) (hW : RW kw O OM) (h1000 : cK 1000 = kw) (hst : ∀ b, b < nb → nn (O.1 (384 + b) 10) (cK (1001 + b))) (F : FR pKT O S) (hR : RSd np nq nb ng O S) (hg : ∀ j i, 2 ≤ j → j < 9 → i < kw → S.2.1 3 j i = O.2.1 3 j i) (hb : ∀ b, b < nb → ∀ j, j < 2 * cK (1001 + b) → S.2.1 (384 + b) 9 j = O.2.1 (384 + b) 9 j) (G : FR pKM OM M) (hM : ∀ i, i < 2305 → M.2.1 8 48 i = OM.2.1 8 48 i) : ST cK nf nl np nq nb ng S M ∧ DY cK nf nl np nq nb ng S M := by
  have hT : ST cK nf nl np nq nb ng S M := ST_FW hOT (FR_mono F (fun o k z => by
    unfold pQW
    rcases z with (z | z) | z
    · exact Or.inl z
    · exact Or.inr (Or.inl z)
    · exact absurd z (Nat.not_lt_zero _))) (FR_mono G (fun o k z => by unfold pKM at z; unfold pQN pQM; omega)) (fun i a b => hM i (by omega))
  refine ⟨hT, ?_⟩
  obtain ⟨t1, t2, t3, t4, t5, t6, t7, t8, t9, t10, t11, t12, t13, t14⟩ := id hOT
  have nl12 : nl ≤ 12 := t2.2.1
  have np8 : np ≤ 8 := t7.1.2.1
  have nq8 : nq ≤ 8 := t7.2.1.2.1
  have nb30 : nb ≤ 30 := t7.2.2.1.2.1
  have ng24 : ng ≤ 24 := t7.2.2.2.2.1
  obtain ⟨r13, r14, r31, r6, r5, r0, r1⟩ := hR
  obtain ⟨d1, d2, d3, ⟨kw', d4, d4', d4''⟩, d5, d6, d7, d8, d9⟩ := hOD
  have f : ∀ o k, ((o = 2 ∧ k ≠ 13 ∧ k ≠ 14) ∨ (o = 3 ∧ k = 0) ∨ (64 ≤ o ∧ o < 128) ∨ (136 ≤ o ∧ o < 256) ∨ (264 ≤ o ∧ o < 384) ∨ (414 ≤ o ∧ o < 512) ∨ 536 ≤ o ∨ (128 ≤ o ∧ o < 136 ∧ (k < 5 ∨ k = 6 ∨ 17 < k)) ∨ (256 ≤ o ∧ o < 264 ∧ 2 < k) ∨ (384 ≤ o ∧ o < 414 ∧ (k < 5 ∨ 10 < k)) ∨ (512 ≤ o ∧ o < 536 ∧ (k < 4 ∨ 9 < k))) → S.1 o k = O.1 o k ∧ S.2.1 o k = O.2.1 o k := fun o k h => F o k (KT_KL (KL_no h))
  have cp : ∀ p, p < np → ∀ k, S.1 (128 + p) k = O.1 (128 + p) k := fun p hp k => by
    by_cases e : k ∈ lst6
    · exact r6 p hp k e
    · rw [l6m] at e
      exact (f _ k (by omega)).1
  have cq : ∀ p, p < nq → ∀ k, S.1 (256 + p) k = O.1 (256 + p) k := fun p hp k => by
    by_cases e : k ∈ lst5
    · exact r5 p hp k e
    · rw [l5m] at e
      exact (f _ k (by omega)).1
  have cb : ∀ p, p < nb → ∀ k, k ≠ 9 → S.1 (384 + p) k = O.1 (384 + p) k := fun p hp k h9 => by
    by_cases e : k ∈ lst0
    · exact r0 p hp k e
    · rw [l0m] at e
      exact (f _ k (by omega)).1
  have cg : ∀ p, p < ng → ∀ k, S.1 (512 + p) k = O.1 (512 + p) k := fun p hp k => by
    by_cases e : k ∈ lst1
    · exact r1 p hp k e
    · rw [l1m] at e
      exact (f _ k (by omega)).1
  have k120 : kw ≤ 120 := hW.2.1
  refine ⟨by rw [hM 0 (by omega), r13]; exact d1, by rw [hM 1 (by omega), r14]; exact d2, by rw [r13]; exact d3, ⟨kw, ⟨by rw [r31]; exact hW.1, k120, by rw [hM 2 (by omega), r31]; exact hW.2.2.1, by rw [(G 8 34 (by unfold pKM; omega)).1, (f 3 0 (by omega)).1]; exact hW.2.2.2.1, fun i hi => ?_⟩, by omega, fun j i h1 h2 h3 => ?_⟩, fun p hp j hj => ?_, fun q hq j hj => ?_, fun b hb' => ?_, fun g hg' j hj => ?_, fun p hp => ?_⟩
  · obtain ⟨y1, y2, y3, y4, y5, y6, y7⟩ := hW.2.2.2.2 i hi
    rw [hg 5 i (by omega) (by omega) hi, hg 2 i (by omega) (by omega) hi, hg 3 i (by omega) (by omega) hi, hg 4 i (by omega) (by omega) hi, hg 6 i (by omega) (by omega) hi, hg 7 i (by omega) (by omega) hi, hg 8 i (by omega) (by omega) hi, hM _ (by omega), hM _ (by omega), hM _ (by omega), hM _ (by omega), hM _ (by omega), hM _ (by omega), hM _ (by omega)]
    exact ⟨y1, y2, y3, y4, y5, y6, y7⟩
  · rw [hg j i h1 h2 (by omega)]
    exact d4'' j i h1 h2 h3
  · rw [hM _ (by omega), cp p hp]; exact d5 p hp j hj
  · rw [hM _ (by omega), cq q hq]; exact d6 q hq j hj
  · obtain ⟨x1, ⟨n, n1, ⟨n2, n4, n5⟩, n3⟩, x3⟩ := d7 b hb'
    have es := nn_inj n1 (hst b hb')
    have hbS : ∀ j, j < 5 → bSl j ≠ 9 := fun j hj => by
      rcases (show j = 0 ∨ j = 1 ∨ j = 2 ∨ j = 3 ∨ j = 4 by omega) with rfl | rfl | rfl | rfl | rfl <;> decide
    refine ⟨fun j hj => by rw [hM _ (by omega), cb b hb' _ (hbS j hj)]; exact x1 j hj, ⟨n, by rw [cb b hb' 10 (by decide)]; exact n1, ⟨n2, n4, fun j hj => by rw [hb b hb' j hj]; exact n5 j hj⟩, fun j hj => by rw [hM _ (by omega), hb b hb' j (by omega)]; exact n3 j hj⟩, ?_⟩
    unfold BI
    rw [cb b hb' 8 (by decide), cb b hb' 5 (by decide), cb b hb' 6 (by decide)]
    exact x3
  · rw [hM _ (by omega), cg g hg']; exact d8 g hg' j hj
  · exact PI_keep (d9 p hp) (cp p hp) (f (128 + p) 19 (by omega)).2 (fun j hj => hM _ (by omega)) (fun l hl => (f (64 + l) 2 (by omega)).1) (fun g hg' hne => by rw [cg g hg', cg g hg', cg g hg', cg g hg']; exact ⟨rfl, hne, rfl, rfl⟩)
