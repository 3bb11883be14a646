/-! PILOT, FLIGHT, PLANE: one more -/
theorem PI_grow {cK : Nat → Nat} {nf nl nq ng nq' ng' p : Nat} {Sc Sm : yS} (h : PI cK nf nl nq ng Sc Sm p) (h1 : nq ≤ nq') (h2 : ng ≤ ng') : PI cK nf nl nq' ng' Sc Sm p := by
  obtain ⟨i1, i2, i3, i4, i5, i6⟩ := h
  refine ⟨i1, i2, i3, ?_, i5, i6⟩
  rcases i4 with z | ⟨z1, z2, z3, ⟨q, q1, q2⟩, g, g1, g2, g3⟩
  · exact Or.inl z
  · exact Or.inr ⟨z1, z2, z3, ⟨q, q1, by omega⟩, g, g1, by omega, g3⟩
theorem DY_grow {cK : Nat → Nat} {nf nl np nq nb ng np' nq' nb' ng' : Nat} {Sc Sm : yS} (h : DY cK nf nl np nq nb ng Sc Sm) (h1 : np ≤ np') (h2 : nq ≤ nq') (h3 : nb ≤ nb') (h4 : ng ≤ ng') (hP : ∀ p, np ≤ p → p < np' → ∀ j, j < 12 → Sm.2.1 8 48 (19 + 23 * p + j) = Sc.1 (128 + p) (pS j)) (hQ : ∀ q, nq ≤ q → q < nq' → ∀ j, j < 4 → Sm.2.1 8 48 (203 + 4 * q + j) = Sc.1 (256 + q) j) (hB : ∀ b, nb ≤ b → b < nb' → DB1 b Sc Sm ∧ DS1 cK b Sc Sm ∧ BI cK nf Sc b) (hL : ∀ g, ng ≤ g → g < ng' → ∀ j, j < 5 → Sm.2.1 8 48 (1345 + 5 * g + j) = Sc.1 (512 + g) (fSl j)) (hI : ∀ p, np ≤ p → p < np' → PI cK nf nl nq' ng' Sc Sm p) : DY cK nf nl np' nq' nb' ng' Sc Sm := by
  obtain ⟨d1, d2, d3, d4, d5, d6, d7, d8, d9⟩ := h
  refine ⟨d1, d2, d3, d4, fun p hp => ?_, fun q hq => ?_, fun b hb => ?_, fun g hg => ?_, fun p hp => ?_⟩
  · rcases Nat.lt_or_ge p np with z | z
    · exact d5 p z
    · exact hP p z hp
  · rcases Nat.lt_or_ge q nq with z | z
    · exact d6 q z
    · exact hQ q z hq
  · rcases Nat.lt_or_ge b nb with z | z
    · exact d7 b z
    · exact hB b z hb
  · rcases Nat.lt_or_ge g ng with z | z
    · exact d8 g z
    · exact hL g z hg
  · rcases Nat.lt_or_ge p np with z | z
    · exact PI_grow (d9 p z) h2 h4
    · exact hI p z hp
theorem one_more {n k : Nat} (h1 : n ≤ k) (h2 : k < n + 1) : k = n := by omega
def pcPi (nq o k : Nat) : Prop := o = 256 + nq ∨ (o = 2 ∧ (k = 6 ∨ k = 7))
def pmPi (o k : Nat) : Prop := o = 8 ∧ (k = 47 ∨ k = 22 ∨ k = 48)
theorem ST_pilot {cK : Nat → Nat} {nf nl np nq nb ng : Nat} {Sc Sm Sc' Sm' : yS} (hT : ST cK nf nl np nq nb ng Sc Sm) (hD : DY cK nf nl np nq nb ng Sc Sm) (hn : nq < 8) (F : FR (pcPi nq) Sc Sc') (G : FR pmPi Sm Sm') (h6 : Sc'.2.1 2 6 = upd (Sc.2.1 2 6) nq 1) (h7 : Sc'.1 2 7 = Int32.ofNat (nq + 1)) (m22 : Sm'.1 8 22 = Int32.ofNat (nq + 1)) (w : ∀ i, (i < 203 + 4 * nq ∨ 207 + 4 * nq ≤ i) → Sm'.2.1 8 48 i = Sm.2.1 8 48 i) (hQ : ∀ j, j < 4 → Sm'.2.1 8 48 (203 + 4 * nq + j) = Sc'.1 (256 + nq) j) : ST cK nf nl np (nq + 1) nb ng Sc' Sm' ∧ DY cK nf nl np (nq + 1) nb ng Sc' Sm' := by
  obtain ⟨t1, t2, t3, t4, t5, t6, t7, t8, t9, t10, t11, t12, t13, t14⟩ := id hT
  have nf8 : nf ≤ 8 := t1.2.1
  have nl12 : nl ≤ 12 := t2.2.1
  have np8 : np ≤ 8 := t7.1.2.1
  have nq8 : nq ≤ 8 := t7.2.1.2.1
  have nb30 : nb ≤ 30 := t7.2.2.1.2.1
  have ng24 : ng ≤ 24 := t7.2.2.2.2.1
  have hC : oC np (nq + 1) nb ng Sc' Sm' := by
    obtain ⟨o1, o2, o3, o4⟩ := t7
    refine ⟨?_, ⟨by rw [h7]; exact nn_lit _ (by omega), by omega, by rw [h7, m22]⟩, ?_, ?_⟩
    · rw [(F 2 5 (by unfold pcPi; omega)).1, (G 8 21 (by unfold pmPi; omega)).1]; exact o1
    · rw [(F 2 9 (by unfold pcPi; omega)).1, (G 8 28 (by unfold pmPi; omega)).1]; exact o3
    · rw [(F 2 12 (by unfold pcPi; omega)).1, (G 8 33 (by unfold pmPi; omega)).1]; exact o4
  have hd : DY cK nf nl np nq nb ng Sc' Sm' := K_DY hD (cM_refl t3.2.2.2 np8) t3.2.2.2 (Nat.le_refl _) (nf8) (Nat.le_refl _) nl12 np8 nq8 nb30 ng24 (fun k _ _ => F 2 k (by unfold pcPi; omega)) (fun k => F 3 k (by unfold pcPi; omega)) (fun l _ => (F (64 + l) 2 (by unfold pcPi; omega)).1) (fun p k _ _ _ => F (128 + p) k (by unfold pcPi; omega)) (fun p k _ _ => F (256 + p) k (by unfold pcPi; omega)) (fun p k _ _ _ => F (384 + p) k (by unfold pcPi; omega)) (fun p k _ _ => F (512 + p) k (by unfold pcPi; omega)) ((G 8 34 (by unfold pmPi; omega)).1) (fun i _ => w i (by omega))
  exact ⟨⟨K_RF t1 (fun k _ => F 1 k (by unfold pcPi; omega)) (fun k _ => G 8 k (by unfold pmPi; omega)) (fun i _ _ => w i (by omega)), K_RG t2 (fun k _ _ => F 1 k (by unfold pcPi; omega)) (fun l k _ => F (64 + l) k (by unfold pcPi; omega)) (fun k _ _ => G 8 k (by unfold pmPi; omega)), ⟨K_RD t3.1 (F 1 7 (by unfold pcPi; omega)) (G 8 10 (by unfold pmPi; omega)), K_cE t3.2 nl12 nb30 (fun l k _ _ => F (64 + l) k (by unfold pcPi; omega)) (fun b k _ _ => F (384 + b) k (by unfold pcPi; omega))⟩, K_RT t4 (fun k _ _ _ => F 1 k (by unfold pcPi; omega)) (fun k _ _ => G 8 k (by unfold pmPi; omega)), K_RR t5 (fun k _ => ⟨F 4 k (by unfold pcPi; omega), F 5 k (by unfold pcPi; omega)⟩) (fun k _ _ => G 8 k (by unfold pmPi; omega)), K_RS t6 (F 3 0 (by unfold pcPi; omega)) (F 2 15 (by unfold pcPi; omega)) (F 2 16 (by unfold pcPi; omega)) (fun k _ _ => G 8 k (by unfold pmPi; omega)), hC, fun p hp => K_P0 (t8 p hp) (congrFun (F 2 4 (by unfold pcPi; omega)).2 p) (fun k _ => (F (128 + p) k (by unfold pcPi; omega)).1) (fun k _ _ => congrFun (G 8 k (by unfold pmPi; omega)).2 p), fun q hq => by rw [h6]; exact (Nat.lt_or_ge q nq).elim (fun z => by rw [upd_o _ _ (by omega)]; exact t9 q z) (fun z => by rw [one_more z hq, upd_s]), fun b hb => K_B0 (t10 b hb) (Nat.le_refl _) (congrFun (F 2 8 (by unfold pcPi; omega)).2 b) (fun k _ => (F (384 + b) k (by unfold pcPi; omega)).1) (fun k _ _ => congrFun (G 8 k (by unfold pmPi; omega)).2 b), fun g hg => K_L0 (t11 g hg) (Nat.le_refl _) (Nat.le_refl _) (Nat.le_succ _) (congrFun (F 2 11 (by unfold pcPi; omega)).2 g) (fun k _ => (F (512 + g) k (by unfold pcPi; omega)).1) (fun k _ _ => congrFun (G 8 k (by unfold pmPi; omega)).2 g), K_oR t12 nb30 (F 2 10 (by unfold pcPi; omega)) (fun b k _ _ => F (384 + b) k (by unfold pcPi; omega)), K_oN t13 (Nat.le_refl _) (Nat.le_succ _) (Nat.le_refl _) (Nat.le_refl _) (fun p _ _ => ⟨congrFun (F 2 4 (by unfold pcPi; omega)).2 p, (F (128 + p) 20 (by unfold pcPi; omega)).1⟩) (fun p _ _ => ⟨by rw [h6, upd_o _ _ (by omega)], (F (256 + p) 4 (by unfold pcPi; omega)).1⟩) (fun p _ _ => ⟨congrFun (F 2 8 (by unfold pcPi; omega)).2 p, (F (384 + p) 11 (by unfold pcPi; omega)).1⟩) (fun p _ _ => ⟨congrFun (F 2 11 (by unfold pcPi; omega)).2 p, (F (512 + p) 10 (by unfold pcPi; omega)).1⟩) (fun o k _ _ => (F o k (by unfold pcPi; omega)).1), K_gB t14 nl12 (Nat.le_refl _) (fun l k _ => F (64 + l) k (by unfold pcPi; omega))⟩, DY_grow hd (Nat.le_refl _) (Nat.le_succ _) (Nat.le_refl _) (Nat.le_refl _) (fun p a b => absurd b (by omega)) (fun q a b j hj => by rw [one_more a b]; exact hQ j hj) (fun p a b => absurd b (by omega)) (fun p a b => absurd b (by omega)) (fun p a b => absurd b (by omega))⟩
def pcFl (ng o k : Nat) : Prop := o = 512 + ng ∨ (o = 2 ∧ (k = 11 ∨ k = 12))
def pmFl (o k : Nat) : Prop := o = 8 ∧ (k = 47 ∨ k = 33 ∨ k = 48 ∨ (29 ≤ k ∧ k ≤ 32))
theorem ST_flight {cK : Nat → Nat} {nf nl np nq nb ng : Nat} {Sc Sm Sc' Sm' : yS} (hT : ST cK nf nl np nq nb ng Sc Sm) (hD : DY cK nf nl np nq nb ng Sc Sm) (hn : ng < 24) (F : FR (pcFl ng) Sc Sc') (G : FR pmFl Sm Sm') (h6 : Sc'.2.1 2 11 = upd (Sc.2.1 2 11) ng 1) (h7 : Sc'.1 2 12 = Int32.ofNat (ng + 1)) (m22 : Sm'.1 8 33 = Int32.ofNat (ng + 1)) (m : ∀ k g, 29 ≤ k → k ≤ 32 → g < ng → Sm'.2.1 8 k g = Sm.2.1 8 k g) (hL : L0 nl np nq Sc' Sm' ng) (w : ∀ i, (i < 1345 + 5 * ng ∨ 1350 + 5 * ng ≤ i) → Sm'.2.1 8 48 i = Sm.2.1 8 48 i) (hQ : ∀ j, j < 5 → Sm'.2.1 8 48 (1345 + 5 * ng + j) = Sc'.1 (512 + ng) (fSl j)) : ST cK nf nl np nq nb (ng + 1) Sc' Sm' ∧ DY cK nf nl np nq nb (ng + 1) Sc' Sm' := by
  obtain ⟨t1, t2, t3, t4, t5, t6, t7, t8, t9, t10, t11, t12, t13, t14⟩ := id hT
  have nf8 : nf ≤ 8 := t1.2.1
  have nl12 : nl ≤ 12 := t2.2.1
  have np8 : np ≤ 8 := t7.1.2.1
  have nq8 : nq ≤ 8 := t7.2.1.2.1
  have nb30 : nb ≤ 30 := t7.2.2.1.2.1
  have ng24 : ng ≤ 24 := t7.2.2.2.2.1
  have hC : oC np nq nb (ng + 1) Sc' Sm' := by
    obtain ⟨o1, o2, o3, o4⟩ := t7
    refine ⟨?_, ?_, ?_, ⟨by rw [h7]; exact nn_lit _ (by omega), by omega, by rw [h7, m22]⟩⟩
    · rw [(F 2 5 (by unfold pcFl; omega)).1, (G 8 21 (by unfold pmFl; omega)).1]; exact o1
    · rw [(F 2 7 (by unfold pcFl; omega)).1, (G 8 22 (by unfold pmFl; omega)).1]; exact o2
    · rw [(F 2 9 (by unfold pcFl; omega)).1, (G 8 28 (by unfold pmFl; omega)).1]; exact o3
  have hd : DY cK nf nl np nq nb ng Sc' Sm' := K_DY hD (cM_refl t3.2.2.2 np8) t3.2.2.2 (Nat.le_refl _) (nf8) (Nat.le_refl _) nl12 np8 nq8 nb30 ng24 (fun k _ _ => F 2 k (by unfold pcFl; omega)) (fun k => F 3 k (by unfold pcFl; omega)) (fun l _ => (F (64 + l) 2 (by unfold pcFl; omega)).1) (fun p k _ _ _ => F (128 + p) k (by unfold pcFl; omega)) (fun p k _ _ => F (256 + p) k (by unfold pcFl; omega)) (fun p k _ _ _ => F (384 + p) k (by unfold pcFl; omega)) (fun p k _ _ => F (512 + p) k (by unfold pcFl; omega)) ((G 8 34 (by unfold pmFl; omega)).1) (fun i _ => w i (by omega))
  exact ⟨⟨K_RF t1 (fun k _ => F 1 k (by unfold pcFl; omega)) (fun k _ => G 8 k (by unfold pmFl; omega)) (fun i _ _ => w i (by omega)), K_RG t2 (fun k _ _ => F 1 k (by unfold pcFl; omega)) (fun l k _ => F (64 + l) k (by unfold pcFl; omega)) (fun k _ _ => G 8 k (by unfold pmFl; omega)), ⟨K_RD t3.1 (F 1 7 (by unfold pcFl; omega)) (G 8 10 (by unfold pmFl; omega)), K_cE t3.2 nl12 nb30 (fun l k _ _ => F (64 + l) k (by unfold pcFl; omega)) (fun b k _ _ => F (384 + b) k (by unfold pcFl; omega))⟩, K_RT t4 (fun k _ _ _ => F 1 k (by unfold pcFl; omega)) (fun k _ _ => G 8 k (by unfold pmFl; omega)), K_RR t5 (fun k _ => ⟨F 4 k (by unfold pcFl; omega), F 5 k (by unfold pcFl; omega)⟩) (fun k _ _ => G 8 k (by unfold pmFl; omega)), K_RS t6 (F 3 0 (by unfold pcFl; omega)) (F 2 15 (by unfold pcFl; omega)) (F 2 16 (by unfold pcFl; omega)) (fun k _ _ => G 8 k (by unfold pmFl; omega)), hC, fun p hp => K_P0 (t8 p hp) (congrFun (F 2 4 (by unfold pcFl; omega)).2 p) (fun k _ => (F (128 + p) k (by unfold pcFl; omega)).1) (fun k _ _ => congrFun (G 8 k (by unfold pmFl; omega)).2 p), fun q hq => (congrFun (F 2 6 (by unfold pcFl; omega)).2 q).trans (t9 q hq), fun b hb => K_B0 (t10 b hb) (Nat.le_refl _) (congrFun (F 2 8 (by unfold pcFl; omega)).2 b) (fun k _ => (F (384 + b) k (by unfold pcFl; omega)).1) (fun k _ _ => congrFun (G 8 k (by unfold pmFl; omega)).2 b), fun g hg => by
    rcases Nat.lt_or_ge g ng with z | z
    · exact K_L0 (t11 g z) (Nat.le_refl _) (Nat.le_refl _) (Nat.le_refl _) (by rw [h6, upd_o _ _ (by omega)]) (fun k _ => (F (512 + g) k (by unfold pcFl; omega)).1) (fun k a b => m k g a b z)
    · rw [one_more z hg]; exact hL, K_oR t12 nb30 (F 2 10 (by unfold pcFl; omega)) (fun b k _ _ => F (384 + b) k (by unfold pcFl; omega)), K_oN t13 (Nat.le_refl _) (Nat.le_refl _) (Nat.le_refl _) (Nat.le_succ _) (fun p _ _ => ⟨congrFun (F 2 4 (by unfold pcFl; omega)).2 p, (F (128 + p) 20 (by unfold pcFl; omega)).1⟩) (fun p _ _ => ⟨congrFun (F 2 6 (by unfold pcFl; omega)).2 p, (F (256 + p) 4 (by unfold pcFl; omega)).1⟩) (fun p _ _ => ⟨congrFun (F 2 8 (by unfold pcFl; omega)).2 p, (F (384 + p) 11 (by unfold pcFl; omega)).1⟩) (fun p _ _ => ⟨by rw [h6, upd_o _ _ (by omega)], (F (512 + p) 10 (by unfold pcFl; omega)).1⟩) (fun o k _ _ => (F o k (by unfold pcFl; omega)).1), K_gB t14 nl12 (Nat.le_refl _) (fun l k _ => F (64 + l) k (by unfold pcFl; omega))⟩, DY_grow hd (Nat.le_refl _) (Nat.le_refl _) (Nat.le_refl _) (Nat.le_succ _) (fun p a b => absurd b (by omega)) (fun p a b => absurd b (by omega)) (fun p a b => absurd b (by omega)) (fun g a b j hj => by rw [one_more a b]; exact hQ j hj) (fun p a b => absurd b (by omega))⟩
def pcPl (np o k : Nat) : Prop := o = 128 + np ∨ (o = 2 ∧ (k = 4 ∨ k = 5))
def pmPl (o k : Nat) : Prop := o = 8 ∧ (k = 47 ∨ k = 21 ∨ k = 48 ∨ (16 ≤ k ∧ k ≤ 20))
theorem ST_plane {cK cK' : Nat → Nat} {nf nl np nq nb ng : Nat} {Sc Sm Sc' Sm' : yS} (hT : ST cK nf nl np nq nb ng Sc Sm) (hD : DY cK nf nl np nq nb ng Sc Sm) (hn : np < 8) (F : FR (pcPl np) Sc Sc') (G : FR pmPl Sm Sm') (hM : cM nf nl np nb cK cK') (hRD : RDc cK' (Sm'.2.1 8 10) (Sc'.2.1 1 7)) (hE : cE cK' nl (np + 1) nb Sc') (h6 : Sc'.2.1 2 4 = upd (Sc.2.1 2 4) np 1) (h7 : Sc'.1 2 5 = Int32.ofNat (np + 1)) (m22 : Sm'.1 8 21 = Int32.ofNat (np + 1)) (m : ∀ k p, 16 ≤ k → k ≤ 20 → p < np → Sm'.2.1 8 k p = Sm.2.1 8 k p) (hP0 : P0 Sc' Sm' np) (w : ∀ i, (i < 19 + 23 * np ∨ 42 + 23 * np ≤ i) → Sm'.2.1 8 48 i = Sm.2.1 8 48 i) (hQ : ∀ j, j < 12 → Sm'.2.1 8 48 (19 + 23 * np + j) = Sc'.1 (128 + np) (pS j)) (hI : PI cK' nf nl nq ng Sc' Sm' np) : ST cK' nf nl (np + 1) nq nb ng Sc' Sm' ∧ DY cK' nf nl (np + 1) nq nb ng Sc' Sm' := by
  obtain ⟨t1, t2, t3, t4, t5, t6, t7, t8, t9, t10, t11, t12, t13, t14⟩ := id hT
  have nf8 : nf ≤ 8 := t1.2.1
  have nl12 : nl ≤ 12 := t2.2.1
  have np8 : np ≤ 8 := t7.1.2.1
  have nq8 : nq ≤ 8 := t7.2.1.2.1
  have nb30 : nb ≤ 30 := t7.2.2.1.2.1
  have ng24 : ng ≤ 24 := t7.2.2.2.2.1
  have hC : oC (np + 1) nq nb ng Sc' Sm' := by
    obtain ⟨o1, o2, o3, o4⟩ := t7
    refine ⟨⟨by rw [h7]; exact nn_lit _ (by omega), by omega, by rw [h7, m22]⟩, ?_, ?_, ?_⟩
    · rw [(F 2 7 (by unfold pcPl; omega)).1, (G 8 22 (by unfold pmPl; omega)).1]; exact o2
    · rw [(F 2 9 (by unfold pcPl; omega)).1, (G 8 28 (by unfold pmPl; omega)).1]; exact o3
    · rw [(F 2 12 (by unfold pcPl; omega)).1, (G 8 33 (by unfold pmPl; omega)).1]; exact o4
  have hd : DY cK' nf nl np nq nb ng Sc' Sm' := K_DY hD (hM) t3.2.2.2 (Nat.le_refl _) (nf8) (Nat.le_refl _) nl12 np8 nq8 nb30 ng24 (fun k _ _ => F 2 k (by unfold pcPl; omega)) (fun k => F 3 k (by unfold pcPl; omega)) (fun l _ => (F (64 + l) 2 (by unfold pcPl; omega)).1) (fun p k _ _ _ => F (128 + p) k (by unfold pcPl; omega)) (fun p k _ _ => F (256 + p) k (by unfold pcPl; omega)) (fun p k _ _ _ => F (384 + p) k (by unfold pcPl; omega)) (fun p k _ _ => F (512 + p) k (by unfold pcPl; omega)) ((G 8 34 (by unfold pmPl; omega)).1) (fun i _ => w i (by omega))
  exact ⟨⟨K_RF t1 (fun k _ => F 1 k (by unfold pcPl; omega)) (fun k _ => G 8 k (by unfold pmPl; omega)) (fun i _ _ => w i (by omega)), K_RG t2 (fun k _ _ => F 1 k (by unfold pcPl; omega)) (fun l k _ => F (64 + l) k (by unfold pcPl; omega)) (fun k _ _ => G 8 k (by unfold pmPl; omega)), ⟨hRD, hE⟩, K_RT t4 (fun k _ _ _ => F 1 k (by unfold pcPl; omega)) (fun k _ _ => G 8 k (by unfold pmPl; omega)), K_RR t5 (fun k _ => ⟨F 4 k (by unfold pcPl; omega), F 5 k (by unfold pcPl; omega)⟩) (fun k _ _ => G 8 k (by unfold pmPl; omega)), K_RS t6 (F 3 0 (by unfold pcPl; omega)) (F 2 15 (by unfold pcPl; omega)) (F 2 16 (by unfold pcPl; omega)) (fun k _ _ => G 8 k (by unfold pmPl; omega)), hC, fun p hp => by
    rcases Nat.lt_or_ge p np with z | z
    · exact K_P0 (t8 p z) (by rw [h6, upd_o _ _ (by omega)]) (fun k _ => (F (128 + p) k (by unfold pcPl; omega)).1) (fun k a b => m k p a b z)
    · rw [one_more z hp]; exact hP0, fun q hq => (congrFun (F 2 6 (by unfold pcPl; omega)).2 q).trans (t9 q hq), fun b hb => K_B0 (t10 b hb) (Nat.le_refl _) (congrFun (F 2 8 (by unfold pcPl; omega)).2 b) (fun k _ => (F (384 + b) k (by unfold pcPl; omega)).1) (fun k _ _ => congrFun (G 8 k (by unfold pmPl; omega)).2 b), fun g hg => K_L0 (t11 g hg) (Nat.le_refl _) (Nat.le_succ _) (Nat.le_refl _) (congrFun (F 2 11 (by unfold pcPl; omega)).2 g) (fun k _ => (F (512 + g) k (by unfold pcPl; omega)).1) (fun k _ _ => congrFun (G 8 k (by unfold pmPl; omega)).2 g), K_oR t12 nb30 (F 2 10 (by unfold pcPl; omega)) (fun b k _ _ => F (384 + b) k (by unfold pcPl; omega)), K_oN t13 (Nat.le_succ _) (Nat.le_refl _) (Nat.le_refl _) (Nat.le_refl _) (fun p _ _ => ⟨by rw [h6, upd_o _ _ (by omega)], (F (128 + p) 20 (by unfold pcPl; omega)).1⟩) (fun p _ _ => ⟨congrFun (F 2 6 (by unfold pcPl; omega)).2 p, (F (256 + p) 4 (by unfold pcPl; omega)).1⟩) (fun p _ _ => ⟨congrFun (F 2 8 (by unfold pcPl; omega)).2 p, (F (384 + p) 11 (by unfold pcPl; omega)).1⟩) (fun p _ _ => ⟨congrFun (F 2 11 (by unfold pcPl; omega)).2 p, (F (512 + p) 10 (by unfold pcPl; omega)).1⟩) (fun o k _ _ => (F o k (by unfold pcPl; omega)).1), K_gB t14 nl12 (Nat.le_refl _) (fun l k _ => F (64 + l) k (by unfold pcPl; omega))⟩, DY_grow hd (Nat.le_succ _) (Nat.le_refl _) (Nat.le_refl _) (Nat.le_refl _) (fun p a b j hj => by rw [one_more a b]; exact hQ j hj) (fun p a b => absurd b (by omega)) (fun p a b => absurd b (by omega)) (fun p a b => absurd b (by omega)) (fun p a b => by rw [one_more a b]; exact hI)⟩
def pcBa (nb o k : Nat) : Prop := o = 384 + nb ∨ (o = 2 ∧ (k = 8 ∨ k = 9 ∨ k = 10))
def pmBa (o k : Nat) : Prop := o = 8 ∧ (k = 47 ∨ k = 28 ∨ k = 48 ∨ (23 ≤ k ∧ k ≤ 27))
theorem ST_bag {cK cK' : Nat → Nat} {nf nl np nq nb ng : Nat} {Sc Sm Sc' Sm' : yS} (hT : ST cK nf nl np nq nb ng Sc Sm) (hD : DY cK nf nl np nq nb ng Sc Sm) (hn : nb < 30) (F : FR (pcBa nb) Sc Sc') (G : FR pmBa Sm Sm') (hM : cM nf nl np nb cK cK') (hRD : RDc cK' (Sm'.2.1 8 10) (Sc'.2.1 1 7)) (hE : cE cK' nl np (nb + 1) Sc') (h6 : Sc'.2.1 2 8 = upd (Sc.2.1 2 8) nb 1) (h7 : Sc'.1 2 9 = Int32.ofNat (nb + 1)) (m22 : Sm'.1 8 28 = Int32.ofNat (nb + 1)) (m : ∀ k p, 23 ≤ k → k ≤ 27 → p < nb → Sm'.2.1 8 k p = Sm.2.1 8 k p) (hB0 : B0 nf Sc' Sm' nb) (hO : oR (nb + 1) Sc') (w : ∀ i, (i < 235 + 37 * nb ∨ 272 + 37 * nb ≤ i) → Sm'.2.1 8 48 i = Sm.2.1 8 48 i) (hB : DB1 nb Sc' Sm' ∧ DS1 cK' nb Sc' Sm' ∧ BI cK' nf Sc' nb) : ST cK' nf nl np nq (nb + 1) ng Sc' Sm' ∧ DY cK' nf nl np nq (nb + 1) ng Sc' Sm' := by
  obtain ⟨t1, t2, t3, t4, t5, t6, t7, t8, t9, t10, t11, t12, t13, t14⟩ := id hT
  have nf8 : nf ≤ 8 := t1.2.1
  have nl12 : nl ≤ 12 := t2.2.1
  have np8 : np ≤ 8 := t7.1.2.1
  have nq8 : nq ≤ 8 := t7.2.1.2.1
  have nb30 : nb ≤ 30 := t7.2.2.1.2.1
  have ng24 : ng ≤ 24 := t7.2.2.2.2.1
  have hC : oC np nq (nb + 1) ng Sc' Sm' := by
    obtain ⟨o1, o2, o3, o4⟩ := t7
    refine ⟨?_, ?_, ⟨by rw [h7]; exact nn_lit _ (by omega), by omega, by rw [h7, m22]⟩, ?_⟩
    · rw [(F 2 5 (by unfold pcBa; omega)).1, (G 8 21 (by unfold pmBa; omega)).1]; exact o1
    · rw [(F 2 7 (by unfold pcBa; omega)).1, (G 8 22 (by unfold pmBa; omega)).1]; exact o2
    · rw [(F 2 12 (by unfold pcBa; omega)).1, (G 8 33 (by unfold pmBa; omega)).1]; exact o4
  have hd : DY cK' nf nl np nq nb ng Sc' Sm' := K_DY hD (hM) t3.2.2.2 (Nat.le_refl _) (nf8) (Nat.le_refl _) nl12 np8 nq8 nb30 ng24 (fun k _ _ => F 2 k (by unfold pcBa; omega)) (fun k => F 3 k (by unfold pcBa; omega)) (fun l _ => (F (64 + l) 2 (by unfold pcBa; omega)).1) (fun p k _ _ _ => F (128 + p) k (by unfold pcBa; omega)) (fun p k _ _ => F (256 + p) k (by unfold pcBa; omega)) (fun p k _ _ _ => F (384 + p) k (by unfold pcBa; omega)) (fun p k _ _ => F (512 + p) k (by unfold pcBa; omega)) ((G 8 34 (by unfold pmBa; omega)).1) (fun i _ => w i (by omega))
  exact ⟨⟨K_RF t1 (fun k _ => F 1 k (by unfold pcBa; omega)) (fun k _ => G 8 k (by unfold pmBa; omega)) (fun i _ _ => w i (by omega)), K_RG t2 (fun k _ _ => F 1 k (by unfold pcBa; omega)) (fun l k _ => F (64 + l) k (by unfold pcBa; omega)) (fun k _ _ => G 8 k (by unfold pmBa; omega)), ⟨hRD, hE⟩, K_RT t4 (fun k _ _ _ => F 1 k (by unfold pcBa; omega)) (fun k _ _ => G 8 k (by unfold pmBa; omega)), K_RR t5 (fun k _ => ⟨F 4 k (by unfold pcBa; omega), F 5 k (by unfold pcBa; omega)⟩) (fun k _ _ => G 8 k (by unfold pmBa; omega)), K_RS t6 (F 3 0 (by unfold pcBa; omega)) (F 2 15 (by unfold pcBa; omega)) (F 2 16 (by unfold pcBa; omega)) (fun k _ _ => G 8 k (by unfold pmBa; omega)), hC, fun p hp => K_P0 (t8 p hp) (congrFun (F 2 4 (by unfold pcBa; omega)).2 p) (fun k _ => (F (128 + p) k (by unfold pcBa; omega)).1) (fun k _ _ => congrFun (G 8 k (by unfold pmBa; omega)).2 p), fun q hq => (congrFun (F 2 6 (by unfold pcBa; omega)).2 q).trans (t9 q hq), fun b hb => by
    rcases Nat.lt_or_ge b nb with z | z
    · exact K_B0 (t10 b z) (Nat.le_refl _) (by rw [h6, upd_o _ _ (by omega)]) (fun k _ => (F (384 + b) k (by unfold pcBa; omega)).1) (fun k a e => m k b a e z)
    · rw [one_more z hb]; exact hB0, fun g hg => K_L0 (t11 g hg) (Nat.le_refl _) (Nat.le_refl _) (Nat.le_refl _) (congrFun (F 2 11 (by unfold pcBa; omega)).2 g) (fun k _ => (F (512 + g) k (by unfold pcBa; omega)).1) (fun k _ _ => congrFun (G 8 k (by unfold pmBa; omega)).2 g), hO, K_oN t13 (Nat.le_refl _) (Nat.le_refl _) (Nat.le_succ _) (Nat.le_refl _) (fun p _ _ => ⟨congrFun (F 2 4 (by unfold pcBa; omega)).2 p, (F (128 + p) 20 (by unfold pcBa; omega)).1⟩) (fun p _ _ => ⟨congrFun (F 2 6 (by unfold pcBa; omega)).2 p, (F (256 + p) 4 (by unfold pcBa; omega)).1⟩) (fun p _ _ => ⟨by rw [h6, upd_o _ _ (by omega)], (F (384 + p) 11 (by unfold pcBa; omega)).1⟩) (fun p _ _ => ⟨congrFun (F 2 11 (by unfold pcBa; omega)).2 p, (F (512 + p) 10 (by unfold pcBa; omega)).1⟩) (fun o k _ _ => (F o k (by unfold pcBa; omega)).1), K_gB t14 nl12 (Nat.le_refl _) (fun l k _ => F (64 + l) k (by unfold pcBa; omega))⟩, DY_grow hd (Nat.le_refl _) (Nat.le_refl _) (Nat.le_succ _) (Nat.le_refl _) (fun p a b => absurd b (by omega)) (fun p a b => absurd b (by omega)) (fun p a b => by rw [one_more a b]; exact hB) (fun p a b => absurd b (by omega)) (fun p a b => absurd b (by omega))⟩
