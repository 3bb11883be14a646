/-! SEND, both whole -/
theorem PLn_x {n nf : Nat} {pl ta : Nat → Nat} {q : Nat → Nat → Nat} {wy : Nat → Nat → Bool} {sp : Nat → Nat} {S S' : yS} (h : PLn n nf pl ta q wy sp S) (a : S'.1 = S.1) (b : ∀ o k, ¬ (o = 6 ∧ k = 1) → S'.2.1 o k = S.2.1 o k) : PLn n nf pl ta q wy sp S' := by
  unfold PLn
  rw [a, b 6 0 (by decide), b 2 4 (by decide), b 1 7 (by decide), b 1 2 (by decide)]
  exact h
theorem C_send {N : Nat} {Sc Sm : yS} (h : RAe Sc Sm) (hN : 300 < N) : cAll (f_X11_send N Sc) (f_X12_send N Sm) := by
  obtain ⟨cK, nf, nl, np, nq, nb, ng, r, x, hA⟩ := h
  obtain ⟨hT1, hD1⟩ := clear_both hA.1 hA.2.1
  obtain ⟨S1, M1, n, a1, a2, a3, a4, a5, a6, a7, a8, a9⟩ := list_both (N := N) (by omega) hT1 hD1
  have np8 : np ≤ 8 := a8.2.2.2.2.2.2.1.1.2.1
  have nf8 : nf ≤ 8 := a8.1.2.1
  obtain ⟨pl, hpl'⟩ : ∃ pl : Nat → Nat, pl = fun i => (S1.2.1 6 0 i).toNatClampNeg := ⟨_, rfl⟩
  obtain ⟨ta, hta'⟩ : ∃ ta : Nat → Nat, ta = fun i => (S1.1 (128 + pl i) 8).toNatClampNeg := ⟨_, rfl⟩
  obtain ⟨sp, hsp'⟩ : ∃ sp : Nat → Nat, sp = fun f => (S1.2.1 1 2 f).toNatClampNeg := ⟨_, rfl⟩
  obtain ⟨wy, hwy'⟩ : ∃ wy : Nat → Nat → Bool, wy = fun f i => decide (cK f = cK (ta i)) := ⟨_, rfl⟩
  obtain ⟨q, hq'⟩ : ∃ q : Nat → Nat → Nat, q = fun f i => ((S1.2.1 1 7 (8 * f + ta i)).toNatClampNeg + 8 - 1) / 8 := ⟨_, rfl⟩
  have hP : ∀ i, i < n → nn (S1.2.1 6 0 i) (pl i) ∧ pl i < np ∧ nn (S1.1 (128 + pl i) 8) (ta i) ∧ ta i < nf := fun i hi => by
    obtain ⟨p, p1, p2, p3⟩ := a5 i hi
    have e : pl i = p := by rw [hpl']; exact p1.nat
    have z := (a9.2.2.2.2.2.2.2.2 p p2).2.2.2.1
    rcases z with ⟨⟨f, f1, f2, _⟩, _⟩ | ⟨z, _⟩
    · have e2 : ta i = f := by rw [hta', ← e] at *; exact f1.nat
      rw [e2, e]
      exact ⟨p1, p2, f1, f2⟩
    · exact absurd z p3
  have hR : ∀ f, f < nf → ∀ i, i < n → (wy f i = true → ∃ v, nn (S1.2.1 1 7 (8 * f + ta i)) v ∧ nn (M1.2.1 8 10 (8 * f + ta i)) v ∧ v ≤ 2800 ∧ q f i = (v + 8 - 1) / 8) ∧ (wy f i = false → S1.2.1 1 7 (8 * f + ta i) = 1000000 ∧ M1.2.1 8 10 (8 * f + ta i) = 268435456) := fun f hf i hi => by
    have t := (hP i hi).2.2.2
    obtain ⟨u, v, u1, v1, e1, e2⟩ := a8.2.2.1.1 f (ta i) (by omega) (by omega)
    have cr := cntR_le cK (cK f) 8
    constructor
    · intro w
      rw [hwy'] at w
      obtain ⟨z1, z2⟩ := e1 (of_decide_eq_true w)
      subst z1
      refine ⟨u, v1, u1, ?_, by rw [hq']; show ((S1.2.1 1 7 (8 * f + ta i)).toNatClampNeg + 8 - 1) / 8 = _; rw [v1.nat]⟩
      have : 400 * (cntR cK (cK f) 8 - 1) ≤ 400 * 7 := Nat.mul_le_mul_left _ (by omega)
      omega
    · intro w
      rw [hwy'] at w
      obtain ⟨z1, z2⟩ := e2 (of_decide_eq_false w)
      subst z1; subst z2
      exact ⟨v1.1, u1.1⟩
  have hSp : ∀ f, f < nf → nn (S1.2.1 1 2 f) (sp f) ∧ sp f ≤ 9 ∧ S1.2.1 1 2 f = M1.2.1 8 48 (4 + 2 * f) := fun f hf => by
    obtain ⟨_, _, y3, _, s, s1, s2⟩ := a8.1.2.2.2 f (by omega)
    rw [← y3] at s1
    have e : sp f = s := by rw [hsp']; exact s1.nat
    rw [e]; exact ⟨s1, s2, y3⟩
  have hL : PLn n nf pl ta q wy sp S1 := ⟨a3.1, by omega, nf8, a8.1.1, fun i hi => by
    obtain ⟨p1, p2, p3, p4⟩ := hP i hi
    exact ⟨p1, by omega, (a8.2.2.2.2.2.2.2.1 _ p2).1, p3, by omega⟩, fun f hf i hi => ⟨fun w => by
    obtain ⟨v, v1, _, v3, v4⟩ := (hR f hf i hi).1 w
    exact ⟨v, v1, v3, v4⟩, fun w => ((hR f hf i hi).2 w).1⟩, fun f hf => ⟨(hSp f hf).1, (hSp f hf).2.1⟩⟩
  have hM1 : PMn n nf pl ta q wy M1 := ⟨by rw [a3.2.1]; exact a3.1, by omega, nf8, by rw [a8.1.2.2.1]; exact a8.1.1, fun i hi => by
    obtain ⟨p1, p2, p3, p4⟩ := hP i hi
    refine ⟨by rw [← a3.2.2 i hi]; exact p1, by omega, ?_, by omega⟩
    rw [a9.2.2.2.2.1 _ p2 0 (by decide)]
    exact p3, fun f hf i hi => ⟨fun w => by
    obtain ⟨v, _, v2, v3, v4⟩ := (hR f hf i hi).1 w
    exact ⟨v, v2, v3, v4⟩, fun w => ((hR f hf i hi).2 w).2⟩⟩
  obtain ⟨s, S2, b1, b2, b3, b4, b5, b6⟩ := share_c (N := N) hN a1 hL
  have FM4 : FR pSd M1 (yI (yI M1 8 62 (-1)) 8 63 0) := FR_trans (FR_I _ _ _ _ (by unfold pSd; omega)) (FR_I _ _ _ _ (by unfold pSd; omega))
  have hM4 := PMn_t hM1 FM4 (fun _ _ => rfl)
  obtain ⟨M5, B', c1, c2, c3, c4, c5, c6, c7, _⟩ := send_r (N := N) (sp := sp) (by omega) hM4 n 0 10 (yI (yI M1 8 62 (-1)) 8 63 0) (fun _ => 8) none (by omega) (by omega) ⟨FR_refl _ _, fun _ _ => rfl, fun f hf => ⟨by
    obtain ⟨y1, y2, y3⟩ := hSp f hf
    show nn (M1.2.1 8 48 (4 + 2 * f)) (sp f - 0)
    rw [← y3]; exact y1, Nat.zero_le _, (hSp f hf).2.1⟩, fun j hj => absurd hj (Nat.not_lt_zero _)⟩ ⟨fun _ => ⟨by rw [yI_1n _ _ (by decide), yI_1s], by rw [yI_1s]⟩, fun b z => by cases z⟩ (fun b z => by cases z)
  obtain ⟨b, d1, d2⟩ := c7 s b2.1 (fun j hj => absurd hj (Nat.not_lt_zero _))
  obtain ⟨_, d3, d4, d5, _⟩ := c5.2 b d1
  have te : totS q s n = totS q b n := Nat.le_antisymm (b2.2 b d5) d2
  have sb : ∀ i, i < n → s i = b i := fun i hi => by
    have n8 : n ≤ 8 := by omega
    rw [tot_eq, tot_eq] at te
    have x1 := dg_get (s := s) (fun j hj => (b2.1.1 j hj).1) n8 hi (unS s n * 4096 + quS q s n)
    have x2 := dg_get (s := b) (fun j hj => (d5.1 j hj).1) n8 hi (unS b n * 4096 + quS q b n)
    rw [te] at x1
    exact x1.symm.trans x2
  rw [← qu_c n sb] at d3
  -- the last loops
  have hM5 := PMn_t hM4 c2 (fun j _ => by rw [c3.1])
  have hM6 : PMn n nf pl ta q wy (yI M5 8 46 (M5.1 8 59)) := ⟨by rw [yI_1n _ _ (by decide)]; exact hM5.1, hM5.2.1, hM5.2.2.1, by rw [yI_1n _ _ (by decide)]; exact hM5.2.2.2.1, hM5.2.2.2.2.1, hM5.2.2.2.2.2⟩
  have F12 : FR pRC S1 S2 := fun o k z => ⟨by rw [b4], b5 o k (fun y => z (by unfold pRC; omega))⟩
  have G16 : FR pRM M1 (yI M5 8 46 (M5.1 8 59)) := fun o k z => by
    have nz : ¬ (o = 8 ∧ k = 46) := fun y => z (by unfold pRM; omega)
    have e5 : M5.1 o k = M1.1 o k ∧ M5.2.1 o k = M1.2.1 o k := by
      by_cases y : o = 8 ∧ k = 48
      · obtain ⟨rfl, rfl⟩ := y
        exact ⟨c3.2.trans (by rw [yI_1n _ _ (by decide), yI_1n _ _ (by decide)]), c3.1⟩
      · have y1 := c2 o k (by unfold pSd; unfold pRM at z; omega)
        have y2 := FM4 o k (by unfold pSd; unfold pRM at z; omega)
        exact ⟨y1.1.trans y2.1, y1.2.trans y2.2⟩
    exact ⟨(yI_1n _ _ nz).trans e5.1, e5.2⟩
  obtain ⟨f1, f2⟩ := row_ST a8 a9 F12 G16
  obtain ⟨S', M', g1, g2, g3, g4, g5, g6, g7, g8, g9⟩ := send_loop (N := N) (Q := Int32.ofNat (quS q s n)) (PLn_x hL b4 b5) hM6 b2.1 (fun i hi => (hP i hi).2.1) (fun j hj => b6 j hj) (fun j hj => by rw [sb j hj]; exact d4 j hj) n 0 N N S2 (yI M5 8 46 (M5.1 8 59)) (by omega) (by omega) (by omega) ⟨f1, f2, FR_refl _ _, FR_refl _ _, fun _ _ => rfl, fun f hf => ⟨by
    rw [b5 1 2 (by decide)]
    show nn _ (sp f - 0)
    exact (hSp f hf).1, (hSp f hf).2.1⟩, fun j hj => absurd hj (Nat.not_lt_zero _)⟩
  have e63 : (yI M5 8 46 (M5.1 8 59)).1 8 63 = Int32.ofNat (quS q s n) := by rw [yI_1n _ _ (by decide)]; exact d3.1
  rw [e63] at g2
  obtain ⟨h1, h2⟩ := row_ST (Sc' := yI S' 0 8 (Int32.ofNat n)) g3 g4 (FR_I _ _ _ _ (by unfold pRC; omega)) (FR_refl _ _)
  refine ⟨Int32.ofNat (quS q s n), yI S' 0 8 (Int32.ofNat n), M', ?_, ?_, cK, nf, nl, np, nq, nb, ng, n, x, h1, h2, ⟨?_, by omega, ?_, fun i hi => ?_⟩, ?_, hA.2.2.2.2⟩
  · unfold f_X11_send f_X11_send_0
    rw [b1, bS_s]
    exact g1
  · unfold f_X12_send f_X12_send_0
    rw [sq_s, a2, bS_s, sq_s, sq_s]
    have c1' : f_X12_sendFromT N (yI (yI M1 8 62 (-1)) 8 63 0) 0 0 0 = some (0, M5) := c1
    rw [c1', bS_s, sq_s]
    exact g2
  · rw [yI_1s]; exact nn_lit n (by omega)
  · rw [yI_1s, (g6 8 46 (by unfold pRr; omega)).1, yI_1s]
    exact hM5.1.1
  · rw [yI_2, (g9 i hi).1]; exact (g9 i hi).2
  · have s0 : ∀ k, k ≠ 7 → k ≠ 8 → (yI S' 0 8 (Int32.ofNat n)).1 0 k = Sc.1 0 k ∧ (yI S' 0 8 (Int32.ofNat n)).2.1 0 k = Sc.2.1 0 k := fun k k7 k8 => by
      have y1 := g5 0 k (by unfold pRn; omega)
      have y2 := a6 0 k (by omega)
      refine ⟨?_, ?_⟩
      · rw [yI_1n _ _ (by omega), y1.1, b4, y2.1]
      · rw [yI_2, y1.2, b5 0 k (by omega), y2.2]
    have m0 : ∀ k, k = 43 ∨ k = 44 → M'.1 8 k = Sm.1 8 k ∧ M'.2.1 8 k = Sm.2.1 8 k := fun k hk => by
      have y1 := g6 8 k (by unfold pRr; omega)
      have y2 := G16 8 k (by unfold pRM; omega)
      have y3 := a7 8 k (by omega)
      refine ⟨?_, ?_⟩
      · rw [y1.1, y2.1, y3.1, yI_1n _ _ (by omega)]
      · rw [y1.2, y2.2, y3.2, yI_2]
    exact K_RX hA.2.2.2.1 (s0 5 (by decide) (by decide)) (s0 6 (by decide) (by decide)) (m0 43 (Or.inl rfl)) (m0 44 (Or.inr rfl))
