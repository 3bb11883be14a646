theorem RBd_fr {cK : Nat → Nat} {nf nb : Nat} {Sc Sm Sc' Sm' : yS} (h : RBd cK nf nb Sc Sm) (hnb : nb ≤ 30) (c : ∀ b, b < 30 → ∀ k, Sc'.1 (384 + b) k = Sc.1 (384 + b) k ∧ Sc'.2.1 (384 + b) k = Sc.2.1 (384 + b) k) (w : ∀ i, 235 ≤ i → i < 1345 → Sm'.2.1 8 48 i = Sm.2.1 8 48 i) : RBd cK nf nb Sc' Sm' := by
  intro b hb
  obtain ⟨x1, ⟨n, n1, n2, n3⟩, x3⟩ := h b hb
  have cb := c b (by omega)
  refine ⟨fun j hj => ?_, ⟨n, by rw [(cb 10).1]; exact n1, ⟨n2.1, n2.2.1, fun j hj => by rw [(cb 9).2]; exact n2.2.2 j hj⟩, fun j hj => ?_⟩, ?_⟩
  · rw [w _ (by omega) (by omega), (cb _).1]
    exact x1 j hj
  · rw [w _ (by omega) (by omega), (cb 9).2]
    exact n3 j hj
  · unfold BI
    rw [(cb 8).1, (cb 5).1, (cb 6).1]
    exact x3
theorem RBs_of {cK : Nat → Nat} {nf nl np nq nb ng : Nat} {Sc Sm : yS} (hT : ST cK nf nl np nq nb ng Sc Sm) (hD : DY cK nf nl np nq nb ng Sc Sm) : RBs cK nf nb Sc Sm := by
  obtain ⟨t1, t2, t3, t4, t5, t6, t7, t8, t9, t10, t11, t12, t13, t14⟩ := hT
  obtain ⟨d1, d2, d3, d4, d5, d6, d7, d8, d9⟩ := hD
  exact ⟨t7.2.2.1.1, t7.2.2.1.2.1, t7.2.2.1.2.2, fun b hb => ⟨(t10 b hb).1, (t10 b hb).2.2.1, Exists.elim (t10 b hb).2.2.2.2.2.2.2.1 fun a ha => ⟨a, ha.1, ha.2, t3.2.2.1 b hb a (Or.inr ha.1)⟩⟩, d1, d3⟩
theorem RBs_fr {cK : Nat → Nat} {nf nb : Nat} {Sc Sm Sc' Sm' : yS} (h : RBs cK nf nb Sc Sm) (c2 : Sc'.1 2 9 = Sc.1 2 9 ∧ Sc'.1 2 13 = Sc.1 2 13 ∧ Sc'.2.1 2 8 = Sc.2.1 2 8) (cb : ∀ b, b < 30 → Sc'.1 (384 + b) 1 = Sc.1 (384 + b) 1) (m : Sm'.1 8 28 = Sm.1 8 28 ∧ Sm'.2.1 8 24 = Sm.2.1 8 24 ∧ Sm'.2.1 8 48 0 = Sm.2.1 8 48 0) : RBs cK nf nb Sc' Sm' := by
  obtain ⟨h1, h2, h3, h4, h5, h6⟩ := h
  refine ⟨by rw [c2.1]; exact h1, h2, by rw [c2.1, m.1]; exact h3, fun b hb => ?_, by rw [m.2.2, c2.2.1]; exact h5, by rw [c2.2.1]; exact h6⟩
  rw [c2.2.2, m.2.1, cb b (by omega)]
  exact h4 b hb
theorem RT_fr {k : Nat} {Sc Sm Sc' Sm' : yS} (h : RT k Sc Sm) (c : Sc'.1 1 = Sc.1 1 ∧ Sc'.2.1 1 = Sc.2.1 1) (m : ∀ s, s ≠ 48 → Sm'.1 8 s = Sm.1 8 s ∧ Sm'.2.1 8 s = Sm.2.1 8 s) : RT k Sc' Sm' := RT_congr h (by rw [c.1]) (m 15 (by decide)).1 (by rw [c.2]) (by rw [c.2]) (by rw [c.2]) (by rw [c.2]) (m 11 (by decide)).2 (m 12 (by decide)).2 (m 13 (by decide)).2 (m 14 (by decide)).2
theorem em_lamp {N f : Nat} {S : yS} {x : Int32} (hx : nn x f) (hf : f < 8) : f_X12_hasLamp N S x = some (b01 (S.2.1 8 48 (3 + 2 * f) = 1)) := by
  unfold f_X12_hasLamp f_X12_hasLamp_0 f_X12_hasLamp_21
  rw [gA_nn (nn_add (nn_add (nn_l 3 (by decide)) (nn_mul (nn_l 2 (by decide)) hx (by omega)) (by omega)) (nn_l 0 (by decide)) (by omega)) (by omega), Nat.add_zero]
  by_cases z : S.2.1 8 48 (3 + 2 * f) = 1
  · rw [if_neg (fun q => q z), gP_t (Or.inr rfl), b01_t z]
  · rw [if_pos z, gP_t (Or.inl rfl), b01_f z]
def pLd (p q g o k : Nat) : Prop := pUn p q o k ∨ (o = 128 + p ∧ k = 13) ∨ (o = 512 + g ∧ (k = 4 ∨ k = 6)) ∨ (o = 3 ∧ k ≠ 0)
theorem land_both {cK : Nat → Nat} {N nf nl np nq nb ng p fi : Nat} {Sc Sm : yS} {pI f : Int32} (hT : ST cK nf nl np nq nb ng Sc Sm) (hD : DY cK nf nl np nq nb ng Sc Sm) (hN : 120 < N) (hp : p < np) (hpI : nn pI p) (hal : Sc.1 (128 + p) 8 = -1) (hdn : Sc.1 (128 + p) 12 = 0) (hf : nn f fi) (hfi : fi < nf) (hcf : cK fi = cK (128 + p)) : ∃ Sc' Sm', (bS (f_X10_comeIn N Sc (128 + p) f) fun _ S2 => f_X10_unload N S2 pI f) = some (0, Sc') ∧ f_X12_land N Sm pI f = some (0, Sm') ∧ DY cK nf nl np nq nb ng Sc' Sm' ∧ QF cK Sc Sm Sc' Sm' := by
  have hD0 := hD
  have hbs := RBs_of hT hD
  obtain ⟨d1, d2, d3, d4, d5, d6, d7, d8, d9⟩ := hD
  obtain ⟨t1, t2, t3, t4, t5, t6, t7, t8, t9, t10, t11, t12, t13, t14⟩ := hT
  have np8 : p < 8 := by have := t7.1.2.1; omega
  have nf8 : fi < 8 := by have := t1.2.1; omega
  obtain ⟨i1, i2, i3, i4, i5, i6⟩ := d9 p hp
  rcases i4 with ⟨⟨f', z1, _⟩, _⟩ | ⟨_, i7, ⟨l, m, M, a1, a2, a3, a4, a5⟩, ⟨q, b1, b2⟩, g, g1, g2, g3, g4, g5, g6, g7⟩
  · exact absurd z1.nneg (by rw [hal]; decide)
  have l12 : l < 12 := by have := t2.2.1; omega
  have g24 : g < 24 := by have := t7.2.2.2.2.1; omega
  have q8 : q < 8 := by have := t7.2.1.2.1; omega
  have eF : Sc.2.1 2 11 g = 1 := (t11 g g2).1
  have u : ∀ j kk, j < 12 → pS j = kk → Sm.2.1 8 48 (19 + 23 * p + j) = Sc.1 (128 + p) kk := fun j kk hj hk => by rw [← hk]; exact d5 p hp j hj
  obtain ⟨kt, hRT, _⟩ := t4
  obtain ⟨kw, hRW, hk0, hk1⟩ := d4
  obtain ⟨x1, x2, x3, x4, x5, x6, x7, x8⟩ := t8 p hp
  obtain ⟨y1, y2, y3, y4, y5⟩ := t1.2.2.2 fi nf8
  -- hurt, or not
  have hc : ∃ (SA : yS), f_X10_comeIn N Sc (128 + p) f = f_X10_comeIn_36 N SA (128 + p) f (Sc.1 (128 + p) 9) ∧ FR (fun o k => o = 128 + p ∧ k = 13) Sc SA ∧ (∃ h, nn (SA.1 (128 + p) 13) h ∧ h ≤ 5) ∧ ∀ MB : yS, MB.2.1 8 48 0 = Sc.1 2 13 → MB.2.1 8 48 (3 + 2 * fi) = Sm.2.1 8 48 (3 + 2 * fi) → MB.2.1 8 20 = Sm.2.1 8 20 → MB.2.1 8 48 (19 + 23 * p + 4) = Sc.1 (128 + p) 13 → ∃ MC : yS, (bV (f_X12_isDark N MB (MB.2.1 8 48 0)) fun w5 => if w5 = 0 then f_X12_land_61 N MB f (Sc.1 (128 + p) 9) else bV (f_X12_hasLamp N MB f) fun w6 => if w6 = 0 then f_X12_land_54 N MB pI f (Sc.1 (128 + p) 9) else gA 8 pI fun j2 => if ¬ (MB.2.1 8 20 j2) = 0 then f_X12_land_61 N MB f (Sc.1 (128 + p) 9) else f_X12_land_54 N MB pI f (Sc.1 (128 + p) 9)) = f_X12_land_61 N MC f (Sc.1 (128 + p) 9) ∧ FR (fun o k => o = 8 ∧ k = 48) MB MC ∧ (∀ i, i ≠ 19 + 23 * p + 4 → MC.2.1 8 48 i = MB.2.1 8 48 i) ∧ MC.2.1 8 48 (19 + 23 * p + 4) = SA.1 (128 + p) 13 := by
    obtain ⟨n1, n2⟩ := e_night N Sc
    unfold f_X10_comeIn f_X10_comeIn_0
    by_cases nt : zNt (Sc.1 2 13)
    · rw [n1 nt, bV_s, if_neg i10, gA_nn hf nf8]
      have no : ∀ h : Sc.2.1 1 1 fi = 0 ∨ (¬ Sc.2.1 1 1 fi = 0 ∧ Sc.1 (128 + p) 4 = 0), (if Sc.2.1 1 1 fi = 0 then f_X10_comeIn_31 N Sc (128 + p) f (Sc.1 (128 + p) 9) else if ¬ Sc.1 (128 + p) 4 = 0 then f_X10_comeIn_36 N Sc (128 + p) f (Sc.1 (128 + p) 9) else f_X10_comeIn_31 N Sc (128 + p) f (Sc.1 (128 + p) 9)) = f_X10_comeIn_36 N (yI Sc (128 + p) 13 1) (128 + p) f (Sc.1 (128 + p) 9) := by
        intro h
        rcases h with h | ⟨h, h'⟩
        · rw [if_pos h]; rfl
        · rw [if_neg h, if_neg (fun z => z h')]; rfl
      by_cases li : Sc.2.1 1 1 fi = 0
      · refine ⟨yI Sc (128 + p) 13 1, no (Or.inl li), FR_I _ _ _ _ ⟨rfl, rfl⟩, ⟨1, by rw [yI_1s]; exact nn_l 1 (by decide), by decide⟩, fun MB e0 e1 e2 e3 => ⟨yA MB 8 48 (upd (MB.2.1 8 48) (19 + 23 * p + 4) 1), ?_, FR_A _ _ _ _ ⟨rfl, rfl⟩, fun i hi => by rw [yA_same, upd_o _ _ hi], by rw [yA_same, upd_s, yI_1s]⟩⟩
        rw [e0, (em_dark N MB (Sc.1 2 13)).1 nt, bV_s, if_neg i10, em_lamp hf nf8, bV_s, e1, ← y2, b01_f (by rw [li]; decide), if_pos rfl]
        unfold f_X12_land_54
        rw [em_planeW hpI np8 (nn_l 4 (by decide)) (by decide), bS_s]
      · by_cases ge : Sc.1 (128 + p) 4 = 0
        · refine ⟨yI Sc (128 + p) 13 1, no (Or.inr ⟨li, ge⟩), FR_I _ _ _ _ ⟨rfl, rfl⟩, ⟨1, by rw [yI_1s]; exact nn_l 1 (by decide), by decide⟩, fun MB e0 e1 e2 e3 => ⟨yA MB 8 48 (upd (MB.2.1 8 48) (19 + 23 * p + 4) 1), ?_, FR_A _ _ _ _ ⟨rfl, rfl⟩, fun i hi => by rw [yA_same, upd_o _ _ hi], by rw [yA_same, upd_s, yI_1s]⟩⟩
          rw [e0, (em_dark N MB (Sc.1 2 13)).1 nt, bV_s, if_neg i10, em_lamp hf nf8, bV_s, e1, ← y2, b01_t (by rw [y2]; exact y4.resolve_left (fun z => li (by rw [y2]; exact z))), if_neg i10, gA_nn hpI np8, e2, x6, if_neg (fun z => z ge)]
          unfold f_X12_land_54
          rw [em_planeW hpI np8 (nn_l 4 (by decide)) (by decide), bS_s]
        · refine ⟨Sc, by rw [if_neg li, if_pos ge], FR_refl _ _, i1, fun MB e0 e1 e2 e3 => ⟨MB, ?_, FR_refl _ _, fun i hi => rfl, e3⟩⟩
          rw [e0, (em_dark N MB (Sc.1 2 13)).1 nt, bV_s, if_neg i10, em_lamp hf nf8, bV_s, e1, ← y2, b01_t (by rw [y2]; exact y4.resolve_left (fun z => li (by rw [y2]; exact z))), if_neg i10, gA_nn hpI np8, e2, x6, if_pos ge]
    · rw [n2 nt, bV_s, if_pos rfl]
      refine ⟨Sc, rfl, FR_refl _ _, i1, fun MB e0 e1 e2 e3 => ⟨MB, ?_, FR_refl _ _, fun i hi => rfl, e3⟩⟩
      rw [e0, (em_dark N MB (Sc.1 2 13)).2 nt, bV_s, if_pos rfl]
  obtain ⟨SA, hA1, hA2, hA3, hA4⟩ := hc
  have cA : ∀ o k, (o ≠ 128 + p ∨ k ≠ 13) → SA.1 o k = Sc.1 o k ∧ SA.2.1 o k = Sc.2.1 o k := fun o k z => hA2 o k (fun y => by have := y.1; have := y.2; omega)
  -- the flight ends
  obtain ⟨SB, hSB⟩ : ∃ SB, SB = yI (yI SA (512 + g) 4 2) (512 + g) 6 (Sc.1 2 13) := ⟨_, rfl⟩
  have cB : ∀ o k, (o ≠ 128 + p ∨ k ≠ 13) → (o ≠ 512 + g ∨ (k ≠ 4 ∧ k ≠ 6)) → SB.1 o k = Sc.1 o k ∧ SB.2.1 o k = Sc.2.1 o k := fun o k z y => by
    rw [hSB]
    exact ⟨by rw [yI_1n _ _ (by omega), yI_1n _ _ (by omega)]; exact (cA o k z).1, (cA o k z).2⟩
  obtain ⟨MA, hMA⟩ : ∃ MA, MA = yA Sm 8 48 (upd (upd (Sm.2.1 8 48) (1345 + 5 * g + 0) 2) (1345 + 5 * g + 2) (Sc.1 2 13)) := ⟨_, rfl⟩
  have wA : ∀ i, i ≠ 1345 + 5 * g + 0 → i ≠ 1345 + 5 * g + 2 → MA.2.1 8 48 i = Sm.2.1 8 48 i := fun i z y => by rw [hMA, yA_same, upd_o _ _ y, upd_o _ _ z]
  have oA : ∀ k, k ≠ 48 → MA.1 8 k = Sm.1 8 k ∧ MA.2.1 8 k = Sm.2.1 8 k := fun k z => by rw [hMA]; exact ⟨rfl, yA_2n _ _ (fun y => z y.2)⟩
  have FA : FR (fun o k => o = 8 ∧ k = 48) Sm MA := by rw [hMA]; exact FR_A _ _ _ _ ⟨rfl, rfl⟩
  have c36 : f_X10_comeIn_36 N SA (128 + p) f (Sc.1 (128 + p) 9) = bV (f_X2_cloudAt N SB (Sc.1 (128 + p) 9) (Sc.1 2 13)) fun w2 => bV (f_X2_windAt N SB (Sc.1 (128 + p) 9) (Sc.1 2 13)) fun w3 => bS (f_X9_come N SB f (Sc.1 2 13) (Sc.1 (128 + p) 9) (Sc.1 2 13) w2 w3) fun w4 S2 => some (0, S2) := by
    unfold f_X10_comeIn_36 f_X1_finish f_X1_finish_0
    have e17 : SA.1 (128 + p) 17 = Sc.1 (128 + p) 17 := (cA _ 17 (Or.inr (by decide))).1
    have e13 : SA.1 2 13 = Sc.1 2 13 := (cA 2 13 (Or.inl (by omega))).1
    have e11 : SA.2.1 2 11 = Sc.2.1 2 11 := (cA 2 11 (Or.inl (by omega))).2
    rw [e17, e11, gR_nn g1 g24 eF, e13, sq_s, sq_s, bS_s, ← hSB, (cB 2 13 (Or.inl (by omega)) (Or.inl (by omega))).1]
  have rtB : RT kt SB MA := RT_fr hRT ⟨funext fun k => (cB 1 k (Or.inl (by omega)) (Or.inl (by omega))).1, funext fun k => (cB 1 k (Or.inl (by omega)) (Or.inl (by omega))).2⟩ oA
  have rwB : ∀ X : yS, (∀ k, k ≠ 48 → X.1 8 k = Sm.1 8 k) → (∀ i, (i = 2 ∨ 1465 ≤ i) → X.2.1 8 48 i = Sm.2.1 8 48 i) → RW kw SB X := fun X h1 h2 => RW_congr hRW (cB 3 0 (Or.inl (by omega)) (Or.inl (by omega))).1 (cB 3 1 (Or.inl (by omega)) (Or.inl (by omega))).1 (h1 34 (by decide)) (funext fun k => (cB 3 k (Or.inl (by omega)) (Or.inl (by omega))).2) (h2 2 (Or.inl rfl)) (fun i a b => h2 i (Or.inr a))
  obtain ⟨SC, _, _, s1, _, _, s4, _, _, _, sW⟩ := come_both (N := N) (rwB MA (fun k z => (oA k z).1) (fun i z => wA i (by omega) (by omega))) (wA 0 (by omega) (by omega)) f (Sc.1 (128 + p) 9) (Sc.1 2 13) (sCl SB kt (Sc.1 (128 + p) 9) (Sc.1 2 13)) (sWi SB kt (Sc.1 (128 + p) 9) (Sc.1 2 13))
  rw [d1] at s1
  have cC : ∀ o k, (o ≠ 128 + p ∨ k ≠ 13) → (o ≠ 512 + g ∨ (k ≠ 4 ∧ k ≠ 6)) → (o ≠ 3 ∨ k = 0) → SC.1 o k = Sc.1 o k ∧ SC.2.1 o k = Sc.2.1 o k := fun o k z y x => by
    have e := s4 o k (fun w => by have := w.1; have := w.2; omega)
    rw [e.1, e.2]
    exact cB o k z y
  -- plane, pilot, bags
  have bsC : RBs cK nf nb SC MA := RBs_fr hbs ⟨(cC 2 9 (Or.inl (by omega)) (Or.inl (by omega)) (Or.inl (by omega))).1, (cC 2 13 (Or.inl (by omega)) (Or.inl (by omega)) (Or.inl (by omega))).1, (cC 2 8 (Or.inl (by omega)) (Or.inl (by omega)) (Or.inl (by omega))).2⟩ (fun b hb => (cC (384 + b) 1 (Or.inl (by omega)) (Or.inl (by omega)) (Or.inl (by omega))).1) ⟨(oA 28 (by decide)).1, (oA 24 (by decide)).2, wA 0 (by omega) (by omega)⟩
  have bdC : RBd cK nf nb SC MA := RBd_fr d7 t7.2.2.1.2.1 (fun b hb k => cC (384 + b) k (Or.inl (by omega)) (Or.inl (by omega)) (Or.inl (by omega))) (fun i a b => wA i (by omega) (by omega))
  obtain ⟨SD, MB, v1, v2, v3, v4, v5, v6, v7, v8⟩ := unload_both (N := N) (p := p) (q := q) (pI := pI) (f := f) (by omega) np8 hpI q8 hf hfi hcf (by rw [(cC 2 4 (Or.inl (by omega)) (Or.inl (by omega)) (Or.inl (by omega))).2]; exact x1) (by rw [(cC (128 + p) 16 (Or.inr (by decide)) (Or.inl (by omega)) (Or.inl (by omega))).1]; exact b1) (by rw [(cC 2 6 (Or.inl (by omega)) (Or.inl (by omega)) (Or.inl (by omega))).2]; exact t9 q b2) (by rw [wA _ (by omega) (by omega), (cC (128 + p) 16 (Or.inr (by decide)) (Or.inl (by omega)) (Or.inl (by omega))).1]; exact u 11 16 (by decide) rfl) bsC bdC
  have wB : ∀ i, (i < 235 ∨ 1345 ≤ i) → i ≠ 19 + 23 * p + 0 → i ≠ 19 + 23 * p + 1 → i ≠ 19 + 23 * p + 2 → i ≠ 19 + 23 * p + 3 → i ≠ 19 + 23 * p + 8 → i ≠ 19 + 23 * p + 11 → i ≠ 19 + 23 * p + 12 → i ≠ 203 + 4 * q + 0 → i ≠ 203 + 4 * q + 1 → i ≠ 1345 + 5 * g + 0 → i ≠ 1345 + 5 * g + 2 → MB.2.1 8 48 i = Sm.2.1 8 48 i := fun i h h0 h1 h2 h3 h8 h11 h12 hq0 hq1 hg0 hg2 => (v8 i h h0 h1 h2 h3 h8 h11 h12 hq0 hq1).trans (wA i hg0 hg2)
  have oB : ∀ k, k ≠ 48 → MB.1 8 k = Sm.1 8 k ∧ MB.2.1 8 k = Sm.2.1 8 k := fun k z => ⟨(v6 8 k (fun y => z y.2)).1.trans (oA k z).1, (v6 8 k (fun y => z y.2)).2.trans (oA k z).2⟩
  have mb0 : MB.2.1 8 48 0 = Sc.1 2 13 := (wB 0 (by omega) (by omega) (by omega) (by omega) (by omega) (by omega) (by omega) (by omega) (by omega) (by omega) (by omega) (by omega)).trans d1
  obtain ⟨MC, m1, m2, m3, m4⟩ := hA4 MB mb0 (wB _ (by omega) (by omega) (by omega) (by omega) (by omega) (by omega) (by omega) (by omega) (by omega) (by omega) (by omega) (by omega)) (oB 20 (by decide)).2 ((wB _ (by omega) (by omega) (by omega) (by omega) (by omega) (by omega) (by omega) (by omega) (by omega) (by omega) (by omega) (by omega)).trans (u 4 13 (by decide) rfl))
  have oC : ∀ k, k ≠ 48 → MC.1 8 k = Sm.1 8 k ∧ MC.2.1 8 k = Sm.2.1 8 k := fun k z => ⟨(m2 8 k (fun y => z y.2)).1.trans (oB k z).1, (m2 8 k (fun y => z y.2)).2.trans (oB k z).2⟩
  have mc0 : MC.2.1 8 48 0 = Sc.1 2 13 := (m3 0 (by omega)).trans mb0
  have rtC : RT kt SB MC := RT_fr hRT ⟨funext fun k => (cB 1 k (Or.inl (by omega)) (Or.inl (by omega))).1, funext fun k => (cB 1 k (Or.inl (by omega)) (Or.inl (by omega))).2⟩ oC
  obtain ⟨SC', MD, kw', s1', s2', s3', s4', s5', s6', s7', _⟩ := come_both (N := N) (rwB MC (fun k z => (oC k z).1) (fun i z => (m3 i (by omega)).trans (wB i (by omega) (by omega) (by omega) (by omega) (by omega) (by omega) (by omega) (by omega) (by omega) (by omega) (by omega) (by omega)))) mc0 f (Sc.1 (128 + p) 9) (Sc.1 2 13) (sCl SB kt (Sc.1 (128 + p) 9) (Sc.1 2 13)) (sWi SB kt (Sc.1 (128 + p) 9) (Sc.1 2 13))
  have eSC : SC' = SC := by
    have := s1.symm.trans s1'
    exact ((Prod.mk.inj (Option.some.inj this)).2).symm
  rw [eSC] at s3'
  have cD : ∀ o k, o ≠ 128 + p → o ≠ 512 + g → o ≠ 3 → o ≠ 256 + q → (o < 384 ∨ 414 ≤ o ∨ k < 5 ∨ 10 < k) → SD.1 o k = Sc.1 o k ∧ SD.2.1 o k = Sc.2.1 o k := fun o k z y x w v => by
    have e := v4 o k (fun n => by
      rcases n with n | n | n
      · have := n.1; have := n.2.1; have := n.2.2; omega
      · have := n.1; omega
      · have := n.1; omega)
    have e2 := cC o k (Or.inl z) (Or.inl y) (Or.inl x)
    exact ⟨e.1.trans e2.1, e.2.trans e2.2⟩
  have cDp : ∀ k, k ≠ 8 → k ≠ 9 → k ≠ 10 → k ≠ 12 → k ≠ 13 → k ≠ 15 → k ≠ 16 → SD.1 (128 + p) k = Sc.1 (128 + p) k := fun k h1 h2 h3 h4 h5 h6 h7 => by
    have e := v4 (128 + p) k (fun n => by
      rcases n with n | n | n
      · have := n.1; omega
      · have := n.2; omega
      · have := n.1; omega)
    exact e.1.trans (cC _ k (Or.inr h5) (Or.inl (by omega)) (Or.inl (by omega))).1
  have cDh : SD.1 (128 + p) 13 = SA.1 (128 + p) 13 := by
    have e := v4 (128 + p) 13 (fun n => by
      rcases n with n | n | n
      · have := n.1; omega
      · have := n.2; omega
      · have := n.1; omega)
    rw [e.1, (s4 (128 + p) 13 (fun n => by have := n.1; omega)).1, hSB, yI_1n _ _ (by omega), yI_1n _ _ (by omega)]
  have cDg : ∀ k, SD.1 (512 + g) k = SB.1 (512 + g) k := fun k => by
    have e := v4 (512 + g) k (fun n => by
      rcases n with n | n | n
      · have := n.1; have := n.2.1; omega
      · have := n.1; omega
      · have := n.1; omega)
    rw [e.1, (s4 (512 + g) k (fun n => by have := n.1; omega)).1]
  have cDg4 : SD.1 (512 + g) 4 = 2 := by rw [cDg, hSB, yI_1n _ _ (by omega), yI_1s]
  have cDg6 : SD.1 (512 + g) 6 = Sc.1 2 13 := by rw [cDg, hSB, yI_1s]
  have cDgo : ∀ k, k ≠ 4 → k ≠ 6 → SD.1 (512 + g) k = Sc.1 (512 + g) k := fun k h4 h6 => by rw [cDg]; exact (cB _ k (Or.inl (by omega)) (Or.inr ⟨h4, h6⟩)).1
  have cDq : ∀ k, 2 ≤ k → SD.1 (256 + q) k = Sc.1 (256 + q) k := fun k hk => by
    have e := v4 (256 + q) k (fun n => by
      rcases n with n | n | n
      · have := n.1; omega
      · have := n.1; omega
      · have := n.2; omega)
    exact e.1.trans (cC _ k (Or.inl (by omega)) (Or.inl (by omega)) (Or.inl (by omega))).1
  have wD : ∀ i, i < 1465 + 7 * kw → i ≠ 2 → i ≠ 19 + 23 * p + 4 → MD.2.1 8 48 i = MB.2.1 8 48 i := fun i h1 h2 h3 => (s6' i h2 h1).trans (m3 i h3)
  have wD4 : MD.2.1 8 48 (19 + 23 * p + 4) = SA.1 (128 + p) 13 := (s6' _ (by omega) (by omega)).trans m4
  have wS : ∀ i, i < 1465 + 7 * kw → i ≠ 2 → i ≠ 19 + 23 * p + 4 → (i < 235 ∨ 1345 ≤ i) → i ≠ 19 + 23 * p + 0 → i ≠ 19 + 23 * p + 1 → i ≠ 19 + 23 * p + 2 → i ≠ 19 + 23 * p + 3 → i ≠ 19 + 23 * p + 8 → i ≠ 19 + 23 * p + 11 → i ≠ 19 + 23 * p + 12 → i ≠ 203 + 4 * q + 0 → i ≠ 203 + 4 * q + 1 → i ≠ 1345 + 5 * g + 0 → i ≠ 1345 + 5 * g + 2 → MD.2.1 8 48 i = Sm.2.1 8 48 i := fun i a b c h h0 h1 h2 h3 h8 h11 h12 hq0 hq1 hg0 hg2 => (wD i a b c).trans (wB i h h0 h1 h2 h3 h8 h11 h12 hq0 hq1 hg0 hg2)
  have wG : ∀ j, j < 5 → MD.2.1 8 48 (1345 + 5 * g + j) = MA.2.1 8 48 (1345 + 5 * g + j) := fun j hj => (wD _ (by omega) (by omega) (by omega)).trans (v8 _ (by omega) (by omega) (by omega) (by omega) (by omega) (by omega) (by omega) (by omega) (by omega) (by omega))
  obtain ⟨f1, f2, f3, f4, f5, f6, f7, f8⟩ := v5
  obtain ⟨h1, h2, h3, h4, h5, h6, h7, h8⟩ := v7
  refine ⟨SD, MD, ?_, ?_, ?_, ?_⟩
  · rw [hA1, c36, e_cloudAt rtB (by omega), bV_s, e_windAt rtB (by omega), bV_s, s1, bS_s, bS_s, v1]
  · unfold f_X12_land f_X12_land_0 f_X12_endFlight f_X12_endFlight_0
    rw [em_planeR hpI np8 (nn_l 1 (by decide)) (by decide), bV_s, em_planeR hpI np8 (nn_l 12 (by decide)) (by decide), bV_s, u 1 9 (by decide) rfl, g4, em_flW g1 g24 (nn_l 0 (by decide)) (by decide), bS_s, gA_nn (nn_l 0 (by decide)) (by decide), yA_same, upd_o _ _ (by omega), d1, em_flW g1 g24 (nn_l 2 (by decide)) (by decide), bS_s, bS_s, yA_same, yA_yA, ← hMA, v2, bS_s, gA_nn (nn_l 0 (by decide)) (by decide), m1]
    unfold f_X12_land_61
    rw [gA_nn (nn_l 0 (by decide)) (by decide), gA_nn (nn_l 0 (by decide)) (by decide), mc0, em_cloud rtC (by omega), bV_s, gA_nn (nn_l 0 (by decide)) (by decide), mc0, em_wind rtC (by omega), bV_s, s2', bS_s]
  · refine DY_one (p := p) hD0 ?_ ?_ ?_ ?_ ?_ ?_ ?_ ?_ ?_ ?_ ?_ ?_ ?_
    · rw [wD 0 (by omega) (by omega) (by omega), mb0, (cD 2 13 (by omega) (by omega) (by omega) (by omega) (by omega)).1]
    · rw [wS 1 (by omega) (by omega) (by omega) (by omega) (by omega) (by omega) (by omega) (by omega) (by omega) (by omega) (by omega) (by omega) (by omega) (by omega) (by omega), (cD 2 14 (by omega) (by omega) (by omega) (by omega) (by omega)).1]
      exact d2
    · rw [(cD 2 13 (by omega) (by omega) (by omega) (by omega) (by omega)).1]
      exact d3
    · have e3 : ∀ k, SD.1 3 k = SC.1 3 k ∧ SD.2.1 3 k = SC.2.1 3 k := fun k => v4 3 k (fun n => by
        rcases n with n | n | n
        · have := n.1; omega
        · have := n.1; omega
        · have := n.1; omega)
      exact ⟨kw', RW_congr s3' (e3 0).1 (e3 1).1 rfl (funext fun k => (e3 k).2) rfl (fun _ _ _ => rfl), Nat.le_trans hk0 s7', fun j i h1 h2 h3 => by rw [(e3 j).2, sW j i h1 h2 (by omega), (cB 3 j (Or.inl (by omega)) (Or.inl (by omega))).2]; exact hk1 j i h1 h2 h3⟩
    · intro p' hp' hne
      have : p' < 8 := by have := t7.1.2.1; omega
      exact ⟨fun kk => (cD _ kk (by omega) (by omega) (by omega) (by omega) (by omega)).1, (cD _ 19 (by omega) (by omega) (by omega) (by omega) (by omega)).2⟩
    · intro p' hp' hne j hj
      have : p' < 8 := by have := t7.1.2.1; omega
      exact wS _ (by omega) (by omega) (by omega) (by omega) (by omega) (by omega) (by omega) (by omega) (by omega) (by omega) (by omega) (by omega) (by omega) (by omega) (by omega)
    · intro j hj
      have ws : ∀ j, j < 12 → j ≠ 0 → j ≠ 1 → j ≠ 2 → j ≠ 3 → j ≠ 4 → j ≠ 8 → j ≠ 11 → MD.2.1 8 48 (19 + 23 * p + j) = Sm.2.1 8 48 (19 + 23 * p + j) := fun j hj a0 a1 a2 a3 a4 a8 a11 => wS _ (by omega) (by omega) (by omega) (by omega) (by omega) (by omega) (by omega) (by omega) (by omega) (by omega) (by omega) (by omega) (by omega) (by omega) (by omega)
      have wb : ∀ j, j < 12 → j ≠ 4 → MD.2.1 8 48 (19 + 23 * p + j) = MB.2.1 8 48 (19 + 23 * p + j) := fun j hj a4 => wD _ (by omega) (by omega) (by omega)
      rcases (show j = 0 ∨ j = 1 ∨ j = 2 ∨ j = 3 ∨ j = 4 ∨ j = 5 ∨ j = 6 ∨ j = 7 ∨ j = 8 ∨ j = 9 ∨ j = 10 ∨ j = 11 by omega) with rfl | rfl | rfl | rfl | rfl | rfl | rfl | rfl | rfl | rfl | rfl | rfl
      · rw [wb 0 (by decide) (by decide), h1]; exact f1.symm
      · rw [wb 1 (by decide) (by decide), h2]; exact f2.symm
      · rw [wb 2 (by decide) (by decide), h3]; exact f3.symm
      · rw [wb 3 (by decide) (by decide), h4]; exact f4.symm
      · rw [wD4]; exact cDh.symm
      · rw [ws 5 (by decide) (by decide) (by decide) (by decide) (by decide) (by decide) (by decide) (by decide)]; exact (u 5 5 (by decide) rfl).trans (cDp 5 (by decide) (by decide) (by decide) (by decide) (by decide) (by decide) (by decide)).symm
      · rw [ws 6 (by decide) (by decide) (by decide) (by decide) (by decide) (by decide) (by decide) (by decide)]; exact (u 6 6 (by decide) rfl).trans (cDp 6 (by decide) (by decide) (by decide) (by decide) (by decide) (by decide) (by decide)).symm
      · rw [ws 7 (by decide) (by decide) (by decide) (by decide) (by decide) (by decide) (by decide) (by decide)]; exact (u 7 7 (by decide) rfl).trans (cDp 7 (by decide) (by decide) (by decide) (by decide) (by decide) (by decide) (by decide)).symm
      · rw [wb 8 (by decide) (by decide), h5]; exact f5.symm
      · rw [ws 9 (by decide) (by decide) (by decide) (by decide) (by decide) (by decide) (by decide) (by decide)]; exact (u 9 14 (by decide) rfl).trans (cDp 14 (by decide) (by decide) (by decide) (by decide) (by decide) (by decide) (by decide)).symm
      · rw [ws 10 (by decide) (by decide) (by decide) (by decide) (by decide) (by decide) (by decide) (by decide)]; exact (u 10 11 (by decide) rfl).trans (cDp 11 (by decide) (by decide) (by decide) (by decide) (by decide) (by decide) (by decide)).symm
      · rw [wb 11 (by decide) (by decide), h6]; exact f6.symm
    · refine ⟨by rw [cDh]; exact hA3, by rw [cDp 7 (by decide) (by decide) (by decide) (by decide) (by decide) (by decide) (by decide)]; exact i2, by rw [cDp 11 (by decide) (by decide) (by decide) (by decide) (by decide) (by decide) (by decide)]; exact i3, Or.inl ⟨⟨fi, by rw [f1]; exact hf, hfi, hcf⟩, f4⟩, fun _ => by rw [cDp 18 (by decide) (by decide) (by decide) (by decide) (by decide) (by decide) (by decide)]; exact i5 hdn, fun z => ?_⟩
      rw [f4] at z
      exact absurd z (by decide)
    · intro q' hq' j hj
      have hq8 : q' < 8 := by have := t7.2.1.2.1; omega
      by_cases e : q' = q
      · subst e
        rcases (show j = 0 ∨ j = 1 ∨ j = 2 ∨ j = 3 by omega) with rfl | rfl | rfl | rfl
        · rw [wD _ (by omega) (by omega) (by omega), h7]; exact f7.symm
        · rw [wD _ (by omega) (by omega) (by omega), h8]; exact f8.symm
        · rw [wS _ (by omega) (by omega) (by omega) (by omega) (by omega) (by omega) (by omega) (by omega) (by omega) (by omega) (by omega) (by omega) (by omega) (by omega) (by omega)]; exact (d6 q' hq' 2 (by decide)).trans (cDq 2 (by decide)).symm
        · rw [wS _ (by omega) (by omega) (by omega) (by omega) (by omega) (by omega) (by omega) (by omega) (by omega) (by omega) (by omega) (by omega) (by omega) (by omega) (by omega)]; exact (d6 q' hq' 3 (by decide)).trans (cDq 3 (by decide)).symm
      · rw [wS _ (by omega) (by omega) (by omega) (by omega) (by omega) (by omega) (by omega) (by omega) (by omega) (by omega) (by omega) (by omega) (by omega) (by omega) (by omega), (cD (256 + q') j (by omega) (by omega) (by omega) (by omega) (by omega)).1]
        exact d6 q' hq' j hj
    · exact RBd_fr v3 t7.2.2.1.2.1 (fun b hb k => ⟨rfl, rfl⟩) (fun i a b => wD i (by omega) (by omega) (by omega))
    · intro g' hg' j hj
      have hg24 : g' < 24 := by have := t7.2.2.2.2.1; omega
      by_cases e : g' = g
      · subst e
        rw [wG j hj]
        rcases (show j = 0 ∨ j = 1 ∨ j = 2 ∨ j = 3 ∨ j = 4 by omega) with rfl | rfl | rfl | rfl | rfl
        · rw [hMA, yA_same, upd_o _ _ (by omega), upd_s]; exact cDg4.symm
        · rw [wA _ (by omega) (by omega)]; exact (d8 g' hg' 1 (by decide)).trans (cDgo 5 (by decide) (by decide)).symm
        · rw [hMA, yA_same, upd_s]; exact cDg6.symm
        · rw [wA _ (by omega) (by omega)]; exact (d8 g' hg' 3 (by decide)).trans (cDgo 8 (by decide) (by decide)).symm
        · rw [wA _ (by omega) (by omega)]; exact (d8 g' hg' 4 (by decide)).trans (cDgo 9 (by decide) (by decide)).symm
      · rw [wS _ (by omega) (by omega) (by omega) (by omega) (by omega) (by omega) (by omega) (by omega) (by omega) (by omega) (by omega) (by omega) (by omega) (by omega) (by omega), (cD (512 + g') _ (by omega) (by omega) (by omega) (by omega) (by omega)).1]
        exact d8 g' hg' j hj
    · intro l' hl'
      have : l' < 12 := by have := t2.2.1; omega
      exact (cD (64 + l') 2 (by omega) (by omega) (by omega) (by omega) (by omega)).1
    · intro g' hg' hne
      have hg24 : g' < 24 := by have := t7.2.2.2.2.1; omega
      by_cases e : g' = g
      · subst e
        exact ⟨cDgo 7 (by decide) (by decide), by rw [cDg4]; decide, cDgo 1 (by decide) (by decide), cDgo 2 (by decide) (by decide)⟩
      · rw [(cD (512 + g') 7 (by omega) (by omega) (by omega) (by omega) (by omega)).1, (cD (512 + g') 4 (by omega) (by omega) (by omega) (by omega) (by omega)).1, (cD (512 + g') 1 (by omega) (by omega) (by omega) (by omega) (by omega)).1, (cD (512 + g') 2 (by omega) (by omega) (by omega) (by omega) (by omega)).1]
        exact ⟨rfl, hne, rfl, rfl⟩
  · have FB : FR pQC SA SB := by
      rw [hSB]
      exact FR_trans (FR_I _ _ _ _ (by unfold pQC; omega)) (FR_I _ _ _ _ (by unfold pQC; omega))
    refine ⟨FR_trans (FR_mono hA2 (fun o k z => ?_)) (FR_trans FB (FR_trans (FR_mono s4 (fun o k z => ?_)) (FR_mono v4 (fun o k z => ?_)))), FR_trans (FR_mono FA (fun o k z => ?_)) (FR_trans (FR_mono v6 (fun o k z => ?_)) (FR_trans (FR_mono m2 (fun o k z => ?_)) (FR_mono s5' (fun o k z => ?_)))), fun i a b => wS i (by omega) (by omega) (by omega) (by omega) (by omega) (by omega) (by omega) (by omega) (by omega) (by omega) (by omega) (by omega) (by omega) (by omega) (by omega)⟩
    · have := z.1; have := z.2; unfold pQC; omega
    · have := z.1; have := z.2; unfold pQC; omega
    · unfold pQC
      rcases z with z | z | z
      · have := z.1; have := z.2.1; have := z.2.2; omega
      · have := z.1; have := z.2; omega
      · have := z.1; have := z.2; omega
    · exact ⟨z.1, Or.inr (Or.inl z.2)⟩
    · exact ⟨z.1, Or.inr (Or.inl z.2)⟩
    · exact ⟨z.1, Or.inr (Or.inl z.2)⟩
    · exact ⟨z.1, Or.inr (Or.inl z.2)⟩
