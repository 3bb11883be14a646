/-! ALL THAT GOES ON: the dynamic relation -/
def PA (cK : Nat → Nat) (nl nq ng : Nat) (Sc Sm : yS) (p : Nat) : Prop := (∃ l m M, nn (Sc.1 (128 + p) 9) l ∧ l < nl ∧ nn (Sc.1 (128 + p) 10) m ∧ nn (Sc.1 (64 + l) 2) M ∧ m ≤ M ∧ cK (64 + l) = cK (128 + p)) ∧ (∃ q, nn (Sc.1 (128 + p) 16) q ∧ q < nq) ∧ ∃ g, nn (Sc.1 (128 + p) 17) g ∧ g < ng ∧ ¬ Sc.1 (512 + g) 4 = 0 ∧ Sm.2.1 8 48 (19 + 23 * p + 12) = Sc.1 (128 + p) 17 ∧ Sm.2.1 8 48 (19 + 23 * p + 13) = Sc.1 (512 + g) 7 ∧ Sc.1 (512 + g) 1 = Sc.1 (128 + p) 16 ∧ Sc.1 (512 + g) 2 = Sc.1 (128 + p) 9
def PI (cK : Nat → Nat) (nf nl nq ng : Nat) (Sc Sm : yS) (p : Nat) : Prop := (∃ h, nn (Sc.1 (128 + p) 13) h ∧ h ≤ 5) ∧ (∃ f, nn (Sc.1 (128 + p) 7) f ∧ f ≤ 999) ∧ (Sc.1 (128 + p) 11 = 0 ∨ Sc.1 (128 + p) 11 = 1) ∧ (((∃ f, nn (Sc.1 (128 + p) 8) f ∧ f < nf ∧ cK f = cK (128 + p)) ∧ Sc.1 (128 + p) 12 = 0) ∨ (Sc.1 (128 + p) 8 = -1 ∧ (Sc.1 (128 + p) 12 = 0 ∨ Sc.1 (128 + p) 12 = 1) ∧ PA cK nl nq ng Sc Sm p)) ∧ (Sc.1 (128 + p) 12 = 0 → Sc.1 (128 + p) 18 = 0) ∧ (Sc.1 (128 + p) 12 = 1 → ∃ n, nn (Sc.1 (128 + p) 18) n ∧ (n ≤ 4 ∧ ∀ j, j < n → ∃ y, nn (Sc.2.1 (128 + p) 19 (2 * j + 1)) y ∧ 1 ≤ y ∧ y ≤ 99) ∧ Sm.2.1 8 48 (19 + 23 * p + 14) = Sc.1 (128 + p) 18 ∧ ∀ j, j < 2 * n → Sm.2.1 8 48 (19 + 23 * p + 15 + j) = Sc.2.1 (128 + p) 19 j)
/-- the words, and of how many the ghost number 1000 is told that they stay -/
def RWk (cK : Nat → Nat) (k : Nat) (Sc Sm : yS) : Prop := RW k Sc Sm ∧ cK 1000 ≤ k ∧ ∀ j i, 2 ≤ j → j < 9 → i < cK 1000 → Sc.2.1 3 j i = Int32.ofNat (cK (2000 + 9 * i + j))
theorem RWk_congr {cK : Nat → Nat} {k : Nat} {Sc Sm Sc' Sm' : yS} (h : RWk cK k Sc Sm) (e0 : Sc'.1 3 0 = Sc.1 3 0) (e1 : Sc'.1 3 1 = Sc.1 3 1) (e2 : Sm'.1 8 34 = Sm.1 8 34) (a : Sc'.2.1 3 = Sc.2.1 3) (b2 : Sm'.2.1 8 48 2 = Sm.2.1 8 48 2) (b : ∀ i, 1465 ≤ i → i < 2305 → Sm'.2.1 8 48 i = Sm.2.1 8 48 i) : RWk cK k Sc' Sm' := ⟨RW_congr h.1 e0 e1 e2 a b2 b, h.2.1, fun j i h1 h2 h3 => by rw [a]; exact h.2.2 j i h1 h2 h3⟩
def DY (cK : Nat → Nat) (nf nl np nq nb ng : Nat) (Sc Sm : yS) : Prop := Sm.2.1 8 48 0 = Sc.1 2 13 ∧ Sm.2.1 8 48 1 = Sc.1 2 14 ∧ (∃ t, nn (Sc.1 2 13) t ∧ t ≤ 3000) ∧ (∃ k, RWk cK k Sc Sm) ∧ DP np Sc Sm ∧ DQ nq Sc Sm ∧ RBd cK nf nb Sc Sm ∧ DL ng Sc Sm ∧ ∀ p, p < np → PI cK nf nl nq ng Sc Sm p
/-- frames of a quarter's steps -/
def QF (cK : Nat → Nat) (Sc Sm Sc' Sm' : yS) : Prop := FR pQC Sc Sc' ∧ FR pQM Sm Sm' ∧ ∀ i, 3 ≤ i → i < 19 → Sm'.2.1 8 48 i = Sm.2.1 8 48 i
theorem QF_refl {cK : Nat → Nat} (Sc Sm : yS) : QF cK Sc Sm Sc Sm := ⟨FR_refl _ _, FR_refl _ _, fun _ _ _ => rfl⟩
theorem QF_trans {cK : Nat → Nat} {Sc Sm Sc' Sm' Sc'' Sm'' : yS} (h : QF cK Sc Sm Sc' Sm') (g : QF cK Sc' Sm' Sc'' Sm'') : QF cK Sc Sm Sc'' Sm'' := ⟨FR_trans h.1 g.1, FR_trans h.2.1 g.2.1, fun i a b => (g.2.2 i a b).trans (h.2.2 i a b)⟩
theorem ST_QF {cK : Nat → Nat} {nf nl np nq nb ng : Nat} {Sc Sm Sc' Sm' : yS} (h : ST cK nf nl np nq nb ng Sc Sm) (f : QF cK Sc Sm Sc' Sm') : ST cK nf nl np nq nb ng Sc' Sm' := ST_FR h f.1 f.2.1 f.2.2
/-- the other planes are as they were -/
theorem PI_keep {cK : Nat → Nat} {nf nl nq ng p : Nat} {Sc Sm Sc' Sm' : yS} (h : PI cK nf nl nq ng Sc Sm p) (c : ∀ k, Sc'.1 (128 + p) k = Sc.1 (128 + p) k) (ca : Sc'.2.1 (128 + p) 19 = Sc.2.1 (128 + p) 19) (w : ∀ j, j < 23 → Sm'.2.1 8 48 (19 + 23 * p + j) = Sm.2.1 8 48 (19 + 23 * p + j)) (eG : ∀ l, l < nl → Sc'.1 (64 + l) 2 = Sc.1 (64 + l) 2) (eF : ∀ g, g < ng → ¬ Sc.1 (512 + g) 4 = 0 → Sc'.1 (512 + g) 7 = Sc.1 (512 + g) 7 ∧ (¬ Sc'.1 (512 + g) 4 = 0) ∧ Sc'.1 (512 + g) 1 = Sc.1 (512 + g) 1 ∧ Sc'.1 (512 + g) 2 = Sc.1 (512 + g) 2) : PI cK nf nl nq ng Sc' Sm' p := by
  obtain ⟨h1, h2, h3, h4, h5, h6⟩ := h
  unfold PI
  simp only [c]
  refine ⟨h1, h2, h3, ?_, h5, fun z => ?_⟩
  · rcases h4 with z | ⟨z1, z2, ⟨l, m, M, a1, a2, a3, a4, a5⟩, z4, g, g1, g2, g3, g4, g5, g6, g7⟩
    · exact Or.inl z
    · refine Or.inr ⟨z1, z2, ⟨l, m, M, by rw [c]; exact a1, a2, by rw [c]; exact a3, by rw [eG l a2]; exact a4, a5⟩, by simp only [c]; exact z4, g, by rw [c]; exact g1, g2, (eF g g2 g3).2.1, by rw [c, w 12 (by decide)]; exact g4, by rw [w 13 (by decide), (eF g g2 g3).1]; exact g5, by rw [(eF g g2 g3).2.2.1, c]; exact g6, by rw [(eF g g2 g3).2.2.2, c]; exact g7⟩
  · obtain ⟨n, n1, n2, n3, n4⟩ := h6 z
    refine ⟨n, n1, ⟨n2.1, fun j hj => by rw [ca]; exact n2.2 j hj⟩, by rw [w 14 (by decide)]; exact n3, fun j hj => ?_⟩
    rw [ca, show 19 + 23 * p + 15 + j = 19 + 23 * p + (15 + j) by omega, w _ (by omega), show 19 + 23 * p + (15 + j) = 19 + 23 * p + 15 + j by omega]
    exact n4 j hj
theorem DY_one {cK : Nat → Nat} {nf nl np nq nb ng p : Nat} {Sc Sm Sc' Sm' : yS} (h : DY cK nf nl np nq nb ng Sc Sm) (e0 : Sm'.2.1 8 48 0 = Sc'.1 2 13) (e1 : Sm'.2.1 8 48 1 = Sc'.1 2 14) (e2 : ∃ t, nn (Sc'.1 2 13) t ∧ t ≤ 3000) (eW : ∃ k, RWk cK k Sc' Sm') (eP : ∀ p', p' < np → p' ≠ p → (∀ k, Sc'.1 (128 + p') k = Sc.1 (128 + p') k) ∧ Sc'.2.1 (128 + p') 19 = Sc.2.1 (128 + p') 19) (eM : ∀ p', p' < np → p' ≠ p → ∀ j, j < 23 → Sm'.2.1 8 48 (19 + 23 * p' + j) = Sm.2.1 8 48 (19 + 23 * p' + j)) (hp : ∀ j, j < 12 → Sm'.2.1 8 48 (19 + 23 * p + j) = Sc'.1 (128 + p) (pS j)) (hPI : PI cK nf nl nq ng Sc' Sm' p) (eQ : DQ nq Sc' Sm') (eB : RBd cK nf nb Sc' Sm') (eL : DL ng Sc' Sm') (eG : ∀ l, l < nl → Sc'.1 (64 + l) 2 = Sc.1 (64 + l) 2) (eF : ∀ g, g < ng → ¬ Sc.1 (512 + g) 4 = 0 → Sc'.1 (512 + g) 7 = Sc.1 (512 + g) 7 ∧ (¬ Sc'.1 (512 + g) 4 = 0) ∧ Sc'.1 (512 + g) 1 = Sc.1 (512 + g) 1 ∧ Sc'.1 (512 + g) 2 = Sc.1 (512 + g) 2) : DY cK nf nl np nq nb ng Sc' Sm' := by
  obtain ⟨d1, d2, d3, d4, d5, d6, d7, d8, d9⟩ := h
  refine ⟨e0, e1, e2, eW, fun p' hp' j hj => ?_, eQ, eB, eL, fun p' hp' => ?_⟩
  · by_cases z : p' = p
    · rw [z]
      exact hp j hj
    · rw [eM p' hp' z j (by omega), (eP p' hp' z).1]
      exact d5 p' hp' j hj
  · by_cases z : p' = p
    · rw [z]
      exact hPI
    · exact PI_keep (d9 p' hp') (eP p' hp' z).1 (eP p' hp' z).2 (eM p' hp' z) eG eF
def zNt (t : Int32) : Prop := t - t / 96 * 96 < 24 ∨ ¬ t - t / 96 * 96 < 72
theorem e_night (N : Nat) (S : yS) : (zNt (S.1 2 13) → f_X10_isNight N S = some 1) ∧ (¬ zNt (S.1 2 13) → f_X10_isNight N S = some 0) := by
  unfold f_X10_isNight f_X10_isNight_0 f_X10_isNight_20 f_X10_isNight_25 zNt
  by_cases a : S.1 2 13 - S.1 2 13 / 96 * 96 < 24
  · rw [if_pos a]
    exact ⟨fun _ => gP_t (Or.inr rfl), fun q => absurd (Or.inl a) q⟩
  · rw [if_neg a]
    by_cases b : S.1 2 13 - S.1 2 13 / 96 * 96 < 72
    · rw [if_pos b]
      exact ⟨fun q => absurd b (q.resolve_left a), fun _ => gP_t (Or.inl rfl)⟩
    · rw [if_neg b]
      exact ⟨fun _ => gP_t (Or.inr rfl), fun q => absurd (Or.inr b) q⟩
theorem em_dark (N : Nat) (S : yS) (t : Int32) : (zNt t → f_X12_isDark N S t = some 1) ∧ (¬ zNt t → f_X12_isDark N S t = some 0) := by
  unfold f_X12_isDark f_X12_isDark_0 f_X12_isDark_17 f_X12_isDark_22 zNt
  by_cases a : t - t / 96 * 96 < 24
  · rw [if_pos a]
    exact ⟨fun _ => gP_t (Or.inr rfl), fun q => absurd (Or.inl a) q⟩
  · rw [if_neg a]
    by_cases b : t - t / 96 * 96 < 72
    · rw [if_pos b]
      exact ⟨fun q => absurd b (q.resolve_left a), fun _ => gP_t (Or.inl rfl)⟩
    · rw [if_neg b]
      exact ⟨fun _ => gP_t (Or.inr rfl), fun q => absurd (Or.inr b) q⟩
theorem forced_both {cK : Nat → Nat} {N nf nl np nq nb ng p : Nat} {Sc Sm : yS} {pI : Int32} (hT : ST cK nf nl np nq nb ng Sc Sm) (hD : DY cK nf nl np nq nb ng Sc Sm) (hN : 120 < N) (hp : p < np) (hpI : nn pI p) (hal : Sc.1 (128 + p) 8 = -1) : ∃ Sc' Sm', f_X10_forceDown N Sc (128 + p) = some (0, Sc') ∧ f_X12_forced N Sm pI = some (0, Sm') ∧ (Sc.1 (128 + p) 12 = 0 → DY cK nf nl np nq nb ng Sc' Sm') ∧ QF cK Sc Sm Sc' Sm' := by
  have hD0 := hD
  obtain ⟨d1, d2, d3, d4, d5, d6, d7, d8, d9⟩ := hD
  obtain ⟨t1, t2, t3, t4, t5, t6, t7, t8, t9, t10, t11, t12, t13, t14⟩ := hT
  have np8 : p < 8 := by have := t7.1.2.1; omega
  obtain ⟨i1, i2, i3, i4, i5, i6⟩ := d9 p hp
  rcases i4 with ⟨⟨f, z1, _⟩, _⟩ | ⟨_, i7, ⟨l, m, M, a1, a2, a3, a4, a5⟩, ⟨q, b1, b2⟩, g, g1, g2, g3, g4, g5, g6, g7⟩
  · exact absurd z1.nneg (by rw [hal]; decide)
  have l12 : l < 12 := by have := t2.2.1; omega
  have g24 : g < 24 := by have := t7.2.2.2.2.1; omega
  obtain ⟨k, hR⟩ := t2.2.2.2.1 l a2
  obtain ⟨r1, r2, r3, r4, r5, r6, r7, r8, r9, r10, r11, r12⟩ := hR
  obtain ⟨k', M', w1, w2, w3, w4, _⟩ := t14 l a2
  have ek := nn_inj w1 r9
  subst ek
  have eM := nn_inj w3 a4
  subst eM
  have eF : Sc.2.1 2 11 g = 1 := (t11 g g2).1
  have u : ∀ j kk, j < 12 → pS j = kk → Sm.2.1 8 48 (19 + 23 * p + j) = Sc.1 (128 + p) kk := fun j kk hj hk => by rw [← hk]; exact d5 p hp j hj
  obtain ⟨b', hb', e1, e2⟩ := ground_loop (N := N) (p := p) (pI := pI) (m := Sc.1 (128 + p) 10) (gl := Sc.1 2 15) l12 a1 r9 r10 r11 r12 t6.2.1 k' 0 N N none (by omega) (by omega) (by omega) (fun j hj => by cases hj)
  -- the last steps of both
  have tailC : ∀ (SA : yS), FR (fun o k => o = 128 + p ∧ (k = 10 ∨ k = 13)) Sc SA → f_X10_forceDown_71 N SA (128 + p) = some (0, yI (yI (yI SA (128 + p) 12 1) (512 + g) 4 4) (512 + g) 6 (Sc.1 2 13)) := by
    intro SA hF
    unfold f_X10_forceDown_71 f_X1_finish f_X1_finish_0
    have c1 : SA.2.1 2 11 = Sc.2.1 2 11 := (hF 2 11 (fun z => by have := z.1; omega)).2
    have c2 : (yI SA (128 + p) 12 1).1 (128 + p) 17 = Sc.1 (128 + p) 17 := by rw [yI_1n _ _ (by omega), (hF (128 + p) 17 (fun z => by have := z.2; omega)).1]
    have c3 : (yI SA (128 + p) 12 1).1 2 13 = Sc.1 2 13 := by rw [yI_1n _ _ (by omega), (hF 2 13 (fun z => by have := z.1; omega)).1]
    rw [sq_s, yI_2, c1, c2, gR_nn g1 g24 eF, c3, sq_s, sq_s, bS_s]
  have tailM : ∀ (MA : yS) (h t : Int32), FR (fun o k => o = 8 ∧ k = 48) Sm MA → (∀ i, i ≠ 19 + 23 * p + 2 → MA.2.1 8 48 i = Sm.2.1 8 48 i) → f_X12_forced_245 N MA pI pI 4 h t = some (0, yA MA 8 48 (upd (upd (upd (upd (upd (MA.2.1 8 48) (19 + 23 * p + 4) (h + t)) (19 + 23 * p + 3) 1) (19 + 23 * p + 14) 0) (1345 + 5 * g + 0) 4) (1345 + 5 * g + 2) (Sc.1 2 13))) := by
    intro MA h t hF hw
    unfold f_X12_forced_245 f_X12_endFlight f_X12_endFlight_0
    have hg : nn (Sc.1 (128 + p) 17) g := g1
    rw [em_planeW hpI np8 (nn_l 4 (by decide)) (by decide), bS_s, em_planeW hpI np8 (nn_l 3 (by decide)) (by decide), bS_s, em_planeW hpI np8 (nn_l 14 (by decide)) (by decide), bS_s, em_planeR hpI np8 (nn_l 12 (by decide)) (by decide), bV_s]
    simp only [yA_yA, yA_same]
    rw [upd_o _ _ (by omega), upd_o _ _ (by omega), upd_o _ _ (by omega), hw _ (by omega), g4, em_flW hg g24 (nn_l 0 (by decide)) (by decide), bS_s, gA_nn (nn_l 0 (by decide)) (by decide), em_flW hg g24 (nn_l 2 (by decide)) (by decide), bS_s, bS_s]
    simp only [yA_yA, yA_same]
    rw [upd_o _ _ (show (0 : Nat) ≠ 1345 + 5 * g + 0 by omega), upd_o _ _ (show (0 : Nat) ≠ 19 + 23 * p + 14 by omega), upd_o _ _ (show (0 : Nat) ≠ 19 + 23 * p + 3 by omega), upd_o _ _ (show (0 : Nat) ≠ 19 + 23 * p + 4 by omega), hw _ (by omega), d1]
  -- what both do ahead of them
  have key : ∃ (SA MA : yS) (h t : Int32), f_X10_forceDown N Sc (128 + p) = f_X10_forceDown_71 N SA (128 + p) ∧ f_X12_forced N Sm pI = f_X12_forced_245 N MA pI pI 4 h t ∧ FR (fun o k => o = 128 + p ∧ (k = 10 ∨ k = 13)) Sc SA ∧ FR (fun o k => o = 8 ∧ k = 48) Sm MA ∧ (∀ i, i ≠ 19 + 23 * p + 2 → MA.2.1 8 48 i = Sm.2.1 8 48 i) ∧ SA.1 (128 + p) 13 = h + t ∧ MA.2.1 8 48 (19 + 23 * p + 2) = SA.1 (128 + p) 10 ∧ (∃ x, nn (SA.1 (128 + p) 13) x ∧ x ≤ 5) ∧ ∃ x, nn (SA.1 (128 + p) 10) x ∧ x ≤ M' := by
    have c0 : f_X10_forceDown N Sc (128 + p) = sq (yI Sc (128 + p) 13 4) fun S1 => if encN b' = -1 then f_X10_forceDown_54 N S1 (128 + p) else bV (f_X3_roughOf N S1 (64 + l) (encN b')) fun w2 => sq (yI S1 (128 + p) 13 w2) fun S2 => bV (f_X3_mileOf N S2 (64 + l) (encN b')) fun w3 => sq (yI S2 (128 + p) 10 w3) fun S3 => f_X10_forceDown_54 N S3 (128 + p) := by
      unfold f_X10_forceDown f_X10_forceDown_0
      rw [gR_nn a1 l12 r1]
      have eb : f_X3_bestGround N Sc (64 + l) (Sc.1 (128 + p) 10) (Sc.1 2 15) = some (encN b') := e1
      rw [eb, bV_s]
    have m0 : f_X12_forced N Sm pI = f_X12_forced_20 N N Sm pI (Sc.1 (128 + p) 9) (Sc.1 (128 + p) 10) (encN none) (Int32.ofNat 0) := by
      unfold f_X12_forced f_X12_forced_0
      rw [em_planeR hpI np8 (nn_l 1 (by decide)) (by decide), bV_s, em_planeR hpI np8 (nn_l 2 (by decide)) (by decide), bV_s, u 1 9 (by decide) rfl, u 2 10 (by decide) rfl]
      rfl
    have n54 : ∀ (S : yS), S.1 2 13 = Sc.1 2 13 → (zNt (Sc.1 2 13) → f_X10_forceDown_54 N S (128 + p) = f_X10_forceDown_71 N (yI S (128 + p) 13 (S.1 (128 + p) 13 + 1)) (128 + p)) ∧ (¬ zNt (Sc.1 2 13) → f_X10_forceDown_54 N S (128 + p) = f_X10_forceDown_71 N S (128 + p)) := by
      intro S hS
      obtain ⟨n1, n2⟩ := e_night N S
      rw [hS] at n1 n2
      unfold f_X10_forceDown_54
      exact ⟨fun z => by rw [n1 z, bV_s, if_neg i10, sq_s], fun z => by rw [n2 z, bV_s, if_pos rfl]⟩
    have n223 : ∀ (S : yS) (h : Int32), S.2.1 8 48 0 = Sc.1 2 13 → (zNt (Sc.1 2 13) → f_X12_forced_223 N S pI h = f_X12_forced_245 N S pI pI 4 h 1) ∧ (¬ zNt (Sc.1 2 13) → f_X12_forced_223 N S pI h = f_X12_forced_245 N S pI pI 4 h 0) := by
      intro S h hS
      obtain ⟨n1, n2⟩ := em_dark N S (Sc.1 2 13)
      unfold f_X12_forced_223
      rw [gA_nn (nn_l 0 (by decide)) (by decide), hS]
      exact ⟨fun z => by rw [n1 z, bV_s, if_neg i10], fun z => by rw [n2 z, bV_s, if_pos rfl]⟩
    -- once hurt and mile are known
    have fin : ∀ (SB MB : yS) (h : Int32) (x : Nat), f_X10_forceDown N Sc (128 + p) = f_X10_forceDown_54 N SB (128 + p) → f_X12_forced N Sm pI = f_X12_forced_223 N MB pI h → FR (fun o k => o = 128 + p ∧ (k = 10 ∨ k = 13)) Sc SB → FR (fun o k => o = 8 ∧ k = 48) Sm MB → (∀ i, i ≠ 19 + 23 * p + 2 → MB.2.1 8 48 i = Sm.2.1 8 48 i) → SB.1 (128 + p) 13 = h → MB.2.1 8 48 (19 + 23 * p + 2) = SB.1 (128 + p) 10 → nn h x → x ≤ 4 → (∃ x, nn (SB.1 (128 + p) 10) x ∧ x ≤ M') → ∃ (SA MA : yS) (h t : Int32), f_X10_forceDown N Sc (128 + p) = f_X10_forceDown_71 N SA (128 + p) ∧ f_X12_forced N Sm pI = f_X12_forced_245 N MA pI pI 4 h t ∧ FR (fun o k => o = 128 + p ∧ (k = 10 ∨ k = 13)) Sc SA ∧ FR (fun o k => o = 8 ∧ k = 48) Sm MA ∧ (∀ i, i ≠ 19 + 23 * p + 2 → MA.2.1 8 48 i = Sm.2.1 8 48 i) ∧ SA.1 (128 + p) 13 = h + t ∧ MA.2.1 8 48 (19 + 23 * p + 2) = SA.1 (128 + p) 10 ∧ (∃ x, nn (SA.1 (128 + p) 13) x ∧ x ≤ 5) ∧ ∃ x, nn (SA.1 (128 + p) 10) x ∧ x ≤ M' := by
      intro SB MB h x x1 x2 x3 x4 x5 x6 x7 x8 x9 x10
      obtain ⟨y1, y2⟩ := n54 SB (x3 2 13 (fun z => by have := z.1; omega)).1
      obtain ⟨y3, y4⟩ := n223 MB h (by rw [x5 0 (by omega)]; exact d1)
      by_cases z : zNt (Sc.1 2 13)
      · refine ⟨yI SB (128 + p) 13 (SB.1 (128 + p) 13 + 1), MB, h, 1, x1.trans (y1 z), x2.trans (y3 z), FR_trans x3 (FR_I _ _ _ _ ⟨rfl, Or.inr rfl⟩), x4, x5, ?_, ?_, ?_, ?_⟩
        · rw [yI_1s, x6]
        · rw [yI_1n _ _ (by omega)]; exact x7
        · refine ⟨x + 1, ?_, by omega⟩
          rw [yI_1s, x6]
          exact nn_add x8 (nn_l 1 (by decide)) (by omega)
        · rw [yI_1n _ _ (by omega)]; exact x10
      · refine ⟨SB, MB, h, 0, x1.trans (y2 z), x2.trans (y4 z), x3, x4, x5, by rw [x6, Int32.add_zero], x7, ⟨x, by rw [x6]; exact x8, by omega⟩, x10⟩
    cases b' with
    | none =>
      refine fin (yI Sc (128 + p) 13 4) Sm 4 4 ?_ ?_ (FR_I _ _ _ _ ⟨rfl, Or.inr rfl⟩) (FR_refl _ _) (fun _ _ => rfl) (yI_1s _ _ _ _) ?_ (nn_l 4 (by decide)) (Nat.le_refl _) ?_
      · rw [c0, sq_s, if_pos (show encN none = -1 from rfl)]
      · rw [m0, e2]
        show f_X12_forced_198 N Sm pI (Sc.1 (128 + p) 9) (-1) 4 = _
        unfold f_X12_forced_198
        rw [if_pos rfl]
      · rw [yI_1n _ _ (by omega)]
        exact u 2 10 (by decide) rfl
      · rw [yI_1n _ _ (by omega)]
        exact ⟨m, a3, a5.1⟩
    | some j =>
      have hj := hb' j rfl
      have nj := nn_lit j (by omega)
      obtain ⟨⟨mm, mm1, mm2⟩, rr, rr1, rr2⟩ := w4 j hj
      have ix := nn_idx' r9 nj hj
      have jx := nn_add (nn_mul (nn_l 4 (by decide)) a1 (by omega)) nj (by omega)
      have hrf : ∀ (S : yS), S.1 (64 + l) 4 = Sc.1 (64 + l) 4 → S.2.1 = Sc.2.1 → f_X3_roughOf N S (64 + l) (Int32.ofNat j) = some (Sc.2.1 (64 + l) 6 j) ∧ f_X3_mileOf N S (64 + l) (Int32.ofNat j) = some (Sc.2.1 (64 + l) 5 j) := by
        intro S hS hS2
        unfold f_X3_roughOf f_X3_roughOf_0 f_X3_roughOf_24 f_X3_mileOf f_X3_mileOf_0 f_X3_mileOf_24
        rw [e_within, bV_s, hS, b01_t ix, if_neg i10, gA_nn nj (by omega), hS2, bV_s, if_neg i10, gA_nn nj (by omega)]
        exact ⟨rfl, rfl⟩
      refine fin (yI (yI (yI Sc (128 + p) 13 4) (128 + p) 13 (Sc.2.1 (64 + l) 6 j)) (128 + p) 10 (Sc.2.1 (64 + l) 5 j)) (yA Sm 8 48 (upd (Sm.2.1 8 48) (19 + 23 * p + 2) (Sc.2.1 (64 + l) 5 j))) (Sc.2.1 (64 + l) 6 j) rr ?_ ?_ (FR_trans (FR_I _ _ _ _ ⟨rfl, Or.inr rfl⟩) (FR_trans (FR_I _ _ _ _ ⟨rfl, Or.inr rfl⟩) (FR_I _ _ _ _ ⟨rfl, Or.inl rfl⟩))) (FR_A _ _ _ _ ⟨rfl, rfl⟩) (fun i hi => by rw [yA_same, upd_o _ _ hi]) ?_ ?_ rr1 (by omega) ?_
      · rw [c0, sq_s, if_neg (encN_ne j (by omega)), show encN (some j) = Int32.ofNat j from rfl, (hrf (yI Sc (128 + p) 13 4) (yI_1n _ _ (by omega)) rfl).1, bV_s, sq_s, (hrf (yI (yI Sc (128 + p) 13 4) (128 + p) 13 (Sc.2.1 (64 + l) 6 j)) (by rw [yI_1n _ _ (by omega), yI_1n _ _ (by omega)]) rfl).2, bV_s, sq_s]
      · rw [m0, e2]
        show f_X12_forced_198 N Sm pI (Sc.1 (128 + p) 9) (Int32.ofNat j) (Sc.2.1 (64 + l) 6 j) = _
        unfold f_X12_forced_198
        rw [if_neg (show ¬ Int32.ofNat j = -1 from encN_ne j (by omega)), gA_nn jx (by omega), ← (r12 j hj).1, em_planeW hpI np8 (nn_l 2 (by decide)) (by decide), bS_s]
      · rw [yI_1n _ _ (by omega), yI_1s]
      · rw [yA_same, upd_s, yI_1s]
      · rw [yI_1s]
        exact ⟨mm, mm1, mm2⟩
  obtain ⟨SA, MA, h, t, k1, k2, k3, k4, k5, k6, k7, k8, k9⟩ := key
  have cA : ∀ o k, (o ≠ 128 + p ∨ (k ≠ 10 ∧ k ≠ 13)) → SA.1 o k = Sc.1 o k ∧ SA.2.1 o k = Sc.2.1 o k := fun o k z => k3 o k (fun y => by have := y.1; have := y.2; omega)
  have cP : ∀ k, k ≠ 12 → (yI (yI (yI SA (128 + p) 12 1) (512 + g) 4 4) (512 + g) 6 (Sc.1 2 13)).1 (128 + p) k = SA.1 (128 + p) k := fun k z => by rw [yI_1n _ _ (by omega), yI_1n _ _ (by omega), yI_1n _ _ (by omega)]
  have cO : ∀ o k, o ≠ 128 + p → o ≠ 512 + g → (yI (yI (yI SA (128 + p) 12 1) (512 + g) 4 4) (512 + g) 6 (Sc.1 2 13)).1 o k = Sc.1 o k := fun o k z y => by rw [yI_1n _ _ (by omega), yI_1n _ _ (by omega), yI_1n _ _ (by omega), (cA o k (Or.inl z)).1]
  have cG : ∀ k, k ≠ 4 → k ≠ 6 → (yI (yI (yI SA (128 + p) 12 1) (512 + g) 4 4) (512 + g) 6 (Sc.1 2 13)).1 (512 + g) k = Sc.1 (512 + g) k := fun k z y => by rw [yI_1n _ _ (by omega), yI_1n _ _ (by omega), yI_1n _ _ (by omega), (cA _ k (Or.inl (by omega))).1]
  have cG4 : (yI (yI (yI SA (128 + p) 12 1) (512 + g) 4 4) (512 + g) 6 (Sc.1 2 13)).1 (512 + g) 4 = 4 := by rw [yI_1n _ _ (by omega), yI_1s]
  have cG6 : (yI (yI (yI SA (128 + p) 12 1) (512 + g) 4 4) (512 + g) 6 (Sc.1 2 13)).1 (512 + g) 6 = Sc.1 2 13 := yI_1s _ _ _ _
  have cP12 : (yI (yI (yI SA (128 + p) 12 1) (512 + g) 4 4) (512 + g) 6 (Sc.1 2 13)).1 (128 + p) 12 = 1 := by rw [yI_1n _ _ (by omega), yI_1n _ _ (by omega), yI_1s]
  have hw : ∀ i, i ≠ 19 + 23 * p + 2 → i ≠ 19 + 23 * p + 3 → i ≠ 19 + 23 * p + 4 → i ≠ 19 + 23 * p + 14 → i ≠ 1345 + 5 * g + 0 → i ≠ 1345 + 5 * g + 2 → upd (upd (upd (upd (upd (MA.2.1 8 48) (19 + 23 * p + 4) (h + t)) (19 + 23 * p + 3) 1) (19 + 23 * p + 14) 0) (1345 + 5 * g + 0) 4) (1345 + 5 * g + 2) (Sc.1 2 13) i = Sm.2.1 8 48 i := fun i x2 x3 x4 x14 y0 y2 => by rw [upd_o _ _ y2, upd_o _ _ y0, upd_o _ _ x14, upd_o _ _ x3, upd_o _ _ x4, k5 i x2]
  have hw2 : upd (upd (upd (upd (upd (MA.2.1 8 48) (19 + 23 * p + 4) (h + t)) (19 + 23 * p + 3) 1) (19 + 23 * p + 14) 0) (1345 + 5 * g + 0) 4) (1345 + 5 * g + 2) (Sc.1 2 13) (19 + 23 * p + 2) = SA.1 (128 + p) 10 := by rw [upd_o _ _ (by omega), upd_o _ _ (by omega), upd_o _ _ (by omega), upd_o _ _ (by omega), upd_o _ _ (by omega), k7]
  have hw3 : upd (upd (upd (upd (upd (MA.2.1 8 48) (19 + 23 * p + 4) (h + t)) (19 + 23 * p + 3) 1) (19 + 23 * p + 14) 0) (1345 + 5 * g + 0) 4) (1345 + 5 * g + 2) (Sc.1 2 13) (19 + 23 * p + 3) = 1 := by rw [upd_o _ _ (by omega), upd_o _ _ (by omega), upd_o _ _ (by omega), upd_s]
  have hw4 : upd (upd (upd (upd (upd (MA.2.1 8 48) (19 + 23 * p + 4) (h + t)) (19 + 23 * p + 3) 1) (19 + 23 * p + 14) 0) (1345 + 5 * g + 0) 4) (1345 + 5 * g + 2) (Sc.1 2 13) (19 + 23 * p + 4) = SA.1 (128 + p) 13 := by rw [upd_o _ _ (by omega), upd_o _ _ (by omega), upd_o _ _ (by omega), upd_o _ _ (by omega), upd_s, k6]
  have hw14 : upd (upd (upd (upd (upd (MA.2.1 8 48) (19 + 23 * p + 4) (h + t)) (19 + 23 * p + 3) 1) (19 + 23 * p + 14) 0) (1345 + 5 * g + 0) 4) (1345 + 5 * g + 2) (Sc.1 2 13) (19 + 23 * p + 14) = 0 := by rw [upd_o _ _ (by omega), upd_o _ _ (by omega), upd_s]
  have hg0 : upd (upd (upd (upd (upd (MA.2.1 8 48) (19 + 23 * p + 4) (h + t)) (19 + 23 * p + 3) 1) (19 + 23 * p + 14) 0) (1345 + 5 * g + 0) 4) (1345 + 5 * g + 2) (Sc.1 2 13) (1345 + 5 * g + 0) = 4 := by rw [upd_o _ _ (by omega), upd_s]
  have hg2 : upd (upd (upd (upd (upd (MA.2.1 8 48) (19 + 23 * p + 4) (h + t)) (19 + 23 * p + 3) 1) (19 + 23 * p + 14) 0) (1345 + 5 * g + 0) 4) (1345 + 5 * g + 2) (Sc.1 2 13) (1345 + 5 * g + 2) = Sc.1 2 13 := upd_s _ _ _
  have cAr : ∀ o k, (o ≠ 128 + p ∨ (k ≠ 10 ∧ k ≠ 13)) → (yI (yI (yI SA (128 + p) 12 1) (512 + g) 4 4) (512 + g) 6 (Sc.1 2 13)).2.1 o k = Sc.2.1 o k := fun o k z => (cA o k z).2
  refine ⟨_, _, k1.trans (tailC SA k3), k2.trans (tailM MA h t k4 k5), ?_, ?_⟩
  · generalize upd (upd (upd (upd (upd (MA.2.1 8 48) (19 + 23 * p + 4) (h + t)) (19 + 23 * p + 3) 1) (19 + 23 * p + 14) 0) (1345 + 5 * g + 0) 4) (1345 + 5 * g + 2) (Sc.1 2 13) = W at hw hw2 hw3 hw4 hw14 hg0 hg2
    generalize yI (yI (yI SA (128 + p) 12 1) (512 + g) 4 4) (512 + g) 6 (Sc.1 2 13) = C at cP cO cG cG4 cG6 cP12 cAr
    intro hdn
    have cPk : ∀ k, k ≠ 12 → k ≠ 10 → k ≠ 13 → C.1 (128 + p) k = Sc.1 (128 + p) k := fun k x y z => by rw [cP k x, (cA _ k (Or.inr ⟨y, z⟩)).1]
    refine DY_one (p := p) hD0 ?_ ?_ ?_ ?_ ?_ ?_ ?_ ?_ ?_ ?_ ?_ ?_ ?_
    · rw [yA_same, hw 0 (by omega) (by omega) (by omega) (by omega) (by omega) (by omega), cO 2 13 (by omega) (by omega)]
      exact d1
    · rw [yA_same, hw 1 (by omega) (by omega) (by omega) (by omega) (by omega) (by omega), cO 2 14 (by omega) (by omega)]
      exact d2
    · rw [cO 2 13 (by omega) (by omega)]
      exact d3
    · obtain ⟨kw, hW⟩ := d4
      refine ⟨kw, RWk_congr hW (cO 3 0 (by omega) (by omega)) (cO 3 1 (by omega) (by omega)) ?_ ?_ ?_ ?_⟩
      · rw [yA_1]
        exact (k4 8 34 (by decide)).1
      · funext kk
        exact cAr 3 kk (Or.inl (by omega))
      · rw [yA_same, hw 2 (by omega) (by omega) (by omega) (by omega) (by omega) (by omega)]
      · intro i hi1 hi2
        rw [yA_same, hw i (by omega) (by omega) (by omega) (by omega) (by omega) (by omega)]
    · intro p' hp' hne
      have : p' < 8 := by have := t7.1.2.1; omega
      exact ⟨fun kk => cO _ kk (by omega) (by omega), cAr _ 19 (Or.inl (by omega))⟩
    · intro p' hp' hne j hj
      have : p' < 8 := by have := t7.1.2.1; omega
      rw [yA_same, hw _ (by omega) (by omega) (by omega) (by omega) (by omega) (by omega)]
    · intro j hj
      rw [yA_same]
      rcases (show j = 0 ∨ j = 1 ∨ j = 2 ∨ j = 3 ∨ j = 4 ∨ j = 5 ∨ j = 6 ∨ j = 7 ∨ j = 8 ∨ j = 9 ∨ j = 10 ∨ j = 11 by omega) with rfl | rfl | rfl | rfl | rfl | rfl | rfl | rfl | rfl | rfl | rfl | rfl
      · rw [hw _ (by omega) (by omega) (by omega) (by omega) (by omega) (by omega)]; exact (u 0 8 (by decide) rfl).trans (cPk 8 (by decide) (by decide) (by decide)).symm
      · rw [hw _ (by omega) (by omega) (by omega) (by omega) (by omega) (by omega)]; exact (u 1 9 (by decide) rfl).trans (cPk 9 (by decide) (by decide) (by decide)).symm
      · rw [hw2]; exact (cP 10 (by decide)).symm
      · rw [hw3]; exact cP12.symm
      · rw [hw4]; exact (cP 13 (by decide)).symm
      · rw [hw _ (by omega) (by omega) (by omega) (by omega) (by omega) (by omega)]; exact (u 5 5 (by decide) rfl).trans (cPk 5 (by decide) (by decide) (by decide)).symm
      · rw [hw _ (by omega) (by omega) (by omega) (by omega) (by omega) (by omega)]; exact (u 6 6 (by decide) rfl).trans (cPk 6 (by decide) (by decide) (by decide)).symm
      · rw [hw _ (by omega) (by omega) (by omega) (by omega) (by omega) (by omega)]; exact (u 7 7 (by decide) rfl).trans (cPk 7 (by decide) (by decide) (by decide)).symm
      · rw [hw _ (by omega) (by omega) (by omega) (by omega) (by omega) (by omega)]; exact (u 8 15 (by decide) rfl).trans (cPk 15 (by decide) (by decide) (by decide)).symm
      · rw [hw _ (by omega) (by omega) (by omega) (by omega) (by omega) (by omega)]; exact (u 9 14 (by decide) rfl).trans (cPk 14 (by decide) (by decide) (by decide)).symm
      · rw [hw _ (by omega) (by omega) (by omega) (by omega) (by omega) (by omega)]; exact (u 10 11 (by decide) rfl).trans (cPk 11 (by decide) (by decide) (by decide)).symm
      · rw [hw _ (by omega) (by omega) (by omega) (by omega) (by omega) (by omega)]; exact (u 11 16 (by decide) rfl).trans (cPk 16 (by decide) (by decide) (by decide)).symm
    · refine ⟨by rw [cP 13 (by decide)]; exact k8, by rw [cPk 7 (by decide) (by decide) (by decide)]; exact i2, by rw [cPk 11 (by decide) (by decide) (by decide)]; exact i3, Or.inr ⟨by rw [cPk 8 (by decide) (by decide) (by decide)]; exact hal, Or.inr cP12, ?_, ?_, g, ?_, g2, ?_, ?_, ?_, ?_, ?_⟩, fun z => ?_, fun _ => ⟨0, ?_, ⟨by decide, fun j hj => by omega⟩, ?_, fun j hj => by omega⟩⟩
      · obtain ⟨x, x1, x2⟩ := k9
        exact ⟨l, x, M', by rw [cPk 9 (by decide) (by decide) (by decide)]; exact a1, a2, by rw [cP 10 (by decide)]; exact x1, by rw [cO (64 + l) 2 (by omega) (by omega)]; exact a4, x2, a5.2⟩
      · exact ⟨q, by rw [cPk 16 (by decide) (by decide) (by decide)]; exact b1, b2⟩
      · rw [cPk 17 (by decide) (by decide) (by decide)]; exact g1
      · rw [cG4]; decide
      · rw [yA_same, hw _ (by omega) (by omega) (by omega) (by omega) (by omega) (by omega), cPk 17 (by decide) (by decide) (by decide)]; exact g4
      · rw [yA_same, hw _ (by omega) (by omega) (by omega) (by omega) (by omega) (by omega), cG 7 (by decide) (by decide)]; exact g5
      · rw [cG 1 (by decide) (by decide), cPk 16 (by decide) (by decide) (by decide)]; exact g6
      · rw [cG 2 (by decide) (by decide), cPk 9 (by decide) (by decide) (by decide)]; exact g7
      · rw [cP12] at z
        exact absurd z (by decide)
      · rw [cPk 18 (by decide) (by decide) (by decide), i5 hdn]
        exact nn_l 0 (by decide)
      · rw [yA_same, hw14, cPk 18 (by decide) (by decide) (by decide), i5 hdn]
    · intro q' hq' j hj
      have : q' < 8 := by have := t7.2.1.2.1; omega
      rw [yA_same, hw _ (by omega) (by omega) (by omega) (by omega) (by omega) (by omega), cO (256 + q') j (by omega) (by omega)]
      exact d6 q' hq' j hj
    · intro b hb
      have hb30 : b < 30 := by have := t7.2.2.1.2.1; omega
      obtain ⟨x1, ⟨n, n1, n2, n3⟩, x3⟩ := d7 b hb
      refine ⟨fun j hj => ?_, ⟨n, by rw [cO (384 + b) 10 (by omega) (by omega)]; exact n1, ⟨n2.1, n2.2.1, fun j hj => by rw [cAr (384 + b) 9 (Or.inl (by omega))]; exact n2.2.2 j hj⟩, fun j hj => ?_⟩, ?_⟩
      · rw [yA_same, hw _ (by omega) (by omega) (by omega) (by omega) (by omega) (by omega), cO (384 + b) _ (by omega) (by omega)]
        exact x1 j hj
      · rw [yA_same, hw _ (by omega) (by omega) (by omega) (by omega) (by omega) (by omega), cAr (384 + b) 9 (Or.inl (by omega))]
        exact n3 j hj
      · unfold BI
        rw [cO (384 + b) 8 (by omega) (by omega), cO (384 + b) 5 (by omega) (by omega), cO (384 + b) 6 (by omega) (by omega)]
        exact x3
    · intro g' hg' j hj
      have hg24 : g' < 24 := by have := t7.2.2.2.2.1; omega
      rw [yA_same]
      by_cases e : g' = g
      · subst e
        rcases (show j = 0 ∨ j = 1 ∨ j = 2 ∨ j = 3 ∨ j = 4 by omega) with rfl | rfl | rfl | rfl | rfl
        · rw [hg0]; exact cG4.symm
        · rw [hw _ (by omega) (by omega) (by omega) (by omega) (by omega) (by omega)]; exact (d8 g' hg' 1 (by decide)).trans (cG 5 (by decide) (by decide)).symm
        · rw [hg2]; exact cG6.symm
        · rw [hw _ (by omega) (by omega) (by omega) (by omega) (by omega) (by omega)]; exact (d8 g' hg' 3 (by decide)).trans (cG 8 (by decide) (by decide)).symm
        · rw [hw _ (by omega) (by omega) (by omega) (by omega) (by omega) (by omega)]; exact (d8 g' hg' 4 (by decide)).trans (cG 9 (by decide) (by decide)).symm
      · rw [hw _ (by omega) (by omega) (by omega) (by omega) (by omega) (by omega), cO (512 + g') _ (by omega) (by omega)]
        exact d8 g' hg' j hj
    · intro l' hl'
      have : l' < 12 := by have := t2.2.1; omega
      exact cO (64 + l') 2 (by omega) (by omega)
    · intro g' hg' hne
      by_cases e : g' = g
      · subst e
        exact ⟨cG 7 (by decide) (by decide), by rw [cG4]; decide, cG 1 (by decide) (by decide), cG 2 (by decide) (by decide)⟩
      · rw [cO (512 + g') 7 (by omega) (by omega), cO (512 + g') 4 (by omega) (by omega), cO (512 + g') 1 (by omega) (by omega), cO (512 + g') 2 (by omega) (by omega)]
        exact ⟨rfl, hne, rfl, rfl⟩
  · refine ⟨FR_trans (FR_mono k3 (fun o k z => ?_)) (FR_trans (FR_I _ _ _ _ ?_) (FR_trans (FR_I _ _ _ _ ?_) (FR_I _ _ _ _ ?_))), FR_trans (FR_mono k4 (fun o k z => ?_)) (FR_A _ _ _ _ ?_), fun i x1 x2 => by rw [yA_same, hw i (by omega) (by omega) (by omega) (by omega) (by omega) (by omega)]⟩
    · have z1 := z.1
      have z2 := z.2
      unfold pQC
      omega
    · unfold pQC; omega
    · unfold pQC; omega
    · unfold pQC; omega
    · exact ⟨z.1, Or.inr (Or.inl z.2)⟩
    · exact ⟨rfl, Or.inr (Or.inl rfl)⟩
