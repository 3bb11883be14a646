/-! TRAIN -/
theorem mile_eq {cK : Nat → Nat} {f g : Nat → Int32} {a t : Nat} (h : RDc cK f g) (ha : a < 8) (ht : t < 8) (e : cK a = cK t) : f (8 * a + t) = g (8 * a + t) ∧ ∃ w, nn (g (8 * a + t)) w ∧ w ≤ 2800 := by
  obtain ⟨p, q, hp, hq, e1, _⟩ := h a t ha ht
  obtain ⟨rfl, hle⟩ := e1 e
  have := cntR_le cK (cK a) 8
  exact ⟨by rw [hp.1, hq.1], p, hq, by omega⟩
theorem rUp_nn {x y : Int32} {m n : Nat} (hx : nn x m) (hy : nn y n) (h1 : 1 ≤ n) (h2 : m + n < 2147483648) : nn (rUp x y) ((m + n - 1) / n) := nn_div (nn_sub (nn_add hx hy h2) (nn_l 1 (by decide)) (by omega)) hy
theorem entrain_both {cK : Nat → Nat} {N b : Nat} {Sc Sm : yS} {bI now tm : Int32} (hb : b < 30) (hbI : nn bI b) (hD : DB1 b Sc Sm) (hs : DS1 cK b Sc Sm) (hn : Sm.2.1 8 48 0 = now) : ∃ Sc' Sm', f_X0_entrain N Sc (384 + b) now tm = some (0, Sc') ∧ (∀ (K : yS → Option (Int32 × yS)), (bS (f_X12_setBag N Sm bI 0 (-1)) fun w1 S1 => bS (f_X12_setBag N S1 bI 2 tm) fun w2 S2 => bS (f_X12_led N S2 bI 200) fun w3 S3 => K S3) = K Sm') ∧ DB1 b Sc' Sm' ∧ DS1 cK b Sc' Sm' ∧ FR (pBg b) Sc Sc' ∧ wF (235 + 37 * b) (272 + 37 * b) Sm Sm' ∧ Sc'.1 (384 + b) 5 = -1 ∧ Sc'.1 (384 + b) 8 = Sc.1 (384 + b) 8 ∧ Sc'.1 (384 + b) 6 = Sc.1 (384 + b) 6 ∧ Sc'.1 (384 + b) 7 = tm := by
  have d : ∀ j k, j < 5 → bSl j = k → Sm.2.1 8 48 (235 + 37 * b + j) = Sc.1 (384 + b) k := fun j k hj hk => by rw [← hk]; exact hD j hj
  have H4 : (yA Sm 8 48 (upd (upd (Sm.2.1 8 48) (235 + 37 * b + 0) (-1)) (235 + 37 * b + 2) tm)).2.1 8 48 (235 + 37 * b + 4) = (yI (yI Sc (384 + b) 5 (-1)) (384 + b) 7 tm).1 (384 + b) 10 := by
    rw [yA_same, upd_o _ _ (by omega), upd_o _ _ (by omega), yI_1n _ _ (by omega), yI_1n _ _ (by omega)]
    exact d 4 10 (by decide) rfl
  have HS : DS1 cK b (yI (yI Sc (384 + b) 5 (-1)) (384 + b) 7 tm) (yA Sm 8 48 (upd (upd (Sm.2.1 8 48) (235 + 37 * b + 0) (-1)) (235 + 37 * b + 2) tm)) := by
    obtain ⟨n, n1, n2, n3⟩ := hs
    refine ⟨n, ?_, n2, fun j hj => ?_⟩
    · rw [yI_1n _ _ (by omega), yI_1n _ _ (by omega)]
      exact n1
    · rw [yA_same, upd_o _ _ (by omega), upd_o _ _ (by omega)]
      exact n3 j hj
  have HN : (yA Sm 8 48 (upd (upd (Sm.2.1 8 48) (235 + 37 * b + 0) (-1)) (235 + 37 * b + 2) tm)).2.1 8 48 0 = now := by
    rw [yA_same, upd_o _ _ (by omega), upd_o _ _ (by omega)]
    exact hn
  obtain ⟨Sc', Sm', a1, a2, a3, a4, a5, a6⟩ := led_both (N := N) (pl := 200) hb hbI H4 HS HN
  have g : ∀ k, k ≠ 9 → k ≠ 10 → Sc'.1 (384 + b) k = (yI (yI Sc (384 + b) 5 (-1)) (384 + b) 7 tm).1 (384 + b) k := fun k h1 h2 => (a5 (384 + b) k (fun z => by have := z.2; omega)).1
  have g5 : Sc'.1 (384 + b) 5 = -1 := by rw [g 5 (by decide) (by decide), yI_1n _ _ (by omega), yI_1s]
  have g7 : Sc'.1 (384 + b) 7 = tm := by rw [g 7 (by decide) (by decide), yI_1s]
  have g6 : Sc'.1 (384 + b) 6 = Sc.1 (384 + b) 6 := by rw [g 6 (by decide) (by decide), yI_1n _ _ (by omega), yI_1n _ _ (by omega)]
  have g8 : Sc'.1 (384 + b) 8 = Sc.1 (384 + b) 8 := by rw [g 8 (by decide) (by decide), yI_1n _ _ (by omega), yI_1n _ _ (by omega)]
  refine ⟨Sc', Sm', ?_, fun K => ?_, ?_, a4, ?_, ?_, g5, g8, g6, g7⟩
  · unfold f_X0_entrain f_X0_entrain_0
    rw [sq_s, sq_s, a1, bS_s]
  · rw [em_setBag hbI hb (nn_l 0 (by decide)) (by decide), bS_s, em_setBag hbI hb (nn_l 2 (by decide)) (by decide), bS_s]
    simp only [yA_yA, yA_same]
    rw [a2, bS_s]
  · intro j hj
    rcases (show j = 0 ∨ j = 1 ∨ j = 2 ∨ j = 3 ∨ j = 4 by omega) with rfl | rfl | rfl | rfl | rfl
    · rw [a6.2 _ (by omega), yA_same, upd_o _ _ (by omega), upd_s]; exact g5.symm
    · rw [a6.2 _ (by omega), yA_same, upd_o _ _ (by omega), upd_o _ _ (by omega)]; exact (d 1 6 (by decide) rfl).trans g6.symm
    · rw [a6.2 _ (by omega), yA_same, upd_s]; exact g7.symm
    · rw [a6.2 _ (by omega), yA_same, upd_o _ _ (by omega), upd_o _ _ (by omega)]; exact (d 3 8 (by decide) rfl).trans g8.symm
    · exact a3
  · exact FR_trans (FR_trans (FR_I _ _ _ _ ⟨rfl, by omega⟩) (FR_I _ _ _ _ ⟨rfl, by omega⟩)) (FR_mono a5 (fun o k z => ⟨z.1, by omega⟩))
  · refine wF_trans ⟨FR_A _ _ _ _ ⟨rfl, rfl⟩, fun i hi => ?_⟩ (wF_mono a6 (by omega) (by omega))
    rw [yA_same, upd_o _ _ (by omega), upd_o _ _ (by omega)]
theorem train_both {cK : Nat → Nat} {N nf nl np nq nb ng : Nat} {Sc Sm : yS} {bI : Int32} (hT : ST cK nf nl np nq nb ng Sc Sm) (hD : DY cK nf nl np nq nb ng Sc Sm) : ∃ v Sc' Sm', f_X11_train N Sc bI = some (v, Sc') ∧ f_X12_train N Sm bI = some (v, Sm') ∧ ST cK nf nl np nq nb ng Sc' Sm' ∧ DY cK nf nl np nq nb ng Sc' Sm' ∧ kR Sc Sm Sc' Sm' := by
  obtain ⟨hT1, hD1⟩ := clear_both hT hD
  obtain ⟨t1, t2, t3, t4, t5, t6, t7, t8, t9, t10, t11, t12, t13, t14⟩ := id hT1
  have nb30 : nb ≤ 30 := t7.2.2.1.2.1
  have nl12 : nl ≤ 12 := t2.2.1
  have nf8 : nf ≤ 8 := t1.2.1
  unfold f_X11_train f_X11_train_0 f_X11_train_24 f_X12_train f_X12_train_0 f_X12_train_23
  rw [e_isBag, bV_s, sq_s, em_isBag, bV_s, t7.2.2.1.2.2]
  by_cases c : 0 ≤ bI ∧ bI ≤ Sc.1 2 9 - 1
  · obtain ⟨b, b1, b2⟩ := nn_idx t7.2.2.1.1 c
    obtain ⟨x1, x2, x3⟩ := hD1.2.2.2.2.2.2.1 b b2
    obtain ⟨y0, y1, y2, y3, y4, y5, y6, ⟨to, to1, to2⟩, _⟩ := t10 b b2
    have w0 : (yI Sm 8 47 0).2.1 8 48 (235 + 37 * b + 0) = Sc.1 (384 + b) 5 := x1 0 (by decide)
    rw [b01_t c, if_neg (show ¬ (1 : Int32) = 0 by decide), if_neg (show ¬ (1 : Int32) = 0 by decide), gR_nn b1 (by omega) y0, em_bagOf b1 (by omega) (nn_l 0 (by decide)) (by decide), bV_s, w0]
    by_cases z : Sc.1 (384 + b) 5 = -1
    · rw [if_neg (fun q => q z), if_neg (fun q => q z)]
      exact ⟨-1, _, _, rfl, rfl, hT1, hD1, kR_cl⟩
    · rw [if_pos z, if_pos z]
      rcases x3.2.1 with y | ⟨f, f1, f2, f3⟩
      · exact absurd y z
      obtain ⟨m1, w, m2, m3⟩ := mile_eq t3.1 (show f < 8 by omega) (show to < 8 by omega) (f3.trans (t3.2.2.1 b b2 to (Or.inr to1)).symm)
      rw [gR_nn b1 (by omega) y0, e_miles f1 to1 (by omega) (by omega), bV_s, e_roundUp (nn_l 4 (by decide)) (by decide), bV_s, gA_nn (nn_l 0 (by decide)) (by decide), bV_s, gA_nn b1 (by omega), y2, gA_nn (nn_add (nn_mul (nn_l 8 (by decide)) f1 (by omega)) to1 (by omega)) (by omega), m1, em_upR (nn_l 4 (by decide)) (by decide), bV_s, hD1.1]
      obtain ⟨Sc', Sm', a1, a2, a3, a4, a5, a6, a7, a8, a9, a10⟩ := entrain_both (N := N) (now := Sc.1 2 13) (tm := Sc.1 2 13 + (if 1 < rUp (Sc.2.1 1 7 (8 * f + to)) 4 then rUp (Sc.2.1 1 7 (8 * f + to)) 4 else 1)) (show b < 30 by omega) b1 x1 x2 hD1.1
      have fc := pBg_s a5 (by omega)
      have fm : wF 235 1345 (yI Sm 8 47 0) Sm' := wF_mono a6 (by omega) (by omega)
      have hB := RBd_one hD1.2.2.2.2.2.2.1 b2 nb30 a3 a4 ⟨by rw [a8]; exact x3.1, Or.inl a7, by rw [a9]; exact x3.2.2⟩ a5 a6
      refine ⟨_, Sc', Sm', by rw [a1, bS_s, a10], a2 _, ST_FR hT1 (FR_mono fc (fun o k y => by unfold pBgs at y; unfold pQC; omega)) (FR_mono fm.1 (fun o k y => ⟨y.1, Or.inr (Or.inl y.2)⟩)) (fun i h1 h2 => fm.2 i (by omega)), DY_bags hD1 t7 nl12 hB fc fm, kR_trans kR_cl (kR_FR fc fm.1 (fun k z => by unfold pBgs at z; omega) (fun k a b z => by have := z.2; omega))⟩
  · rw [b01_f c, if_pos rfl, if_pos rfl]
    exact ⟨-1, _, _, rfl, rfl, hT1, hD1, kR_cl⟩
