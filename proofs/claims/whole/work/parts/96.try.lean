/-! A WAITING FLIGHT IN A QUARTER -/
theorem DY_st {cK : Nat → Nat} {nf nl np nq nb ng g : Nat} {Sc Sm : yS} {v t : Int32} (h : DY cK nf nl np nq nb ng Sc Sm) (hc : oC np nq nb ng Sc Sm) (hl : nl ≤ 12) (hg : g < ng) (h0 : Sc.1 (512 + g) 4 = 0) : DY cK nf nl np nq nb ng (yI (yI Sc (512 + g) 4 v) (512 + g) 6 t) (yA Sm 8 48 (upd (upd (Sm.2.1 8 48) (1345 + 5 * g + 0) v) (1345 + 5 * g + 2) t)) := by
  have np8 : np ≤ 8 := hc.1.2.1
  have nq8 : nq ≤ 8 := hc.2.1.2.1
  have nb30 : nb ≤ 30 := hc.2.2.1.2.1
  have ng24 : ng ≤ 24 := hc.2.2.2.2.1
  obtain ⟨d1, d2, d3, ⟨kw, d4⟩, d5, d6, d7, d8, d9⟩ := h
  have c : ∀ o' k', (o' ≠ 512 + g ∨ (k' ≠ 4 ∧ k' ≠ 6)) → (yI (yI Sc (512 + g) 4 v) (512 + g) 6 t).1 o' k' = Sc.1 o' k' := fun o' k' z => by rw [yI_1n _ _ (by omega), yI_1n _ _ (by omega)]
  have w : ∀ i', i' ≠ 1345 + 5 * g + 0 → i' ≠ 1345 + 5 * g + 2 → (yA Sm 8 48 (upd (upd (Sm.2.1 8 48) (1345 + 5 * g + 0) v) (1345 + 5 * g + 2) t)).2.1 8 48 i' = Sm.2.1 8 48 i' := fun i' z y => by rw [yA_same, upd_o _ _ y, upd_o _ _ z]
  refine ⟨?_, ?_, ?_, ⟨kw, ?_⟩, ?_, ?_, ?_, ?_, ?_⟩
  · rw [w 0 (by omega) (by omega), c 2 13 (by omega)]; exact d1
  · rw [w 1 (by omega) (by omega), c 2 14 (by omega)]; exact d2
  · rw [c 2 13 (by omega)]; exact d3
  · exact RWk_congr d4 (c 3 0 (by omega)) (c 3 1 (by omega)) rfl rfl (w 2 (by omega) (by omega)) (fun i' a b => w i' (by omega) (by omega))
  · intro p hp j hj
    rw [w _ (by omega) (by omega), c _ _ (by omega)]; exact d5 p hp j hj
  · intro q' hq' j' hj'
    rw [w _ (by omega) (by omega), c _ _ (by omega)]; exact d6 q' hq' j' hj'
  · exact RBd_fr d7 nb30 (fun b hb k' => ⟨c _ k' (by omega), rfl⟩) (fun i' a b => w i' (by omega) (by omega))
  · intro g' hg' j' hj'
    by_cases e : g' = g
    · subst e
      rcases (show j' = 0 ∨ j' = 1 ∨ j' = 2 ∨ j' = 3 ∨ j' = 4 by omega) with rfl | rfl | rfl | rfl | rfl
      · rw [yA_same, upd_o _ _ (by omega), upd_s]
        show v = (yI (yI Sc (512 + g') 4 v) (512 + g') 6 t).1 (512 + g') 4
        rw [yI_1n _ _ (by omega), yI_1s]
      · rw [w _ (by omega) (by omega)]
        exact (d8 g' hg' 1 (by decide)).trans (c (512 + g') 5 (by omega)).symm
      · rw [yA_same, upd_s]
        show t = (yI (yI Sc (512 + g') 4 v) (512 + g') 6 t).1 (512 + g') 6
        rw [yI_1s]
      · rw [w _ (by omega) (by omega)]
        exact (d8 g' hg' 3 (by decide)).trans (c (512 + g') 8 (by omega)).symm
      · rw [w _ (by omega) (by omega)]
        exact (d8 g' hg' 4 (by decide)).trans (c (512 + g') 9 (by omega)).symm
    · rw [w _ (by omega) (by omega), c _ _ (by omega)]
      exact d8 g' hg' j' hj'
  · intro p hp
    refine PI_keep (d9 p hp) (fun k' => c _ k' (by omega)) rfl (fun j hj => w _ (by omega) (by omega)) (fun l hl' => c _ 2 (by omega)) (fun g' hg' hne => ?_)
    have e : g' ≠ g := fun z => by rw [z] at hne; exact hne h0
    rw [c _ 7 (by omega), c _ 4 (by omega), c _ 1 (by omega), c _ 2 (by omega)]
    exact ⟨rfl, hne, rfl, rfl⟩
theorem late_c {a b : Int32} {t w : Nat} (ha : nn a t) (hb : nn b w) (h1 : t ≤ 3000) (h2 : w ≤ 3000) (h : b ≤ a) : (a - 16 < b ↔ t < w + 16) ∧ (a - b < 16 ↔ t < w + 16) := by
  have h3 := (nn_le hb ha).mp h
  refine ⟨?_, ?_⟩
  · rw [Int32.lt_iff_toInt_lt, Int32.toInt_sub, ha.int, hb.int, show Int32.toInt 16 = 16 from rfl, Int.bmod_eq_of_le (by omega) (by omega)]
    omega
  · rw [nn_lt (nn_sub ha hb h3) (nn_l 16 (by decide))]
    omega
theorem try_both {cK : Nat → Nat} {N nf nl np nq nb ng g : Nat} {Sc Sm : yS} {gI : Int32} (hT : ST cK nf nl np nq nb ng Sc Sm) (hD : DY cK nf nl np nq nb ng Sc Sm) (hN : 120 < N) (hg : g < ng) (hgI : nn gI g) (h0 : Sc.1 (512 + g) 4 = 0) (hw : Sc.1 (512 + g) 3 ≤ Sc.1 2 13) : ∃ Sc' Sm', f_X10_tryStart N Sc gI = some (0, Sc') ∧ (∀ K : yS → Option (Int32 × yS), (if Sc.1 2 13 - Sc.1 (512 + g) 3 < 16 then bS (f_X12_whyNot N Sm gI 1) fun w2 S1 => if ¬ w2 = 0 then K S1 else bS (f_X12_start N S1 gI) fun w3 S2 => K S2 else bS (f_X12_endFlight N Sm gI 3) fun w4 S3 => K S3) = K Sm') ∧ DY cK nf nl np nq nb ng Sc' Sm' ∧ QF cK Sc Sm Sc' Sm' := by
  obtain ⟨t1, t2, t3, t4, t5, t6, t7, t8, t9, t10, t11, t12, t13, t14⟩ := id hT
  obtain ⟨t, ht, ht2⟩ := hD.2.2.1
  have g24 : g < 24 := by have := t7.2.2.2.2.1; omega
  have nl12 : nl ≤ 12 := t2.2.1
  have npb : np ≤ 8 := t7.1.2.1
  obtain ⟨e0, e1, e2, e3, e4, _, _, _, w, hw1, hw2⟩ := t11 g hg
  obtain ⟨q1, q2⟩ := late_c ht hw1 ht2 hw2 hw
  unfold f_X10_tryStart f_X10_tryStart_0
  rw [gR_nn hgI g24 e0]
  by_cases c : t < w + 16
  · rw [if_pos (q1.mpr c)]
    obtain ⟨h, p, q, l, y1, p1, p2, r1, r2, l1, l2, y2, y3⟩ := hind_both (N := N) hT hD hg hgI
    rw [y1, bV_s]
    by_cases z : h = 0
    · obtain ⟨⟨fi, f1, f2⟩, yE, _, y4⟩ := y3 z
      obtain ⟨v, S0, s1, s2, _, M1, s3, s4, s5⟩ := startAct_both (N := N) hT hD hN hg hgI p1 p2 r1 r2 l1 l2
      rw [if_pos z, s1, bS_s, sq_s]
      have cI : ∀ o k, ¬ pI1 o k → (o ≠ 512 + g ∨ k ≠ 8) → (yI S0 (512 + g) 8 (S0.1 4 1)).1 o k = Sc.1 o k := fun o k a b => by rw [yI_1n _ _ (by omega)]; exact (s2 o k a).1
      by_cases y : v = 71
      · rw [if_neg (show ¬ ¬ v = 71 from fun x => x y)]
        rw [if_pos y] at s3
        obtain ⟨Sc', Sm', u1, u2, u3, u4⟩ := start_both (N := N) (ST_QF hT s5) s4 hN hg hgI (by rw [cI _ 0 (by unfold pI1; omega) (by omega)]; exact p1) p2 (by rw [cI _ 1 (by unfold pI1; omega) (by omega)]; exact r1) r2 (by rw [cI _ 2 (by unfold pI1; omega) (by omega)]; exact l1) l2 (by rw [cI _ 8 (by unfold pI1; omega) (by omega)]; exact f1) f2 (by rw [cI (128 + p) 8 (by unfold pI1; omega) (by omega), cI (64 + l) 0 (by unfold pI1; omega) (by omega), cI (64 + l) 1 (by unfold pI1; omega) (by omega)]; exact yE) (by rw [cI _ 4 (by unfold pI1; omega) (by omega)]; exact h0)
        refine ⟨Sc', Sm', ?_, fun K => ?_, u3, QF_trans s5 u4⟩
        · rw [u1, bS_s]
          rfl
        · rw [if_pos (q2.mpr c), y4, s3, bS_s, if_neg (show ¬ ¬ (0 : Int32) = 0 from fun x => x rfl), u2, bS_s]
      · rw [if_pos y]
        rw [if_neg y] at s3
        refine ⟨_, M1, rfl, fun K => ?_, s4, s5⟩
        rw [if_pos (q2.mpr c), y4, s3, bS_s, if_pos (show ¬ (7 : Int32) = 0 by decide)]
    · rw [if_neg z]
      refine ⟨Sc, Sm, rfl, fun K => ?_, hD, QF_refl _ _⟩
      rw [if_pos (q2.mpr c), y2 z, bS_s, if_pos z]
  · rw [if_neg (fun z => c (q1.mp z))]
    have hd := DY_st (v := 3) (t := Sc.1 2 13) hD t7 nl12 hg h0
    refine ⟨_, _, ?_, fun K => ?_, hd, FR_trans (FR_I _ _ _ _ (by unfold pQC; omega)) (FR_I _ _ _ _ (by unfold pQC; omega)), FR_A _ _ _ _ ⟨rfl, Or.inr (Or.inl rfl)⟩, fun i a b => by rw [yA_same, upd_o _ _ (by omega), upd_o _ _ (by omega)]⟩
    · unfold f_X1_finish f_X1_finish_0
      rw [sq_s, sq_s, bS_s]
    · rw [if_neg (fun z => c (q2.mp z))]
      unfold f_X12_endFlight f_X12_endFlight_0
      rw [em_flW hgI g24 (nn_l 0 (by decide)) (by decide), bS_s, gA_nn (nn_l 0 (by decide)) (by decide), em_flW hgI g24 (nn_l 2 (by decide)) (by decide), bS_s, bS_s]
      simp only [yA_yA, yA_same]
      rw [upd_o _ _ (by omega), hD.1]
