/-! STEP -/
theorem clear_both {cK : Nat → Nat} {nf nl np nq nb ng : Nat} {Sc Sm : yS} (hT : ST cK nf nl np nq nb ng Sc Sm) (hD : DY cK nf nl np nq nb ng Sc Sm) : ST cK nf nl np nq nb ng Sc (yI Sm 8 47 0) ∧ DY cK nf nl np nq nb ng Sc (yI Sm 8 47 0) := by
  refine ⟨ST_FR hT (FR_refl _ _) (FR_I _ _ _ _ ⟨rfl, Or.inl rfl⟩) (fun i a b => rfl), DY_irr hD hT.2.2.2.2.2.2.1.2.2.1.2.1 (FR_refl _ _) (FR_I _ _ _ _ ⟨rfl, Or.inl rfl⟩)⟩
theorem step_both {cK : Nat → Nat} {N nf nl np nq nb ng : Nat} {Sc Sm : yS} {qI : Int32} (hN : 500 < N) (hT : ST cK nf nl np nq nb ng Sc Sm) (hD : DY cK nf nl np nq nb ng Sc Sm) : ∃ v Sc' Sm', f_X11_step N Sc qI = some (v, Sc') ∧ f_X12_step N Sm qI = some (v, Sm') ∧ ST cK nf nl np nq nb ng Sc' Sm' ∧ DY cK nf nl np nq nb ng Sc' Sm' ∧ kR Sc Sm Sc' Sm' := by
  obtain ⟨hT1, hD1⟩ := clear_both hT hD
  obtain ⟨t, ht, ht2⟩ := hD.2.2.1
  have hm0 : (yI Sm 8 47 0).2.1 8 48 0 = Sc.1 2 13 := hD.1
  unfold f_X11_step f_X11_step_0 f_X11_step_26 f_X12_step f_X12_step_0 f_X12_step_30
  rw [e_within, bV_s, sq_s, e_in, bV_s]
  by_cases c : 0 ≤ qI ∧ qI ≤ 400
  · rw [b01_t c, if_neg (show ¬ (1 : Int32) = 0 by decide), if_neg (show ¬ (1 : Int32) = 0 by decide), gA_nn (nn_l 0 (by decide)) (by decide), hm0]
    have hq := nn_of c.1
    have q400 := (nn_le hq (nn_l 400 (by decide))).mp c.2
    generalize qI.toNatClampNeg = q at hq q400
    by_cases z : Sc.1 2 13 + qI ≤ 3000
    · have he := nn_add ht hq (by omega)
      have e3 := (nn_le he (nn_l 3000 (by decide))).mp z
      rw [if_pos z, if_pos z]
      have hL : ∀ n S c, c < q → (fun n S c => f_X12_step_34 n N S qI c) (n + 1) S (Int32.ofNat c) = bS (f_X12_goQuarter N S) fun _ S1 => (fun n S c => f_X12_step_34 n N S qI c) n S1 (Int32.ofNat (c + 1)) := by
        intro n S c hc
        show f_X12_step_34 (n + 1) N S qI (Int32.ofNat c) = bS (f_X12_goQuarter N S) fun _ S1 => f_X12_step_34 n N S1 qI (Int32.ofNat (c + 1))
        rw [f_X12_step_34, if_neg (fun w => by have := (nn_le hq (nn_lit c (by omega))).mp w; omega), y_int1]
      obtain ⟨Sc', Sm', a1, a2, a3, a4, a5⟩ := pass_both (N := N) (e := t + q) (eI := Sc.1 2 13 + qI) (L := fun n S c => f_X12_step_34 n N S qI c) (by omega) hq he e3 hL q q t 0 0 N N Sc (yI Sm 8 47 0) (Nat.le_refl _) hT1 hD1 ht rfl (by omega) (by omega) (by omega) (by omega)
      refine ⟨Sc'.1 2 13, Sc', Sm', ?_, ?_, a3, a4, kR_trans kR_cl (kR_QH a5.2)⟩
      · unfold f_X10_pass f_X10_pass_0
        have a1' : f_X10_pass_9 N N Sc qI (Sc.1 2 13 + qI) 0 = some (0, Sc') := a1
        rw [a1', bS_s]
      · refine Eq.trans a2 ?_
        show f_X12_step_34 (N - q) N Sm' qI (Int32.ofNat q) = some (Sc'.1 2 13, Sm')
        obtain ⟨m, hm⟩ : ∃ m, N - q = m + 1 := ⟨N - q - 1, by omega⟩
        rw [hm, f_X12_step_34, if_pos (by rw [← hq.1]; exact Int32.le_refl _), gA_nn (nn_l 0 (by decide)) (by decide), a4.1]
    · rw [if_neg z, if_neg z]
      exact ⟨_, _, _, rfl, rfl, hT1, hD1, kR_cl⟩
  · rw [b01_f c, if_pos rfl, if_pos rfl]
    exact ⟨_, _, _, rfl, rfl, hT1, hD1, kR_cl⟩
