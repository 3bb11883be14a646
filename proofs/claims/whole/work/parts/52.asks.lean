/-! FAR, SET, SKY: both sides -/
theorem far_both {N nf : Nat} {c : Nat → Nat} {Sc Sm : yS} (hF : RF nf Sc Sm) (hD : RDc c (Sm.2.1 8 10) (Sc.2.1 1 7)) (l1 l2 : Int32) : ∃ v, f_X11_far N Sc l1 l2 = some v ∧ f_X12_far N Sm l1 l2 = some (v, yI Sm 8 47 0) := by
  have g1 : (yI Sm 8 47 0).1 8 1 = Sc.1 1 3 := hF.2.2.1
  have h8 := hF.2.1
  simp only [f_X11_far, f_X11_far_0, f_X11_far_16, f_X11_far_39, f_X12_far, f_X12_far_0, f_X12_far_51, f_X12_far_52, e_isField, em_isField, bV_s, sq_s, g1]
  by_cases a1 : 0 ≤ l1 ∧ l1 ≤ Sc.1 1 3 - 1
  · by_cases a2 : 0 ≤ l2 ∧ l2 ≤ Sc.1 1 3 - 1
    · obtain ⟨a, ha, ha'⟩ := nn_idx hF.1 a1
      obtain ⟨b, hb, hb'⟩ := nn_idx hF.1 a2
      have ix := nn_add (nn_mul (nn_l 8 (by decide)) ha (by omega)) hb (by omega)
      simp only [b01_t a1, b01_t a2, i10, if_false, not_false_eq_true, if_true, e_miles ha hb (show a < 8 by omega) (show b < 8 by omega), bV_s, gA_nn ix (show 8 * a + b < 64 by omega), yI_2]
      obtain ⟨p, q, hp, hq, e1, e2⟩ := hD a b (by omega) (by omega)
      by_cases e : c a = c b
      · obtain ⟨rfl, hle⟩ := e1 e
        have := cntR_le c (c a) 8
        rw [if_pos ((nn_lt hq (nn_l 1000000 (by decide))).mpr (by omega)), if_neg (fun z => by have := (nn_le (nn_l 268435456 (by decide)) hp).mp z; omega)]
        exact ⟨_, rfl, by rw [hp.1, hq.1]⟩
      · obtain ⟨rfl, rfl⟩ := e2 e
        rw [if_neg (fun z => by have := (nn_lt hq (nn_l 1000000 (by decide))).mp z; omega), if_pos ((nn_le (nn_l 268435456 (by decide)) hp).mpr (by omega))]
        exact ⟨_, rfl, rfl⟩
    · simp only [b01_t a1, b01_f a2, i10, if_false, not_true_eq_false, if_true]
      exact ⟨_, rfl, rfl⟩
  · simp only [b01_f a1, if_true]
    exact ⟨_, rfl, rfl⟩
/-- the three numbers that can be set -/
def RS (Sc Sm : yS) : Prop := Sm.1 8 34 = Sc.1 3 0 ∧ Sm.1 8 35 = Sc.1 2 15 ∧ Sm.1 8 36 = Sc.1 2 16
theorem set_both {N : Nat} {Sc Sm : yS} (h : RS Sc Sm) (l1 l2 : Int32) : ∃ v Sc' Sm', f_X11_set N Sc l1 l2 = some (v, Sc') ∧ f_X12_set N Sm l1 l2 = some (v, Sm') ∧ ((Sc' = Sc ∧ Sm' = yI Sm 8 47 0) ∨ ((0 ≤ l2 ∧ l2 ≤ 20) ∧ Sc' = yI Sc 3 0 l2 ∧ Sm' = yI (yI Sm 8 47 0) 8 34 l2) ∨ ((0 ≤ l2 ∧ l2 ≤ 50) ∧ Sc' = yI Sc 2 15 l2 ∧ Sm' = yI (yI Sm 8 47 0) 8 35 l2) ∨ ((0 ≤ l2 ∧ l2 ≤ 99) ∧ Sc' = yI Sc 2 16 l2 ∧ Sm' = yI (yI Sm 8 47 0) 8 36 l2)) := by
  obtain ⟨h1, h2, h3⟩ := h
  have g1 : (yI Sm 8 47 0).1 8 34 = Sc.1 3 0 := h1
  have g2 : (yI Sm 8 47 0).1 8 35 = Sc.1 2 15 := h2
  have g3 : (yI Sm 8 47 0).1 8 36 = Sc.1 2 16 := h3
  simp only [f_X11_set, f_X11_set_0, f_X11_set_41, f_X11_set_75, f_X11_set_106, f_X12_set, f_X12_set_0, f_X12_set_37, f_X12_set_43, f_X12_set_72, f_X12_set_103, e_within, e_in, bV_s, sq_s, g1, g2, g3]
  have d01 : ¬ (0 : Int32) = 1 := by decide
  have d02 : ¬ (0 : Int32) = 2 := by decide
  have d12 : ¬ (1 : Int32) = 2 := by decide
  have d20 : ¬ (2 : Int32) = 0 := by decide
  have d21 : ¬ (2 : Int32) = 1 := by decide
  by_cases e0 : l1 = 0
  · subst e0
    have r : (0 : Int32) ≤ 0 ∧ (0 : Int32) ≤ 2 := by decide
    by_cases a : 0 ≤ l2 ∧ l2 ≤ 20
    · simp only [b01_t r, b01_t a, i10, if_false, not_true_eq_false, not_false_eq_true, if_true]
      exact ⟨_, _, _, rfl, rfl, Or.inr (Or.inl ⟨a, rfl, rfl⟩)⟩
    · simp only [b01_t r, b01_f a, i10, d01, d02, if_false, not_true_eq_false, not_false_eq_true, if_true]
      exact ⟨_, _, _, rfl, rfl, Or.inl ⟨rfl, rfl⟩⟩
  · by_cases e1 : l1 = 1
    · subst e1
      have r : (0 : Int32) ≤ 1 ∧ (1 : Int32) ≤ 2 := by decide
      by_cases a : 0 ≤ l2 ∧ l2 ≤ 50
      · simp only [b01_t r, b01_t a, i10, if_false, not_true_eq_false, not_false_eq_true, if_true]
        exact ⟨_, _, _, rfl, rfl, Or.inr (Or.inr (Or.inl ⟨a, rfl, rfl⟩))⟩
      · simp only [b01_t r, b01_f a, i10, d12, if_false, not_true_eq_false, not_false_eq_true, if_true]
        exact ⟨_, _, _, rfl, rfl, Or.inl ⟨rfl, rfl⟩⟩
    · by_cases e2 : l1 = 2
      · subst e2
        have r : (0 : Int32) ≤ 2 ∧ (2 : Int32) ≤ 2 := by decide
        by_cases a : 0 ≤ l2 ∧ l2 ≤ 99
        · simp only [b01_t r, b01_t a, i10, d20, d21, if_false, not_true_eq_false, not_false_eq_true, if_true]
          exact ⟨_, _, _, rfl, rfl, Or.inr (Or.inr (Or.inr ⟨a, rfl, rfl⟩))⟩
        · simp only [b01_t r, b01_f a, i10, d20, d21, if_false, not_true_eq_false, not_false_eq_true, if_true]
          exact ⟨_, _, _, rfl, rfl, Or.inl ⟨rfl, rfl⟩⟩
      · have r : ¬ ((0 : Int32) ≤ l1 ∧ l1 ≤ 2) := fun z => by
          obtain ⟨k, hk, _, hk2⟩ := nn_btw (nn_l 0 (by decide)) (nn_l 2 (by decide)) z
          rcases (show k = 0 ∨ k = 1 ∨ k = 2 by omega) with rfl | rfl | rfl
          · exact e0 hk.1
          · exact e1 hk.1
          · exact e2 hk.1
        simp only [b01_f r, e0, e1, e2, not_false_eq_true, if_true]
        exact ⟨_, _, _, rfl, rfl, Or.inl ⟨rfl, rfl⟩⟩
