/-- the row of answers -/
def RO (n : Nat) (Sc Sm : yS) : Prop := nn (Sc.1 0 8) n ∧ n ≤ 32 ∧ Sm.1 8 46 = Sc.1 0 8 ∧ ∀ i, i < n → Sm.2.1 8 45 i = Sc.2.1 0 7 i
theorem row_both {N n : Nat} {Sc Sm : yS} (h : RO n Sc Sm) (l : Int32) : (∃ v, f_X11_row N Sc l = some (some v, Sc) ∧ f_X12_row N Sm l = some (v, yI Sm 8 47 0)) ∨ (f_X11_row N Sc l = some (none, Sc) ∧ f_X12_row N Sm l = some (0, yI (yI Sm 8 47 0) 8 47 1)) := by
  obtain ⟨h1, h2, h3, h4⟩ := h
  have g : (yI Sm 8 47 0).1 8 46 = Sc.1 0 8 := h3
  simp only [f_X11_row, f_X11_row_0, f_X12_row, f_X12_row_0, f_X12_row_32, f_X12_lost, f_X12_lost_0, e_within, e_in, bV_s, bS_s, sq_s, g]
  by_cases a : 0 ≤ l ∧ l ≤ Sc.1 0 8 - 1
  · left
    obtain ⟨i, hi, hn⟩ := nn_idx h1 a
    simp only [b01_t a, i10, if_false, not_false_eq_true, if_true]
    rw [gA_nn hi (by omega), gA_nn hi (by omega), yI_2, h4 i hn]
    exact ⟨_, rfl, rfl⟩
  · simp only [b01_f a, not_true_eq_false, if_false, if_true]
    first | exact Or.inr ⟨trivial, trivial⟩ | exact Or.inr ⟨trivial, rfl⟩ | simp
