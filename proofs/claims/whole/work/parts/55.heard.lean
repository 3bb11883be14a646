theorem heard_both {N k : Nat} {Sc Sm : yS} (h : RW k Sc Sm) (hf : Sm.1 8 1 = Sc.1 1 3) (hg : Sm.1 8 9 = Sc.1 1 5) (hN : 120 < N) (f l q w : Int32) : (∃ v, f_X11_heard N Sc f l q w = some (some v, Sc) ∧ f_X12_heard N Sm f l q w = some (v, yI Sm 8 47 0)) ∨ (f_X11_heard N Sc f l q w = some (none, Sc) ∧ f_X12_heard N Sm f l q w = some (0, yI (yI Sm 8 47 0) 8 47 1)) := by
  have h' : RW k Sc (yI Sm 8 47 0) := RW_congr h rfl rfl rfl rfl rfl (fun _ _ _ => rfl)
  have g1 : (yI Sm 8 47 0).1 8 1 = Sc.1 1 3 := hf
  have g9 : (yI Sm 8 47 0).1 8 9 = Sc.1 1 5 := hg
  simp only [f_X11_heard, f_X11_heard_0, f_X11_heard_33, f_X12_heard, f_X12_heard_0, f_X12_heard_42, f_X12_heard_93, f_X12_lost, f_X12_lost_0, e_isField, em_isField, e_isLeg, em_isLeg, e_isQuarter, e_within, e_in, e_latest h hN, em_wordAt h' hN, bV_s, bS_s, sq_s, g1, g9]
  by_cases a0 : 0 ≤ f ∧ f ≤ Sc.1 1 3 - 1
  · by_cases a1 : 0 ≤ l ∧ l ≤ Sc.1 1 5 - 1
    · by_cases a2 : 0 ≤ q ∧ q ≤ 3000
      · by_cases a3 : 0 ≤ w ∧ w ≤ 2
        · simp only [b01_t a0, b01_t a1, b01_t a2, b01_t a3, i10, if_false, not_false_eq_true, if_true]
          cases hs : sWd Sc k f l q with
          | none =>
            right
            rw [if_neg (fun z => z rfl), if_neg (fun z => z rfl)]
            exact ⟨rfl, rfl⟩
          | some j =>
            left
            have hj := sWd_lt hs
            have hk := h.2.1
            have nj := nn_lit j (by omega)
            have nw : nn (encW (some j)) (1465 + 7 * j) := nn_lit (1465 + 7 * j) (by omega)
            have hne : ¬ encW (some j) = -1 := fun e => nw.nneg (by rw [e]; decide)
            obtain ⟨_, z2, z3, z4, _⟩ := h.2.2.2.2 j hj
            rw [if_pos (encN_ne j (by omega)), if_pos hne]
            by_cases e0 : w = 0
            · rw [if_pos e0, if_neg (fun z => z e0), show encN (some j) = Int32.ofNat j from rfl, gA_nn nj (by omega), gA_nn (nn_add nw (nn_l 1 (by decide)) (by omega)) (by omega), z2, show 1465 + 7 * j + 1 = 1466 + 7 * j by omega]
              exact ⟨_, rfl, rfl⟩
            · by_cases e1 : w = 1
              · rw [if_neg e0, if_pos e1, if_pos e0, if_neg (fun z => z e1), show encN (some j) = Int32.ofNat j from rfl, gA_nn nj (by omega), gA_nn (nn_add nw (nn_l 2 (by decide)) (by omega)) (by omega), z3, show 1465 + 7 * j + 2 = 1467 + 7 * j by omega]
                exact ⟨_, rfl, rfl⟩
              · rw [if_neg e0, if_neg e1, if_pos e0, if_pos e1, show encN (some j) = Int32.ofNat j from rfl, gA_nn nj (by omega), gA_nn (nn_add nw (nn_l 3 (by decide)) (by omega)) (by omega), z4, show 1465 + 7 * j + 3 = 1468 + 7 * j by omega]
                exact ⟨_, rfl, rfl⟩
        · simp only [b01_t a0, b01_t a1, b01_t a2, b01_f a3, i10, if_false, not_true_eq_false, if_true]
          first | exact Or.inr ⟨trivial, trivial⟩ | exact Or.inr ⟨trivial, rfl⟩ | simp
      · simp only [b01_t a0, b01_t a1, b01_f a2, i10, if_false, if_true]
        first | exact Or.inr ⟨trivial, trivial⟩ | exact Or.inr ⟨trivial, rfl⟩ | simp
    · simp only [b01_t a0, b01_f a1, i10, if_false, if_true]
      first | exact Or.inr ⟨trivial, trivial⟩ | exact Or.inr ⟨trivial, rfl⟩ | simp
  · simp only [b01_f a0, if_true]
    first | exact Or.inr ⟨trivial, trivial⟩ | exact Or.inr ⟨trivial, rfl⟩ | simp
