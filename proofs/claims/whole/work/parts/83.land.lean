theorem come_both {N k : Nat} {S M : yS} {now : Int32} (h : RW k S M) (ht : M.2.1 8 48 0 = now) (f l se cl wi : Int32) : ∃ S' M' k', f_X9_come N S f now l se cl wi = some (0, S') ∧ f_X12_say N M f l se cl wi = some (0, M') ∧ RW k' S' M' ∧ FR (fun o k => o = 3 ∧ k ≠ 0) S S' ∧ FR (fun o k => o = 8 ∧ k = 48) M M' ∧ (∀ i, i ≠ 2 → i < 1465 + 7 * k → M'.2.1 8 48 i = M.2.1 8 48 i) ∧ k ≤ k' ∧ ∀ j i, 2 ≤ j → j < 9 → i < k → S'.2.1 3 j i = S.2.1 3 j i := by
  have hm : nn (M.2.1 8 48 2) k := by rw [h.2.2.1]; exact h.1
  by_cases c : k < 120
  · refine ⟨_, _, k + 1, e_come h.1 c f now l se cl wi, em_say hm c f l se cl wi, ?_, ?_, FR_A _ _ _ _ ⟨rfl, rfl⟩, fun i h2 hi => ?_, Nat.le_succ k, fun j i h1 h2 h3 => ?_⟩
    · have r := RW_word h c f now l se cl wi
      rw [ht, h.2.2.2.1]
      exact RW_congr r rfl rfl rfl rfl rfl (fun _ _ _ => rfl)
    · unfold cWord
      exact FR_trans (FR_A _ _ _ _ ⟨rfl, by decide⟩) (FR_trans (FR_A _ _ _ _ ⟨rfl, by decide⟩) (FR_trans (FR_A _ _ _ _ ⟨rfl, by decide⟩) (FR_trans (FR_A _ _ _ _ ⟨rfl, by decide⟩) (FR_trans (FR_A _ _ _ _ ⟨rfl, by decide⟩) (FR_trans (FR_A _ _ _ _ ⟨rfl, by decide⟩) (FR_trans (FR_A _ _ _ _ ⟨rfl, by decide⟩) (FR_I _ _ _ _ ⟨rfl, by decide⟩)))))))
    · rw [yA_same]
      unfold mWordA
      rw [upd_o _ _ h2, upd_o _ _ (by omega), upd_o _ _ (by omega), upd_o _ _ (by omega), upd_o _ _ (by omega), upd_o _ _ (by omega), upd_o _ _ (by omega), upd_o _ _ (by omega)]
    · rcases (show j = 2 ∨ j = 3 ∨ j = 4 ∨ j = 5 ∨ j = 6 ∨ j = 7 ∨ j = 8 by omega) with rfl | rfl | rfl | rfl | rfl | rfl | rfl <;> exact upd_o _ _ (show i ≠ k by omega)
  · have e : k = 120 := by have := h.2.1; omega
    refine ⟨S, M, k, ?_, ?_, h, FR_refl _ _, FR_refl _ _, fun _ _ _ => rfl, Nat.le_refl k, fun _ _ _ _ _ => rfl⟩
    · unfold f_X9_come f_X9_come_0
      rw [if_neg (fun q => by have := (nn_lt h.1 (nn_l 120 (by decide))).mp q; omega)]
    · unfold f_X12_say f_X12_say_0
      rw [gA_nn (nn_l 2 (by decide)) (by decide), if_neg (fun q => q ((nn_eq hm (nn_l 120 (by decide))).mpr e))]
