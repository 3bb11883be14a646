theorem cGr_i {S : yS} {p k : Nat} {q r : Int32} {o s : Nat} (h : ¬ (o = p ∧ s = 4)) : (cGr S p k q r).1 o s = S.1 o s := by
  unfold cGr
  rw [yI_1n _ _ h]
  rfl
theorem cGr_a {S : yS} {p k : Nat} {q r : Int32} {o s : Nat} (h : ¬ o = p) : (cGr S p k q r).2.1 o s = S.2.1 o s := by
  unfold cGr
  rw [yI_2, yA_2n _ _ (fun z => h z.1), yA_2n _ _ (fun z => h z.1)]
theorem cGr_4 {S : yS} {p k : Nat} {q r : Int32} : (cGr S p k q r).1 p 4 = Int32.ofNat (k + 1) := by
  unfold cGr
  rw [yI_1s]
theorem cGr_5 {S : yS} {p k : Nat} {q r : Int32} : (cGr S p k q r).2.1 p 5 = upd (S.2.1 p 5) k q := by
  unfold cGr
  rw [yI_2, yA_2n _ _ (fun z => absurd z.2 (by decide)), yA_same]
theorem cGr_6 {S : yS} {p k : Nat} {q r : Int32} : (cGr S p k q r).2.1 p 6 = upd (S.2.1 p 6) k r := by
  unfold cGr
  rw [yI_2, yA_same]
theorem mGr_6 {S : yS} {i k : Nat} {q r : Int32} : (mGr S i k q r).2.1 8 6 = upd (S.2.1 8 6) (4 * i + k) q := rfl
theorem mGr_7 {S : yS} {i k : Nat} {q r : Int32} : (mGr S i k q r).2.1 8 7 = upd (S.2.1 8 7) (4 * i + k) r := rfl
theorem mGr_8 {S : yS} {i k : Nat} {q r : Int32} : (mGr S i k q r).2.1 8 8 = upd (S.2.1 8 8) i (Int32.ofNat (k + 1)) := rfl
theorem R1_ground {Sc Sm : yS} {i k : Nat} (h : R1 Sc Sm i k) (hi : i < 12) (hk : k < 4) (q r : Int32) : R1 (cGr Sc (64 + i) k q r) (mGr Sm i k q r) i (k + 1) := by
  obtain ⟨r1, r2, r3, r4, r5, r6, r7, r8, r9, r10, r11, r12⟩ := h
  unfold R1
  rw [cGr_a (show ¬ 1 = 64 + i by omega), cGr_i (show ¬ (64 + i = 64 + i ∧ 0 = 4) from fun z => absurd z.2 (by decide)), cGr_i (show ¬ (64 + i = 64 + i ∧ 1 = 4) from fun z => absurd z.2 (by decide)), cGr_i (show ¬ (64 + i = 64 + i ∧ 2 = 4) from fun z => absurd z.2 (by decide)), cGr_i (show ¬ (64 + i = 64 + i ∧ 3 = 4) from fun z => absurd z.2 (by decide)), cGr_4, cGr_5, cGr_6, mGr_6, mGr_7, mGr_8, upd_s]
  refine ⟨r1, r2, r3, r4, r5, r6, r7, r8, nn_lit (k + 1) (by omega), by omega, rfl, fun j hj => ?_⟩
  by_cases e : j = k
  · subst e
    rw [upd_s, upd_s, upd_s, upd_s]
    exact ⟨rfl, rfl⟩
  · rw [upd_o _ _ e, upd_o _ _ e, upd_o _ _ (show 4 * i + j ≠ 4 * i + k by omega), upd_o _ _ (show 4 * i + j ≠ 4 * i + k by omega)]
    exact r12 j (by omega)
theorem R1_ground' {Sc Sm : yS} {i i' k k' : Nat} (h : R1 Sc Sm i' k') (hi : i ≠ i') (hk : k < 4) (q r : Int32) : R1 (cGr Sc (64 + i) k q r) (mGr Sm i k q r) i' k' := by
  obtain ⟨r1, r2, r3, r4, r5, r6, r7, r8, r9, r10, r11, r12⟩ := h
  have ne : ∀ s, ¬ (64 + i' = 64 + i ∧ s = 4) := fun s z => hi (by omega)
  unfold R1
  rw [cGr_a (show ¬ 1 = 64 + i by omega), cGr_i (ne 0), cGr_i (ne 1), cGr_i (ne 2), cGr_i (ne 3), cGr_i (fun z => hi (by omega)), cGr_a (show ¬ 64 + i' = 64 + i by omega), cGr_a (show ¬ 64 + i' = 64 + i by omega), mGr_6, mGr_7, mGr_8, upd_o _ _ (Ne.symm hi)]
  refine ⟨r1, r2, r3, r4, r5, r6, r7, r8, r9, r10, r11, fun j hj => ?_⟩
  rw [upd_o _ _ (show 4 * i' + j ≠ 4 * i + k by omega), upd_o _ _ (show 4 * i' + j ≠ 4 * i + k by omega)]
  exact r12 j hj
theorem RG_ground {nl : Nat} {Sc Sm : yS} {i k : Nat} (h : RG nl Sc Sm) (hi : i < nl) (hR : R1 Sc Sm i k) (hk : k < 4) (q r : Int32) : RG nl (cGr Sc (64 + i) k q r) (mGr Sm i k q r) := by
  obtain ⟨h1, h2, h3, h4, h5⟩ := h
  refine ⟨?_, h2, ?_, fun i' hi' => ?_, fun i' hi' hi12 => ?_⟩
  · rw [cGr_i (fun z => by omega)]
    exact h1
  · rw [cGr_i (fun z => by omega)]
    exact h3
  · by_cases e : i = i'
    · subst e
      exact ⟨k + 1, R1_ground hR (by omega) hk q r⟩
    · obtain ⟨k', hk'⟩ := h4 i' hi'
      exact ⟨k', R1_ground' hk' e hk q r⟩
  · rw [cGr_a (by omega), cGr_i (fun z => absurd z.2 (by decide))]
    exact h5 i' hi' hi12
