/-! BAG -/
theorem yRf_384 {S : yS} {i : Nat} (h : i < 64) : yRf S (384 + i) = S.2.1 2 8 i := by
  unfold yRf
  rw [if_neg (by omega), if_neg (by omega), if_neg (by omega), if_neg (by omega), if_neg (by omega), if_pos (by omega), Nat.add_sub_cancel_left]
theorem oB_trans {S : yS} {a b c : Nat} (h : oB S a b) (g : oB S b c) : oB S a c := by
  unfold oB at *
  rcases h with h | ⟨h1, h2 | ⟨h2, h3⟩⟩ <;> rcases g with g | ⟨g1, g2 | ⟨g2, g3⟩⟩
  · exact Or.inl (Int32.lt_trans h g)
  · exact Or.inl (by rw [← g1]; exact h)
  · exact Or.inl (by rw [← g1]; exact h)
  · exact Or.inl (by rw [h1]; exact g)
  · exact Or.inr ⟨h1.trans g1, Or.inl (Int32.lt_trans h2 g2)⟩
  · exact Or.inr ⟨h1.trans g1, Or.inl (by rw [← g2]; exact h2)⟩
  · exact Or.inl (by rw [h1]; exact g)
  · exact Or.inr ⟨h1.trans g1, Or.inl (by rw [h2]; exact g2)⟩
  · exact Or.inr ⟨h1.trans g1, Or.inr ⟨h2.trans g2, by omega⟩⟩
/-- bag a goes ahead of bag x that was told before -/
def oA (S : yS) (a x : Nat) : Prop := S.1 (384 + a) 3 < S.1 (384 + x) 3 ∨ (S.1 (384 + a) 3 = S.1 (384 + x) 3 ∧ S.1 (384 + a) 4 < S.1 (384 + x) 4)
theorem oA_B {S : yS} {a x : Nat} (h : oA S a x) : oB S a x := by
  rcases h with h | ⟨h1, h2⟩
  · exact Or.inl h
  · exact Or.inr ⟨h1, Or.inl h2⟩
theorem oA_not {S : yS} {a x : Nat} (h : ¬ oA S a x) (hx : x < a) : oB S x a := by
  unfold oA at h
  unfold oB
  by_cases e : S.1 (384 + a) 3 = S.1 (384 + x) 3
  · refine Or.inr ⟨e.symm, ?_⟩
    by_cases e2 : S.1 (384 + a) 4 = S.1 (384 + x) 4
    · exact Or.inr ⟨e2.symm, hx⟩
    · exact Or.inl (Int32.lt_of_le_of_ne (Int32.not_lt.mp (fun z => h (Or.inr ⟨e, z⟩))) (fun z => e2 z.symm))
  · exact Or.inl (Int32.lt_of_le_of_ne (Int32.not_lt.mp (fun z => h (Or.inl z))) (fun z => e z.symm))
theorem e_ahead {N a x : Nat} {S : yS} : (oA S a x → f_X0_isAheadOf N S (384 + a) (384 + x) = some 1) ∧ (¬ oA S a x → f_X0_isAheadOf N S (384 + a) (384 + x) = some 0) := by
  unfold f_X0_isAheadOf f_X0_isAheadOf_0 f_X0_isAheadOf_33 f_X0_isAheadOf_37 f_X0_isAheadOf_38 oA
  rw [gP_t (show (0 : Int32) = 0 ∨ (0 : Int32) = 1 from Or.inl rfl), gP_t (show (1 : Int32) = 0 ∨ (1 : Int32) = 1 from Or.inr rfl)]
  by_cases c1 : S.1 (384 + a) 3 < S.1 (384 + x) 3
  · rw [if_pos c1]
    exact ⟨fun _ => rfl, fun z => absurd (Or.inl c1) z⟩
  · rw [if_neg c1]
    by_cases c2 : S.1 (384 + a) 3 = S.1 (384 + x) 3
    · rw [if_neg (fun z => z c2)]
      by_cases c3 : S.1 (384 + x) 4 ≤ S.1 (384 + a) 4
      · rw [if_pos c3]
        refine ⟨fun z => ?_, fun _ => rfl⟩
        rcases z with z | ⟨_, z⟩
        · exact absurd z c1
        · exact absurd c3 (Int32.not_le.mpr z)
      · rw [if_neg c3]
        exact ⟨fun _ => rfl, fun z => absurd (Or.inr ⟨c2, Int32.not_le.mp c3⟩) z⟩
    · rw [if_pos c2]
      refine ⟨fun z => ?_, fun _ => rfl⟩
      rcases z with z | ⟨z, _⟩
      · exact absurd z c1
      · exact absurd z c2
theorem int_m1 {k : Nat} : Int32.ofNat (k + 1) - 1 = Int32.ofNat k ∧ Int32.ofNat (k + 1) + (-1) = Int32.ofNat k := by
  have e : Int32.ofNat (k + 1) - 1 = Int32.ofNat k := by
    rw [← y_int1]
    exact Int32.add_sub_cancel _ _
  exact ⟨e, by rw [← Int32.sub_eq_add_neg]; exact e⟩
theorem ord_loop {N nb : Nat} {o : Nat → Nat} {S : yS} (h9 : nn (S.1 2 9) nb) (hn : nb < 30) (ho : ∀ i, i < nb → o i < nb) (hx : ∀ b, b < nb → S.2.1 2 8 b = 1) : ∀ (k m : Nat) (A : Nat → Int32), k ≤ nb → k < m → (∀ i, i < k → nn (A i) (o i)) → (∀ i, k ≤ i → i < nb → nn (A (i + 1)) (o i)) → ∃ p A', p ≤ k ∧ f_X10_addBag_27 m N (yA S 2 10 A) (384 + nb) (Int32.ofNat k) = some (Int32.ofNat nb, yI (yA S 2 10 A') 2 9 (Int32.ofNat (nb + 1))) ∧ nn (A' p) nb ∧ (∀ i, i < p → nn (A' i) (o i)) ∧ (∀ i, p ≤ i → i < nb → nn (A' (i + 1)) (o i)) ∧ (0 < p → ¬ oA S nb (o (p - 1))) ∧ ∀ i, p ≤ i → i < k → oA S nb (o i) := by
  have fin : ∀ (k : Nat) (A : Nat → Int32), k ≤ nb → f_X10_addBag_71 N (yA S 2 10 A) (Int32.ofNat k) = some (Int32.ofNat nb, yI (yA S 2 10 (upd A k (Int32.ofNat nb))) 2 9 (Int32.ofNat (nb + 1))) := by
    intro k A hk
    unfold f_X10_addBag_71
    rw [gA_nn (nn_lit k (by omega)) (by omega), sq_s, sq_s, yA_1, yA_1, yA_yA, yA_same, h9.1, y_int1]
  intro k
  induction k with
  | zero =>
    intro m A hk hm h1 h2
    obtain ⟨m, rfl⟩ : ∃ x, m = x + 1 := ⟨m - 1, by omega⟩
    refine ⟨0, upd A 0 (Int32.ofNat nb), Nat.le_refl _, ?_, by rw [upd_s]; exact nn_lit nb (by omega), fun i hi => by omega, fun i a b => by rw [upd_o _ _ (by omega)]; exact h2 i a b, fun z => by omega, fun i a b => by omega⟩
    rw [f_X10_addBag_27, if_pos (show Int32.ofNat 0 ≤ 0 by decide)]
    exact fin 0 A (by omega)
  | succ k ih =>
    intro m A hk hm h1 h2
    obtain ⟨m, rfl⟩ : ∃ x, m = x + 1 := ⟨m - 1, by omega⟩
    have nk := nn_lit k (by omega)
    have nk1 := nn_lit (k + 1) (by omega)
    have nle : ¬ Int32.ofNat (k + 1) ≤ 0 := fun z => by have := (nn_le nk1 (nn_l 0 (by decide))).mp z; omega
    obtain ⟨c1, c2⟩ := e_ahead (N := N) (S := yA S 2 10 A) (a := nb) (x := o k)
    have hok := ho k (by omega)
    have hxx : (yA S 2 10 A).2.1 2 8 (o k) = 1 := by rw [yA_2n _ _ (by decide)]; exact hx _ hok
    rw [f_X10_addBag_27, if_neg nle, int_m1.1, gA_nn nk (by omega), yA_same, gR_nn (h1 k (by omega)) (by omega) hxx]
    by_cases c : oA S nb (o k)
    · obtain ⟨p, A', a1, a2, a3, a4, a5, a6, a7⟩ := ih m (upd A (k + 1) (A k)) (by omega) (by omega) (fun i hi => by rw [upd_o _ _ (by omega)]; exact h1 i (by omega)) (fun i x y => by
        by_cases e : i = k
        · rw [e, upd_s]; exact h1 k (by omega)
        · rw [upd_o _ _ (by omega)]; exact h2 i (by omega) y)
      refine ⟨p, A', by omega, ?_, a3, a4, a5, a6, fun i x y => ?_⟩
      · rw [c1 c, bV_s, if_neg (show ¬ (1 : Int32) = 0 by decide), gA_nn nk (by omega), gA_nn nk1 (by omega), sq_s, yA_yA, int_m1.2]
        exact a2
      · by_cases e : i = k
        · rw [e]; exact c
        · exact a7 i x (by omega)
    · refine ⟨k + 1, upd A (k + 1) (Int32.ofNat nb), Nat.le_refl _, ?_, by rw [upd_s]; exact nn_lit nb (by omega), fun i hi => by rw [upd_o _ _ (by omega)]; exact h1 i hi, fun i a b => by rw [upd_o _ _ (by omega)]; exact h2 i a b, fun _ => c, fun i a b => by omega⟩
      rw [c2 c, bV_s, if_pos rfl]
      exact fin (k + 1) A hk
def oI (o : Nat → Nat) (p nb i : Nat) : Nat := if i < p then o i else if i = p then nb else o (i - 1)
/-- the order with one more -/
theorem oR_more {nb p : Nat} {o : Nat → Nat} {S : yS} {A' : Nat → Int32} (ho : ∀ i, i < nb → o i < nb) (hs : ∀ i j, i < j → j < nb → oB S (o i) (o j)) (hj : ∀ b, b < nb → ∃ i, i < nb ∧ o i = b) (hp : p ≤ nb) (a3 : nn (A' p) nb) (a4 : ∀ i, i < p → nn (A' i) (o i)) (a5 : ∀ i, p ≤ i → i < nb → nn (A' (i + 1)) (o i)) (a6 : 0 < p → ¬ oA S nb (o (p - 1))) (a7 : ∀ i, p ≤ i → i < nb → oA S nb (o i)) (hS : S.2.1 2 10 = A') : oR (nb + 1) S := by
  have lo : ∀ i, i < p → oB S (o i) nb := fun i hi => by
    have b1 := oA_not (a6 (by omega)) (ho (p - 1) (by omega))
    by_cases e : i = p - 1
    · rw [e]; exact b1
    · exact oB_trans (hs i (p - 1) (by omega) (by omega)) b1
  refine ⟨oI o p nb, fun i hi => ?_, fun i j hij hjn => ?_, fun b hb => ?_⟩
  · rw [hS]
    unfold oI
    by_cases c : i < p
    · rw [if_pos c]; exact ⟨a4 i c, by have := ho i (by omega); omega⟩
    · rw [if_neg c]
      by_cases e : i = p
      · rw [if_pos e, e]; exact ⟨a3, by omega⟩
      · rw [if_neg e]
        have := a5 (i - 1) (by omega) (by omega)
        rw [show i - 1 + 1 = i by omega] at this
        exact ⟨this, by have := ho (i - 1) (by omega); omega⟩
  · unfold oI
    by_cases c : i < p
    · rw [if_pos c]
      by_cases d : j < p
      · rw [if_pos d]; exact hs i j hij (by omega)
      · rw [if_neg d]
        by_cases e : j = p
        · rw [if_pos e]; exact lo i c
        · rw [if_neg e]; exact hs i (j - 1) (by omega) (by omega)
    · rw [if_neg c, if_neg (show ¬ j < p by omega)]
      by_cases e : i = p
      · rw [if_pos e, if_neg (show ¬ j = p by omega)]
        exact oA_B (a7 (j - 1) (by omega) (by omega))
      · rw [if_neg e, if_neg (show ¬ j = p by omega)]
        exact hs (i - 1) (j - 1) (by omega) (by omega)
  · unfold oI
    by_cases e : b = nb
    · refine ⟨p, by omega, ?_⟩
      rw [if_neg (by omega), if_pos rfl]; exact e.symm
    · obtain ⟨i, i1, i2⟩ := hj b (by omega)
      by_cases c : i < p
      · exact ⟨i, by omega, by rw [if_pos c]; exact i2⟩
      · refine ⟨i + 1, by omega, ?_⟩
        rw [if_neg (by omega), if_neg (by omega), Nat.add_sub_cancel]; exact i2
