/-! SEND: the spares are taken -/
def pRn (o k : Nat) : Prop := (o = 0 ∧ k = 7) ∨ (o = 1 ∧ k = 2) ∨ (128 ≤ o ∧ o < 136 ∧ (k = 5 ∨ k = 7 ∨ k = 13 ∨ k = 14))
def pRr (o k : Nat) : Prop := o = 8 ∧ (k = 45 ∨ k = 48)
/-- one slot of a plane set on both sides -/
theorem pl_set {cK : Nat → Nat} {nf nl np nq nb ng p j : Nat} {S M : yS} {v : Int32} (hT : ST cK nf nl np nq nb ng S M) (hD : DY cK nf nl np nq nb ng S M) (hp : p < np) (hj : j = 4 ∨ j = 5 ∨ j = 7 ∨ j = 9) (h0 : j = 4 ∨ j = 7 → v = 0) : ST cK nf nl np nq nb ng (yI S (128 + p) (pS j) v) (yA M 8 48 (upd (M.2.1 8 48) (19 + 23 * p + j) v)) ∧ DY cK nf nl np nq nb ng (yI S (128 + p) (pS j) v) (yA M 8 48 (upd (M.2.1 8 48) (19 + 23 * p + j) v)) := by
  have np8 : np ≤ 8 := hT.2.2.2.2.2.2.1.1.2.1
  have nl12 : nl ≤ 12 := hT.2.1.2.1
  have ng24 : ng ≤ 24 := hT.2.2.2.2.2.2.1.2.2.2.2.1
  have ps : pS j = 13 ∨ pS j = 5 ∨ pS j = 7 ∨ pS j = 14 := by
    rcases hj with rfl | rfl | rfl | rfl
    · exact Or.inl rfl
    · exact Or.inr (Or.inl rfl)
    · exact Or.inr (Or.inr (Or.inl rfl))
    · exact Or.inr (Or.inr (Or.inr rfl))
  have k13 : pS j = 13 → v = 0 := fun z => h0 (by
    rcases hj with rfl | rfl | rfl | rfl
    · exact Or.inl rfl
    · exact absurd z (by decide)
    · exact Or.inr rfl
    · exact absurd z (by decide))
  have k7 : pS j = 7 → v = 0 := fun z => h0 (by
    rcases hj with rfl | rfl | rfl | rfl
    · exact Or.inl rfl
    · exact absurd z (by decide)
    · exact Or.inr rfl
    · exact absurd z (by decide))
  refine ⟨ST_FR hT (FR_I _ _ _ _ (by unfold pQC; omega)) (FR_A _ _ _ _ (by unfold pQM; omega)) (fun i a b => by rw [yA_same, upd_o _ _ (by omega)]), DY_pl hD hT.2.2.2.2.2.2.1 nl12 hp (by omega) ?_⟩
  obtain ⟨a1, a2, a3, a4, a5, a6⟩ := hD.2.2.2.2.2.2.2.2 p hp
  have c : ∀ o k, o ≠ 128 + p → (yI S (128 + p) (pS j) v).1 o k = S.1 o k := fun o k z => yI_1n _ _ (fun y => z y.1)
  have d : ∀ k, k ≠ pS j → (yI S (128 + p) (pS j) v).1 (128 + p) k = S.1 (128 + p) k := fun k z => yI_1n _ _ (fun y => z y.2)
  have w : ∀ i, i ≠ 19 + 23 * p + j → (yA M 8 48 (upd (M.2.1 8 48) (19 + 23 * p + j) v)).2.1 8 48 i = M.2.1 8 48 i := fun i z => by rw [yA_same, upd_o _ _ z]
  unfold PI
  rw [d 11 (by omega), d 8 (by omega), d 12 (by omega), d 18 (by omega)]
  refine ⟨?_, ?_, a3, ?_, a5, fun z => ?_⟩
  · by_cases e : pS j = 13
    · rw [e, yI_1s, k13 e]; exact ⟨0, nn_l 0 (by decide), by decide⟩
    · rw [d 13 (fun z => e z.symm)]; exact a1
  · by_cases e : pS j = 7
    · rw [e, yI_1s, k7 e]; exact ⟨0, nn_l 0 (by decide), by decide⟩
    · rw [d 7 (fun z => e z.symm)]; exact a2
  · rcases a4 with z | ⟨z1, z2, l, x, g, z3⟩
    · exact Or.inl z
    · refine Or.inr ⟨z1, z2, ?_⟩
      unfold PA
      rw [d 9 (by omega), d 10 (by omega), d 16 (by omega), d 17 (by omega)]
      obtain ⟨l1, m, M', l2, l3, l4, l5, l6, l7⟩ := l
      refine ⟨⟨l1, m, M', l2, l3, l4, by rw [c _ _ (by omega)]; exact l5, l6, l7⟩, x, g, ?_⟩
      rw [c _ 4 (by omega), c _ 7 (by omega), c _ 1 (by omega), c _ 2 (by omega), w _ (by omega), w _ (by omega)]
      exact z3
  · obtain ⟨n, b1, b2, b3, b4⟩ := a6 z
    exact ⟨n, b1, b2, by rw [w _ (by omega)]; exact b3, fun i hi => by rw [w _ (by omega)]; exact b4 i hi⟩
/-- the state of the last loops -/
def SLi (cK : Nat → Nat) (nf nl np nq nb ng n : Nat) (sp s : Nat → Nat) (Sb Mb : yS) (i : Nat) (S M : yS) : Prop := ST cK nf nl np nq nb ng S M ∧ DY cK nf nl np nq nb ng S M ∧ FR pRn Sb S ∧ FR pRr Mb M ∧ (∀ p, p < 8 → M.2.1 8 48 (19 + 23 * p + 0) = Mb.2.1 8 48 (19 + 23 * p + 0)) ∧ (∀ f, f < nf → nn (S.2.1 1 2 f) (sp f - cntS s f i) ∧ sp f ≤ 9) ∧ ∀ j, j < i → S.2.1 0 7 j = fI (s j) ∧ M.2.1 8 45 j = fI (s j)
/-- one spare less on both sides -/
theorem spare_set {cK : Nat → Nat} {nf nl np nq nb ng f x : Nat} {S M : yS} (hT : ST cK nf nl np nq nb ng S M) (hD : DY cK nf nl np nq nb ng S M) (hf : f < nf) (hx : nn (S.2.1 1 2 f) x) (x1 : 1 ≤ x) (x9 : x ≤ 9) : ST cK nf nl np nq nb ng (yA S 1 2 (upd (S.2.1 1 2) f (S.2.1 1 2 f - 1))) (yA M 8 48 (upd (M.2.1 8 48) (4 + 2 * f) (M.2.1 8 48 (4 + 2 * f) - 1))) ∧ DY cK nf nl np nq nb ng (yA S 1 2 (upd (S.2.1 1 2) f (S.2.1 1 2 f - 1))) (yA M 8 48 (upd (M.2.1 8 48) (4 + 2 * f) (M.2.1 8 48 (4 + 2 * f) - 1))) := by
  obtain ⟨r1, r2, r3, r4⟩ := hT.1
  refine ST_lamp hT hD (FR_A _ _ _ _ (by unfold pcFi; omega)) (FR_A _ _ _ _ (by unfold pmFi; omega)) ⟨r1, r2, r3, fun i hi => ?_⟩ (fun i hi => by rw [yA_same, upd_o _ _ (by omega)])
  obtain ⟨y1, y2, y3, y4, y5⟩ := r4 i hi
  rw [yA_same, yA_same, yA_2n _ _ (by decide), yA_2n _ _ (by decide), yA_2n _ _ (by decide), upd_o _ _ (show 3 + 2 * i ≠ 4 + 2 * f by omega)]
  refine ⟨y1, y2, ?_, y4, ?_⟩
  · by_cases e : i = f
    · rw [e, upd_s, upd_s]
      have := (r4 f (by omega)).2.2.1
      rw [this]
    · rw [upd_o _ _ e, upd_o _ _ (by omega)]; exact y3
  · by_cases e : i = f
    · rw [e, upd_s]
      have := (r4 f (by omega)).2.2.1
      rw [← this]
      exact ⟨x - 1, nn_sub hx (nn_l 1 (by decide)) x1, by omega⟩
    · rw [upd_o _ _ (by omega)]; exact y5
