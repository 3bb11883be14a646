/-! A CELL OF NEITHER WORLD IS WRITTEN (the law's row out) -/
theorem J2_free {ev : xEv} {X hp : xH} {TC TM : yT} {SC SM : yS} {a : Nat} {z : va_E} (h : J2 ev X TC SC TM SM hp) (e : X a = some z) : ¬ aOf TC a ∧ ¬ aOf TM a ∧ hp a = some z ∧ a < TC.2.2.1 := by
  obtain ⟨h1, h2, h3, h4, h5⟩ := h
  have nC : ¬ aOf TC a := fun g => by
    have g' := g
    obtain ⟨o, j, g1, g2, g3⟩ := g
    have u := (h1.2.2.2.1 o j g1 g2).1
    rw [g3] at u
    by_cases y : aOf TM a
    · obtain ⟨w, hw⟩ := yHas_ex (ev := ev) (T := TC) (S := SC) g2
      have v := h1.2.1 o j w g1 hw
      rw [g3] at v
      rw [fOf_y y, v] at u; cases u
    · rw [fOf_n y, e] at u; cases u
  have nM : ¬ aOf TM a := fun g => by
    obtain ⟨o, j, g1, g2, g3⟩ := g
    have u := (h2.2.2.2.1 o j g1 g2).1
    rw [g3, fOf_n nC, e] at u; cases u
  have v := h1.2.2.2.2.1 a z ((fOf_n nM).trans e)
  exact ⟨nC, nM, v.1, v.2⟩
theorem J2_one {rt : List Nat} {ev : xEv} {X hp : xH} {T1 T2 : yT} {S : yS} {a : Nat} {z0 z : va_E} (h : cR rt (fOf T2 hp X) ev T1 S hp) (e : X a = some z0) (n1 : ¬ aOf T1 a) (n2 : ¬ aOf T2 a) : cR rt (fOf T2 (xU hp a z) (xU X a z)) ev T1 S (xU hp a z) := by
  obtain ⟨c1, c2, c3, c4, c5, c6, c7, c8, c9⟩ := h
  have F : ∀ b, b ≠ a → fOf T2 (xU hp a z) (xU X a z) b = fOf T2 hp X b := fun b hb => by
    by_cases y : aOf T2 b
    · rw [fOf_y y, fOf_y y, xU_other _ _ hb]
    · rw [fOf_n y, fOf_n y, xU_other _ _ hb]
  have ne : ∀ o j, T1.1 o = true → yHas o j → T1.2.1 o j ≠ a := fun o j a1 a2 y => n1 ⟨o, j, a1, a2, y⟩
  refine ⟨c1, fun o j w g1 g2 => ?_, c3, fun o j g1 g2 => ?_, fun b w g => ?_, c6, c7, c8, c9⟩
  · rw [xU_other _ _ (ne o j g1 (yHas_of g2))]; exact c2 o j w g1 g2
  · rw [F _ (ne o j g1 g2)]; exact c4 o j g1 g2
  · by_cases y : b = a
    · subst y
      rw [fOf_n n2, xU_same] at g
      obtain rfl := Option.some.inj g
      exact ⟨xU_same _ _ _, (c5 b z0 ((fOf_n n2).trans e)).2⟩
    · rw [F b y] at g
      rw [xU_other _ _ y]; exact c5 b w g
theorem J2_out {ev : xEv} {X hp : xH} {TC TM : yT} {SC SM : yS} {a : Nat} {z0 z : va_E} (h : J2 ev X TC SC TM SM hp) (e : X a = some z0) : J2 ev (xU X a z) TC SC TM SM (xU hp a z) := by
  obtain ⟨n1, n2, _, _⟩ := J2_free h e
  obtain ⟨h1, h2, h3, h4, h5⟩ := h
  exact ⟨J2_one h1 e n1 n2, J2_one h2 e n2 n1, h3, h4, h5⟩
