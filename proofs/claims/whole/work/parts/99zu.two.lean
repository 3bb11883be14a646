/-! TWO WORLDS ON ONE HEAP: the class's objects and the reference's -/
theorem yHas_ex {ev : xEv} {T : yT} {S : yS} {o j : Nat} (h : yHas o j) : ∃ z, yCell ev T S o j = some z := by
  cases j with
  | zero =>
    unfold yHas at h
    unfold yCell
    by_cases c : oc o = 13 ∨ oc o = 15
    · exact absurd c h
    · rw [if_neg c]; exact ⟨_, rfl⟩
  | succ k =>
    have h' : (yRow (oc o) k).isSome = true := h
    simp only [yCell]
    cases e : yRow (oc o) k with
    | none => rw [e] at h'; cases h'
    | some q => exact ⟨_, rfl⟩
/-- the cells of one world -/
def aOf (T : yT) (a : Nat) : Prop := ∃ o j, T.1 o = true ∧ yHas o j ∧ T.2.1 o j = a
/-- all but one world's view: the other world's cells, and X -/
noncomputable def fOf (T : yT) (hp X : xH) : xH := fun a => @ite _ (aOf T a) (Classical.propDecidable _) (hp a) (X a)
theorem fOf_y {T : yT} {hp X : xH} {a : Nat} (h : aOf T a) : fOf T hp X a = hp a := if_pos h
theorem fOf_n {T : yT} {hp X : xH} {a : Nat} (h : ¬ aOf T a) : fOf T hp X a = X a := if_neg h
theorem two_step {rt1 rt2 : List Nat} {ev : xEv} {T1 T2 T1' : yT} {S2 S1' : yS} {X hp hp' : xH} (b : cR rt2 (fOf T1 hp X) ev T2 S2 hp) (c : cR rt1 (fOf T2 hp X) ev T1' S1' hp') (sz : T2.2.2.1 ≤ T1'.2.2.1) : cR rt1 (fOf T2 hp' X) ev T1' S1' hp' ∧ cR rt2 (fOf T1' hp' X) ev (T2.1, T2.2.1, T1'.2.2.1, T2.2.2.2) S2 hp' := by
  obtain ⟨b1, b2, b3, b4, b5, b6, b7, b8, b9⟩ := b
  obtain ⟨c1, c2, c3, c4, c5, c6, c7, c8, c9⟩ := c
  -- the second world's cells stand as they were
  have cell : ∀ a, aOf T2 a → ∃ z, hp a = some z ∧ hp' a = some z ∧ a < T1'.2.2.1 := fun a h => by
    have h' := h
    obtain ⟨o, j, h1, h2, h3⟩ := h
    obtain ⟨z, hz⟩ := yHas_ex (ev := ev) (T := T2) (S := S2) h2
    have e := b2 o j z h1 hz
    rw [h3] at e
    obtain ⟨y1, y2⟩ := c5 a z ((fOf_y h').trans e)
    exact ⟨z, e, y1, y2⟩
  have eqF : fOf T2 hp' X = fOf T2 hp X := by
    funext a
    by_cases h : aOf T2 a
    · obtain ⟨z, h1, h2, _⟩ := cell a h
      rw [fOf_y h, fOf_y h, h1, h2]
    · rw [fOf_n h, fOf_n h]
  have dis : ∀ a, aOf T2 a → ¬ aOf T1' a := fun a h g => by
    obtain ⟨o, j, h1, h2, h3⟩ := g
    have := (c4 o j h1 h2).1
    rw [h3, fOf_y h] at this
    obtain ⟨z, e, _⟩ := cell a h
    rw [e] at this; cases this
  refine ⟨by rw [eqF]; exact ⟨c1, c2, c3, c4, c5, c6, c7, c8, c9⟩, b1, fun o j z h1 hz => ?_, b3, fun o j h1 h2 => ?_, fun a z h => ?_, b6, b7, b8, b9⟩
  · have hz' : yCell ev T2 S2 o j = some z := hz
    have h2 := yHas_of hz'
    have e := b2 o j z h1 hz'
    obtain ⟨z', x1, x2, _⟩ := cell _ ⟨o, j, h1, h2, rfl⟩
    rw [e] at x1
    show hp' (T2.2.1 o j) = some z
    rw [x2, ← x1]
  · have ha : aOf T2 (T2.2.1 o j) := ⟨o, j, h1, h2, rfl⟩
    obtain ⟨z, x1, x2, x3⟩ := cell _ ha
    refine ⟨?_, x3⟩
    show fOf T1' hp' X (T2.2.1 o j) = none
    rw [fOf_n (dis _ ha)]
    have y := (b4 o j h1 h2).1
    by_cases g : aOf T1 (T2.2.1 o j)
    · rw [fOf_y g, x1] at y; cases y
    · rw [fOf_n g] at y; exact y
  · by_cases g : aOf T1' a
    · obtain ⟨o, j, h1, h2, h3⟩ := g
      rw [fOf_y ⟨o, j, h1, h2, h3⟩] at h
      exact ⟨h, by rw [← h3]; exact (c4 o j h1 h2).2⟩
    · rw [fOf_n g] at h
      by_cases y : aOf T2 a
      · obtain ⟨o, j, h1, h2, h3⟩ := y
        exfalso
        have u := (b4 o j h1 h2).1
        rw [h3] at u
        obtain ⟨z', x1, _⟩ := cell a ⟨o, j, h1, h2, h3⟩
        by_cases g1 : aOf T1 a
        · rw [fOf_y g1, x1] at u; cases u
        · rw [fOf_n g1, h] at u; cases u
      · exact c5 a z ((fOf_n y).trans h)
