/-! BOTH OBJECTS MADE: the class's first, then the reference's -/
theorem J2_start {ev : xEv} {hp0 hpA hpB : xH} {TC TM : yT} {SC SM : yS} (A : cR rtC hp0 ev TC SC hpA) (B : cR [8] hpA ev TM SM hpB) (eC : TC.2.2.2 = 0) (eM : TM.2.2.2 = 0) : J2 ev hp0 (reT TC TM.2.2.1) SC TM SM hpB := by
  obtain ⟨a1, a2, a3, a4, a5, a6, a7, a8, a9⟩ := A
  obtain ⟨b1, b2, b3, b4, b5, b6, b7, b8, b9⟩ := B
  have cell : ∀ a, aOf TC a → ∃ z, hpA a = some z ∧ hpB a = some z ∧ a < TM.2.2.1 := fun a h => by
    obtain ⟨o, j, h1, h2, h3⟩ := h
    obtain ⟨z, hz⟩ := yHas_ex (ev := ev) (T := TC) (S := SC) h2
    have e := a2 o j z h1 hz
    rw [h3] at e
    exact ⟨z, e, b5 a z e⟩
  have cellM : ∀ a, aOf TM a → hpA a = none ∧ a < TM.2.2.1 := fun a h => by
    obtain ⟨o, j, h1, h2, h3⟩ := h
    rw [← h3]; exact b4 o j h1 h2
  have dis : ∀ a, aOf TM a → ¬ aOf TC a := fun a h g => by
    obtain ⟨z, e, _⟩ := cell a g
    rw [(cellM a h).1] at e; cases e
  refine ⟨⟨a1, fun o j z h1 hz => ?_, a3, fun o j h1 h2 => ?_, fun a z h => ?_, a6, a7, a8, a9⟩, ⟨b1, b2, b3, fun o j h1 h2 => ?_, fun a z h => ?_, b6, b7, b8, b9⟩, rfl, eC, eM⟩
  · have hz' : yCell ev TC SC o j = some z := hz
    have e := a2 o j z h1 hz'
    exact (b5 _ z e).1
  · have ha : aOf TC (TC.2.1 o j) := ⟨o, j, h1, h2, rfl⟩
    obtain ⟨z, x1, x2, x3⟩ := cell _ ha
    refine ⟨?_, x3⟩
    show fOf TM hpB hp0 (TC.2.1 o j) = none
    rw [fOf_n (fun g => dis _ g ha)]
    exact (a4 o j h1 h2).1
  · by_cases g : aOf TM a
    · rw [fOf_y g] at h
      exact ⟨h, (cellM a g).2⟩
    · rw [fOf_n g] at h
      exact b5 a z (a5 a z h).1
  · have ha : aOf TM (TM.2.1 o j) := ⟨o, j, h1, h2, rfl⟩
    refine ⟨?_, (cellM _ ha).2⟩
    show fOf TC hpB hp0 (TM.2.1 o j) = none
    rw [fOf_n (dis _ ha)]
    cases e : hp0 (TM.2.1 o j) with
    | none => rfl
    | some z =>
      have := (a5 _ z e).1
      rw [(cellM _ ha).1] at this; cases this
  · have h' : fOf TC hpB hp0 a = some z := h
    by_cases g : aOf TC a
    · rw [fOf_y g] at h'
      obtain ⟨w, x1, x2, x3⟩ := cell a g
      exact ⟨h', x3⟩
    · rw [fOf_n g] at h'
      exact b5 a z (a5 a z h').1
