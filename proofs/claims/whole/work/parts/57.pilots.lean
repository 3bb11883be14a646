/-- one pilot, on both sides -/
def Q1 (Sc Sm : yS) (q : Nat) : Prop := Sc.2.1 2 6 q = 1 ∧ Sm.2.1 8 48 (203 + 4 * q + 0) = Sc.1 (256 + q) 0 ∧ Sm.2.1 8 48 (203 + 4 * q + 1) = Sc.1 (256 + q) 1 ∧ Sm.2.1 8 48 (203 + 4 * q + 2) = Sc.1 (256 + q) 2 ∧ Sm.2.1 8 48 (203 + 4 * q + 3) = Sc.1 (256 + q) 3
/-- the pilots; and no pilot where none is yet -/
def RQ (np : Nat) (Sc Sm : yS) : Prop := nn (Sc.1 2 7) np ∧ np ≤ 8 ∧ Sm.1 8 22 = Sc.1 2 7 ∧ (∀ q, q < np → Q1 Sc Sm q) ∧ ∀ q, np ≤ q → q < 8 → ¬ Sc.2.1 2 6 q = 1 ∧ ¬ Sc.1 (256 + q) 4 = 1
theorem cPil_n {S : yS} {np : Nat} {l1 l2 : Int32} {s : Nat} : (cPil S np l1 l2).1 (256 + np) s = nPil l1 l2 s := by
  unfold cPil
  rw [yI_1n _ _ (by omega), yA_1, yNw_s]
theorem cPil_i {S : yS} {np : Nat} {l1 l2 : Int32} {o s : Nat} (h : ¬ (o = 2 ∧ s = 7)) (h' : o ≠ 256 + np) : (cPil S np l1 l2).1 o s = S.1 o s := by
  unfold cPil
  rw [yI_1n _ _ h, yA_1, (yNw_o h').1]
theorem cPil_6 {S : yS} {np : Nat} {l1 l2 : Int32} : (cPil S np l1 l2).2.1 2 6 = upd (S.2.1 2 6) np 1 := by
  unfold cPil
  rw [yI_2, yA_same]
theorem cPil_7 {S : yS} {np : Nat} {l1 l2 : Int32} : (cPil S np l1 l2).1 2 7 = Int32.ofNat (np + 1) := by
  unfold cPil
  rw [yI_1s]
theorem mPilA_n {A : Nat → Int32} {np : Nat} {l1 l2 : Int32} : mPilA A np l1 l2 (203 + 4 * np + 0) = l1 ∧ mPilA A np l1 l2 (203 + 4 * np + 1) = -1 ∧ mPilA A np l1 l2 (203 + 4 * np + 2) = 0 ∧ mPilA A np l1 l2 (203 + 4 * np + 3) = l2 := by
  unfold mPilA upd
  refine ⟨?_, ?_, ?_, ?_⟩
  · rw [if_neg (by omega), if_neg (by omega), if_neg (by omega), if_pos rfl]
  · rw [if_neg (by omega), if_neg (by omega), if_pos rfl]
  · rw [if_neg (by omega), if_pos rfl]
  · rw [if_pos rfl]
theorem mPilA_o {A : Nat → Int32} {np : Nat} {l1 l2 : Int32} {i : Nat} (h : i < 203 + 4 * np ∨ 207 + 4 * np ≤ i) : mPilA A np l1 l2 i = A i := by
  unfold mPilA
  rw [upd_o _ _ (by omega), upd_o _ _ (by omega), upd_o _ _ (by omega), upd_o _ _ (by omega)]
theorem RQ_pilot {np : Nat} {Sc Sm : yS} (h : RQ np Sc Sm) (hn : np < 8) (l1 l2 : Int32) : RQ (np + 1) (cPil Sc np l1 l2) (mPil Sm np l1 l2) := by
  obtain ⟨h1, h2, h3, h4, h5⟩ := h
  have hm : (mPil Sm np l1 l2).2.1 8 48 = mPilA (Sm.2.1 8 48) np l1 l2 := rfl
  refine ⟨?_, hn, ?_, fun q hq => ?_, fun q hq hq8 => ?_⟩
  · rw [cPil_7]
    exact nn_lit (np + 1) (by omega)
  · rw [cPil_7]
    rfl
  · unfold Q1
    rw [cPil_6, hm]
    by_cases e : q = np
    · subst e
      obtain ⟨w0, w1, w2, w3⟩ := mPilA_n (A := Sm.2.1 8 48) (np := q) (l1 := l1) (l2 := l2)
      rw [w0, w1, w2, w3, cPil_n, cPil_n, cPil_n, cPil_n, upd_s]
      exact ⟨rfl, rfl, rfl, rfl, rfl⟩
    · rw [upd_o _ _ e, mPilA_o (by omega), mPilA_o (by omega), mPilA_o (by omega), mPilA_o (by omega), cPil_i (by omega) (by omega), cPil_i (by omega) (by omega), cPil_i (by omega) (by omega), cPil_i (by omega) (by omega)]
      exact h4 q (by omega)
  · rw [cPil_6, upd_o _ _ (by omega), cPil_i (by omega) (by omega)]
    exact h5 q (by omega) hq8
