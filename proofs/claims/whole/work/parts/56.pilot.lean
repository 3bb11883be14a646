/-! PILOT -/
theorem yRf_256 {S : yS} {i : Nat} (h : i < 64) : yRf S (256 + i) = S.2.1 2 6 i := by
  unfold yRf
  rw [if_neg (by omega), if_neg (by omega), if_neg (by omega), if_pos (by omega), Nat.add_sub_cancel_left]
def nPil (l1 l2 : Int32) : Nat → Int32 := fun k => ([l1, (-1), 0, l2, 0] : List Int32).getD k 0
def cPil (S : yS) (np : Nat) (l1 l2 : Int32) : yS := yI (yA (yNw S (256 + np) (nPil l1 l2)) 2 6 (upd (S.2.1 2 6) np 1)) 2 7 (Int32.ofNat (np + 1))
def mPilA (A : Nat → Int32) (np : Nat) (l1 l2 : Int32) : Nat → Int32 := upd (upd (upd (upd A (203 + 4 * np + 0) l1) (203 + 4 * np + 1) (-1)) (203 + 4 * np + 2) 0) (203 + 4 * np + 3) l2
def mPil (S : yS) (np : Nat) (l1 l2 : Int32) : yS := yI (yA (yI S 8 47 0) 8 48 (mPilA (S.2.1 8 48) np l1 l2)) 8 22 (Int32.ofNat (np + 1))
def okPil (np : Nat) (nf nl l1 l2 : Int32) : Prop := (0 ≤ l1 ∧ l1 ≤ nf - 1) ∧ (0 ≤ l2 ∧ l2 ≤ (1 <<< (nl &&& 31)) - 1) ∧ np < 8
theorem e_pilot {N np : Nat} {S : yS} (h : nn (S.1 2 7) np) (h5 : np < 8 → ¬ S.2.1 2 6 np = 1 ∧ ¬ S.1 (256 + np) 4 = 1) (l1 l2 : Int32) : (okPil np (S.1 1 3) (S.1 1 5) l1 l2 → f_X11_pilot N S l1 l2 = some (Int32.ofNat np, cPil S np l1 l2)) ∧ (¬ okPil np (S.1 1 3) (S.1 1 5) l1 l2 → f_X11_pilot N S l1 l2 = some (-1, S)) := by
  have e8 := nn_lt h (nn_l 8 (by decide))
  have e : S.1 2 7 + 1 = Int32.ofNat (np + 1) := by rw [h.1]; exact y_int1
  simp only [f_X11_pilot, f_X11_pilot_0, f_X11_pilot_41, e_isField, e_within, bV_s, h.nat]
  constructor
  · intro ⟨a1, a2, a3⟩
    have e1 : oc (256 + np) = 5 := oc_256 (by omega)
    simp only [b01_t a1, b01_t a2, i10, if_false, if_pos (e8.mpr a3)]
    rw [gP_t ⟨by omega, by omega, e1, by rw [yRf_256 (by omega)]; exact (h5 a3).1, by rw [e1]; exact (h5 a3).2⟩, sq_s, gA_nn h a3, gP_t rfl, sq_s]
    rw [(yNw_o (S := S) (I0 := fun k => ([l1, (-1), 0, l2, 0] : List Int32).getD k 0) (show 2 ≠ 256 + np by omega)).2]
    rw [gP_t (by rw [yRf_256 (by omega), yA_same, upd_s]), sq_s, yA_1, (yNw_o (S := S) (I0 := fun k => ([l1, (-1), 0, l2, 0] : List Int32).getD k 0) (show 2 ≠ 256 + np by omega)).1, e, h.1]
    rfl
  · intro hn
    by_cases a1 : 0 ≤ l1 ∧ l1 ≤ S.1 1 3 - 1
    · by_cases a2 : 0 ≤ l2 ∧ l2 ≤ (1 <<< (S.1 1 5 &&& 31)) - 1
      · have a3 : ¬ np < 8 := fun a3 => hn ⟨a1, a2, a3⟩
        simp only [b01_t a1, b01_t a2, i10, if_false, if_neg (fun z => a3 (e8.mp z))]
      · simp only [b01_t a1, b01_f a2, i10, if_false, if_true]
    · simp only [b01_f a1, if_true]
theorem em_setPilot {N np j : Nat} {S : yS} {x y v : Int32} (h : nn x np) (hy : nn y j) (hn : np < 8) (hj : j < 4) : f_X12_setPilot N S x y v = some (0, yA S 8 48 (upd (S.2.1 8 48) (203 + 4 * np + j) v)) := by
  simp only [f_X12_setPilot, f_X12_setPilot_0]
  rw [gA_nn (nn_add (nn_add (nn_l 203 (by decide)) (nn_mul (nn_l 4 (by decide)) h (by omega)) (by omega)) hy (by omega)) (by omega), sq_s]
theorem em_pilot {N np : Nat} {Sc Sm : yS} (h : nn (Sc.1 2 7) np) (h8 : np ≤ 8) (hp : Sm.1 8 22 = Sc.1 2 7) (hf : Sm.1 8 1 = Sc.1 1 3) (hg : Sm.1 8 9 = Sc.1 1 5) (l1 l2 : Int32) : (okPil np (Sc.1 1 3) (Sc.1 1 5) l1 l2 → f_X12_pilot N Sm l1 l2 = some (Int32.ofNat np, mPil Sm np l1 l2)) ∧ (¬ okPil np (Sc.1 1 3) (Sc.1 1 5) l1 l2 → f_X12_pilot N Sm l1 l2 = some (-1, yI Sm 8 47 0)) := by
  have h' : nn (Sm.1 8 22) np := by rw [hp]; exact h
  have g22 : (yI Sm 8 47 0).1 8 22 = Sm.1 8 22 := rfl
  have g1 : (yI Sm 8 47 0).1 8 1 = Sc.1 1 3 := hf
  have g9 : (yI Sm 8 47 0).1 8 9 = Sc.1 1 5 := hg
  have e8 := nn_eq h' (nn_l 8 (by decide))
  have e : Sm.1 8 22 + 1 = Int32.ofNat (np + 1) := by rw [h'.1]; exact y_int1
  have e2 : Int32.ofNat (np + 1) - 1 = Int32.ofNat np := by
    rw [← y_int1]
    exact Int32.add_sub_cancel _ _
  simp only [f_X12_pilot, f_X12_pilot_0, f_X12_pilot_38, em_isField, e_in, bV_s, sq_s, g1, g9, g22]
  constructor
  · intro ⟨a1, a2, a3⟩
    have a7 : ¬ Sm.1 8 22 = 8 := fun z => by have := e8.mp z; omega
    simp only [b01_t a1, b01_t a2, i10, if_false, a7, not_false_eq_true, if_true, em_setPilot h' (nn_l 0 (by decide)) a3 (by decide), em_setPilot h' (nn_l 1 (by decide)) a3 (by decide), em_setPilot h' (nn_l 2 (by decide)) a3 (by decide), em_setPilot h' (nn_l 3 (by decide)) a3 (by decide), bS_s, yA_1, yA_yA, yA_same, g22, e, yI_1s, yI_2, e2, mPil, mPilA]
  · intro hn
    by_cases a1 : 0 ≤ l1 ∧ l1 ≤ Sc.1 1 3 - 1
    · by_cases a2 : 0 ≤ l2 ∧ l2 ≤ (1 <<< (Sc.1 1 5 &&& 31)) - 1
      · have a3 : np = 8 := by
          have : ¬ np < 8 := fun a3 => hn ⟨a1, a2, a3⟩
          omega
        simp only [b01_t a1, b01_t a2, i10, if_false, e8.mpr a3, not_true_eq_false]
      · simp only [b01_t a1, b01_f a2, i10, if_false, if_true]
    · simp only [b01_f a1, if_true]
