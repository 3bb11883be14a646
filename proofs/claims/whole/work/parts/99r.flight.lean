/-! FLIGHT -/
theorem yRf_512 {S : yS} {i : Nat} (h : i < 64) : yRf S (512 + i) = S.2.1 2 11 i := by
  unfold yRf
  rw [if_neg (by omega), if_neg (by omega), if_neg (by omega), if_neg (by omega), if_neg (by omega), if_neg (by omega), if_neg (by omega), if_pos (by omega), Nat.add_sub_cancel_left]
def nFl (l1 l2 l3 l4 : Int32) : Nat → Int32 := fun k => ([l1, l2, l3, l4, 0, (-1), (-1), (-1), (-3), (-3), 0] : List Int32).getD k 0
def cFl (S : yS) (n : Nat) (l1 l2 l3 l4 : Int32) : yS := yI (yA (yNw S (512 + n) (nFl l1 l2 l3 l4)) 2 11 (upd (S.2.1 2 11) n 1)) 2 12 (Int32.ofNat (n + 1))
def mFlA (A : Nat → Int32) (n : Nat) : Nat → Int32 := upd (upd (upd (upd (upd A (1345 + 5 * n + 0) 0) (1345 + 5 * n + 1) (-1)) (1345 + 5 * n + 2) (-1)) (1345 + 5 * n + 3) (-3)) (1345 + 5 * n + 4) (-3)
def mFl (S : yS) (n : Nat) (l1 l2 l3 l4 : Int32) : yS := yI (yA (yA (yA (yA (yA (yI S 8 47 0) 8 29 (upd (S.2.1 8 29) n l1)) 8 30 (upd (S.2.1 8 30) n l2)) 8 31 (upd (S.2.1 8 31) n l3)) 8 32 (upd (S.2.1 8 32) n l4)) 8 48 (mFlA (S.2.1 8 48) n)) 8 33 (Int32.ofNat (n + 1))
def okFl (np nq nl now : Int32) (n : Nat) (l1 l2 l3 l4 : Int32) : Prop := (0 ≤ l1 ∧ l1 ≤ np - 1) ∧ (0 ≤ l2 ∧ l2 ≤ nq - 1) ∧ (0 ≤ l3 ∧ l3 ≤ nl - 1) ∧ (now ≤ l4 ∧ l4 ≤ 3000) ∧ n < 24
theorem e_flight {N ng : Nat} {S : yS} (h : nn (S.1 2 12) ng) (h5 : ng < 24 → ¬ S.2.1 2 11 ng = 1 ∧ ¬ S.1 (512 + ng) 10 = 1) (l1 l2 l3 l4 : Int32) : (okFl (S.1 2 5) (S.1 2 7) (S.1 1 5) (S.1 2 13) ng l1 l2 l3 l4 → f_X11_flight N S l1 l2 l3 l4 = some (Int32.ofNat ng, cFl S ng l1 l2 l3 l4)) ∧ (¬ okFl (S.1 2 5) (S.1 2 7) (S.1 1 5) (S.1 2 13) ng l1 l2 l3 l4 → f_X11_flight N S l1 l2 l3 l4 = some (-1, S)) := by
  have e8 := nn_lt h (nn_l 24 (by decide))
  have e : S.1 2 12 + 1 = Int32.ofNat (ng + 1) := by rw [h.1]; exact y_int1
  simp only [f_X11_flight, f_X11_flight_0, f_X11_flight_24, f_X11_flight_56, e_isPlane, e_isPilot, e_isLeg, e_within, bV_s, h.nat]
  constructor
  · intro ⟨a1, a2, a3, a4, a5⟩
    have e1 : oc (512 + ng) = 1 := oc_512 (by omega)
    simp only [b01_t a1, b01_t a2, b01_t a3, b01_t a4, i10, if_false, if_pos (e8.mpr a5), not_false_eq_true, if_true]
    rw [gP_t ⟨by omega, by omega, e1, by rw [yRf_512 (by omega)]; exact (h5 a5).1, by rw [e1]; exact (h5 a5).2⟩, sq_s, gA_nn h a5, gP_t rfl, sq_s]
    rw [(yNw_o (S := S) (I0 := fun k => ([l1, l2, l3, l4, 0, (-1), (-1), (-1), (-3), (-3), 0] : List Int32).getD k 0) (show 2 ≠ 512 + ng by omega)).2]
    rw [gP_t (by rw [yRf_512 (by omega), yA_same, upd_s]), sq_s, yA_1, (yNw_o (S := S) (I0 := fun k => ([l1, l2, l3, l4, 0, (-1), (-1), (-1), (-3), (-3), 0] : List Int32).getD k 0) (show 2 ≠ 512 + ng by omega)).1, e, h.1]
    rfl
  · intro hn
    by_cases a1 : 0 ≤ l1 ∧ l1 ≤ S.1 2 5 - 1
    · by_cases a2 : 0 ≤ l2 ∧ l2 ≤ S.1 2 7 - 1
      · by_cases a3 : 0 ≤ l3 ∧ l3 ≤ S.1 1 5 - 1
        · by_cases a4 : S.1 2 13 ≤ l4 ∧ l4 ≤ 3000
          · have a5 : ¬ ng < 24 := fun a5 => hn ⟨a1, a2, a3, a4, a5⟩
            simp only [b01_t a1, b01_t a2, b01_t a3, b01_t a4, i10, if_false, if_neg (fun z => a5 (e8.mp z)), not_false_eq_true, if_true]
          · simp only [b01_t a1, b01_t a2, b01_t a3, b01_f a4, i10, if_false, not_false_eq_true, if_true]
        · simp only [b01_t a1, b01_t a2, b01_f a3, i10, if_false, not_true_eq_false]
      · simp only [b01_t a1, b01_f a2, i10, if_false, if_true]
    · simp only [b01_f a1, if_true]
theorem em_flight {N ng : Nat} {Sc Sm : yS} (h : nn (Sc.1 2 12) ng) (h8 : ng ≤ 24) (hp : Sm.1 8 33 = Sc.1 2 12) (m21 : Sm.1 8 21 = Sc.1 2 5) (m22 : Sm.1 8 22 = Sc.1 2 7) (m9 : Sm.1 8 9 = Sc.1 1 5) (w0 : Sm.2.1 8 48 0 = Sc.1 2 13) (l1 l2 l3 l4 : Int32) : (okFl (Sc.1 2 5) (Sc.1 2 7) (Sc.1 1 5) (Sc.1 2 13) ng l1 l2 l3 l4 → f_X12_flight N Sm l1 l2 l3 l4 = some (Int32.ofNat ng, mFl Sm ng l1 l2 l3 l4)) ∧ (¬ okFl (Sc.1 2 5) (Sc.1 2 7) (Sc.1 1 5) (Sc.1 2 13) ng l1 l2 l3 l4 → f_X12_flight N Sm l1 l2 l3 l4 = some (-1, yI Sm 8 47 0)) := by
  have h' : nn (Sm.1 8 33) ng := by rw [hp]; exact h
  have g33 : (yI Sm 8 47 0).1 8 33 = Sm.1 8 33 := rfl
  have g21 : (yI Sm 8 47 0).1 8 21 = Sc.1 2 5 := m21
  have g22 : (yI Sm 8 47 0).1 8 22 = Sc.1 2 7 := m22
  have g9 : (yI Sm 8 47 0).1 8 9 = Sc.1 1 5 := m9
  have gw : (yI Sm 8 47 0).2.1 8 48 0 = Sc.1 2 13 := w0
  have e8 := nn_eq h' (nn_l 24 (by decide))
  have e : Sm.1 8 33 + 1 = Int32.ofNat (ng + 1) := by rw [h'.1]; exact y_int1
  have e2 : Int32.ofNat (ng + 1) - 1 = Int32.ofNat ng := by
    rw [← y_int1]
    exact Int32.add_sub_cancel _ _
  simp only [f_X12_flight, f_X12_flight_0, f_X12_flight_55, em_isPlane, em_isPilot, em_isLeg, e_in, bV_s, sq_s, g21, g22, g9, g33, gA_nn (nn_l 0 (by decide)) (show 0 < 2305 by decide), gw]
  constructor
  · intro ⟨a1, a2, a3, a4, a5⟩
    have a7 : ¬ Sm.1 8 33 = 24 := fun z => by have := e8.mp z; omega
    simp only [b01_t a1, b01_t a2, b01_t a3, b01_t a4, i10, if_false, a7, not_false_eq_true, if_true, gA_nn h' a5, yA_1, g33, em_flW h' a5 (nn_l 0 (by decide)) (by decide), em_flW h' a5 (nn_l 1 (by decide)) (by decide), em_flW h' a5 (nn_l 2 (by decide)) (by decide), em_flW h' a5 (nn_l 3 (by decide)) (by decide), em_flW h' a5 (nn_l 4 (by decide)) (by decide), bS_s, yA_yA, yA_same, e, yI_1s, e2]
    rfl
  · intro hn
    by_cases a1 : 0 ≤ l1 ∧ l1 ≤ Sc.1 2 5 - 1
    · by_cases a2 : 0 ≤ l2 ∧ l2 ≤ Sc.1 2 7 - 1
      · by_cases a3 : 0 ≤ l3 ∧ l3 ≤ Sc.1 1 5 - 1
        · by_cases a4 : Sc.1 2 13 ≤ l4 ∧ l4 ≤ 3000
          · have a5 : ng = 24 := by
              have : ¬ ng < 24 := fun a5 => hn ⟨a1, a2, a3, a4, a5⟩
              omega
            simp only [b01_t a1, b01_t a2, b01_t a3, b01_t a4, i10, if_false, e8.mpr a5, not_true_eq_false]
          · simp only [b01_t a1, b01_t a2, b01_t a3, b01_f a4, i10, if_false, if_true]
        · simp only [b01_t a1, b01_t a2, b01_f a3, i10, if_false, if_true]
      · simp only [b01_t a1, b01_f a2, i10, if_false, if_true]
    · simp only [b01_f a1, if_true]
theorem C_flight {N : Nat} {Sc Sm : yS} (h : RAe Sc Sm) (l1 l2 l3 l4 : Int32) : cAll (f_X11_flight N Sc l1 l2 l3 l4) (f_X12_flight N Sm l1 l2 l3 l4) := by
  have h0 := h
  obtain ⟨cK, nf, nl, np, nq, nb, ng, r, x, hA⟩ := h
  have hT := hA.1
  have hD := hA.2.1
  obtain ⟨t1, t2, t3, t4, t5, t6, t7, t8, t9, t10, t11, t12, t13, t14⟩ := id hT
  obtain ⟨a1, a2⟩ := e_flight (N := N) t7.2.2.2.1 (fun hn => t13.2.2.2.1 ng (Nat.le_refl _) hn) l1 l2 l3 l4
  obtain ⟨b1, b2⟩ := em_flight (N := N) t7.2.2.2.1 t7.2.2.2.2.1 t7.2.2.2.2.2 t7.1.2.2 t7.2.1.2.2 t2.2.2.1 hD.1 l1 l2 l3 l4
  by_cases ok : okFl (Sc.1 2 5) (Sc.1 2 7) (Sc.1 1 5) (Sc.1 2 13) ng l1 l2 l3 l4
  · rw [a1 ok, b1 ok]
    obtain ⟨o1, o2, o3, ⟨o4, o5⟩, hn⟩ := ok
    obtain ⟨p, p1, p2⟩ := nn_idx t7.1.1 o1
    obtain ⟨q, q1, q2⟩ := nn_idx t7.2.1.1 o2
    obtain ⟨l, k1, k2⟩ := nn_idx t2.1 o3
    obtain ⟨t, ht, ht2⟩ := hD.2.2.1
    have hw : nn l4 l4.toNatClampNeg := nn_of (Int32.le_trans (Int32.not_lt.mp ht.nneg) o4)
    have hw2 := (nn_le hw (nn_l 3000 (by decide))).mp o5
    have F : FR (pcFl ng) Sc (cFl Sc ng l1 l2 l3 l4) := fun o k z => by
      unfold pcFl at z
      unfold cFl
      have h1 : o ≠ 512 + ng := by omega
      exact ⟨by rw [yI_1n _ _ (by omega), yA_1, (yNw_o h1).1], by rw [yI_2, yA_2n _ _ (by omega), (yNw_o h1).2]⟩
    have G : FR pmFl Sm (mFl Sm ng l1 l2 l3 l4) := FR_trans (FR_I _ _ _ _ ⟨rfl, by decide⟩) (FR_trans (FR_A _ _ _ _ ⟨rfl, by decide⟩) (FR_trans (FR_A _ _ _ _ ⟨rfl, by decide⟩) (FR_trans (FR_A _ _ _ _ ⟨rfl, by decide⟩) (FR_trans (FR_A _ _ _ _ ⟨rfl, by decide⟩) (FR_trans (FR_A _ _ _ _ ⟨rfl, by decide⟩) (FR_I _ _ _ _ ⟨rfl, by decide⟩))))))
    have w48 : (mFl Sm ng l1 l2 l3 l4).2.1 8 48 = mFlA (Sm.2.1 8 48) ng := by unfold mFl; rw [yI_2, yA_same]
    have cN : ∀ k, (cFl Sc ng l1 l2 l3 l4).1 (512 + ng) k = nFl l1 l2 l3 l4 k := fun k => by
      unfold cFl
      rw [yI_1n _ _ (by omega), yA_1, yNw_s]
    have m29 : (mFl Sm ng l1 l2 l3 l4).2.1 8 29 = upd (Sm.2.1 8 29) ng l1 := rfl
    have m30 : (mFl Sm ng l1 l2 l3 l4).2.1 8 30 = upd (Sm.2.1 8 30) ng l2 := rfl
    have m31 : (mFl Sm ng l1 l2 l3 l4).2.1 8 31 = upd (Sm.2.1 8 31) ng l3 := rfl
    have m32 : (mFl Sm ng l1 l2 l3 l4).2.1 8 32 = upd (Sm.2.1 8 32) ng l4 := rfl
    have c11 : (cFl Sc ng l1 l2 l3 l4).2.1 2 11 = upd (Sc.2.1 2 11) ng 1 := by unfold cFl; rw [yI_2, yA_same]
    refine ⟨_, _, _, rfl, rfl, RA_of (cK' := cK) hA F G (fun k _ _ z => by unfold pcFl at z; omega) (fun k a b z => by have := z.2; omega) (fun _ _ => rfl) (ST_flight hT hD hn F G c11 ?_ ?_ (fun k g h1 h2 h3 => ?_) ?_ (fun i hi => ?_) (fun j hj => ?_))⟩
    · unfold cFl
      rw [yI_1s]
    · unfold mFl
      rw [yI_1s]
    · rcases (show k = 29 ∨ k = 30 ∨ k = 31 ∨ k = 32 by omega) with rfl | rfl | rfl | rfl
      · rw [m29, upd_o _ _ (by omega)]
      · rw [m30, upd_o _ _ (by omega)]
      · rw [m31, upd_o _ _ (by omega)]
      · rw [m32, upd_o _ _ (by omega)]
    · refine ⟨?_, ?_, ?_, ?_, ?_, ⟨p, ?_, p2⟩, ⟨q, ?_, q2⟩, ⟨l, ?_, k2⟩, _, ?_, hw2⟩
      · rw [c11, upd_s]
      · rw [m29, upd_s, cN]; rfl
      · rw [m30, upd_s, cN]; rfl
      · rw [m31, upd_s, cN]; rfl
      · rw [m32, upd_s, cN]; rfl
      · rw [cN]; exact p1
      · rw [cN]; exact q1
      · rw [cN]; exact k1
      · rw [cN]; exact hw
    · rw [w48]
      unfold mFlA
      rw [upd_o _ _ (by omega), upd_o _ _ (by omega), upd_o _ _ (by omega), upd_o _ _ (by omega), upd_o _ _ (by omega)]
    · rw [w48, cN]
      unfold mFlA
      rcases (show j = 0 ∨ j = 1 ∨ j = 2 ∨ j = 3 ∨ j = 4 by omega) with rfl | rfl | rfl | rfl | rfl
      · rw [upd_o _ _ (by omega), upd_o _ _ (by omega), upd_o _ _ (by omega), upd_o _ _ (by omega), upd_s]; rfl
      · rw [upd_o _ _ (by omega), upd_o _ _ (by omega), upd_o _ _ (by omega), upd_s]; rfl
      · rw [upd_o _ _ (by omega), upd_o _ _ (by omega), upd_s]; rfl
      · rw [upd_o _ _ (by omega), upd_s]; rfl
      · rw [upd_s]; rfl
  · rw [a2 ok, b2 ok]
    exact ⟨-1, _, _, rfl, rfl, RA_clear h0⟩
