/-! PLANE -/
theorem yRf_128 {S : yS} {i : Nat} (h : i < 64) : yRf S (128 + i) = S.2.1 2 4 i := by
  unfold yRf
  rw [if_neg (by omega), if_pos (by omega), Nat.add_sub_cancel_left]
def nPl (l1 l2 l3 l4 l5 l6 : Int32) : Nat → Int32 := fun k => ([l2, l3, l4, l5, l6, 0, 400, 0, l1, (-1), (-1), 0, 0, 0, 0, 0, (-1), (-1), 0, 0, 0] : List Int32).getD k 0
def cPl (S : yS) (n : Nat) (l1 l2 l3 l4 l5 l6 : Int32) : yS := yI (yA (yNw S (128 + n) (nPl l1 l2 l3 l4 l5 l6)) 2 4 (upd (S.2.1 2 4) n 1)) 2 5 (Int32.ofNat (n + 1))
def mPl0 (S : yS) (n : Nat) (l2 l3 l4 l5 l6 : Int32) : yS := yA (yA (yA (yA (yA (yI S 8 47 0) 8 16 (upd (S.2.1 8 16) n l2)) 8 17 (upd (S.2.1 8 17) n l3)) 8 18 (upd (S.2.1 8 18) n l4)) 8 19 (upd (S.2.1 8 19) n l5)) 8 20 (upd (S.2.1 8 20) n l6)
def okPl (nf : Int32) (n : Nat) (l1 l2 l3 l4 l5 : Int32) : Prop := (0 ≤ l1 ∧ l1 ≤ nf - 1) ∧ (5 ≤ l2 ∧ l2 ≤ 60) ∧ (50 ≤ l3 ∧ l3 ≤ 3000) ∧ (20 ≤ l4 ∧ l4 ≤ 250) ∧ (1 ≤ l5 ∧ l5 ≤ 60) ∧ n < 8
theorem e_plane {N np : Nat} {S : yS} (h : nn (S.1 2 5) np) (h5 : np < 8 → ¬ S.2.1 2 4 np = 1 ∧ ¬ S.1 (128 + np) 20 = 1) (l1 l2 l3 l4 l5 : Int32) {l6 : Int32} (h6 : l6 = 0 ∨ l6 = 1) : (okPl (S.1 1 3) np l1 l2 l3 l4 l5 → f_X11_plane N S l1 l2 l3 l4 l5 l6 = some (Int32.ofNat np, cPl S np l1 l2 l3 l4 l5 l6)) ∧ (¬ okPl (S.1 1 3) np l1 l2 l3 l4 l5 → f_X11_plane N S l1 l2 l3 l4 l5 l6 = some (-1, S)) := by
  have e8 := nn_lt h (nn_l 8 (by decide))
  have e : S.1 2 5 + 1 = Int32.ofNat (np + 1) := by rw [h.1]; exact y_int1
  simp only [f_X11_plane, f_X11_plane_0, f_X11_plane_30, f_X11_plane_68, e_isField, e_within, bV_s, h.nat]
  constructor
  · intro ⟨a1, a2, a3, a4, a5, a6⟩
    have e1 : oc (128 + np) = 6 := oc_128 (by omega)
    simp only [b01_t a1, b01_t a2, b01_t a3, b01_t a4, b01_t a5, i10, if_false, if_pos (e8.mpr a6), not_false_eq_true, if_true]
    rw [gP_t ⟨by omega, by omega, e1, by rw [yRf_128 (by omega)]; exact (h5 a6).1, by rw [e1]; exact (h5 a6).2⟩, gP_t h6, sq_s, gA_nn h a6, gP_t rfl, sq_s]
    rw [(yNw_o (S := S) (I0 := fun k => ([l2, l3, l4, l5, l6, 0, 400, 0, l1, (-1), (-1), 0, 0, 0, 0, 0, (-1), (-1), 0, 0, 0] : List Int32).getD k 0) (show 2 ≠ 128 + np by omega)).2]
    rw [gP_t (by rw [yRf_128 (by omega), yA_same, upd_s]), sq_s, yA_1, (yNw_o (S := S) (I0 := fun k => ([l2, l3, l4, l5, l6, 0, 400, 0, l1, (-1), (-1), 0, 0, 0, 0, 0, (-1), (-1), 0, 0, 0] : List Int32).getD k 0) (show 2 ≠ 128 + np by omega)).1, e, h.1]
    rfl
  · intro hn
    by_cases a1 : 0 ≤ l1 ∧ l1 ≤ S.1 1 3 - 1
    · by_cases a2 : 5 ≤ l2 ∧ l2 ≤ 60
      · by_cases a3 : 50 ≤ l3 ∧ l3 ≤ 3000
        · by_cases a4 : 20 ≤ l4 ∧ l4 ≤ 250
          · by_cases a5 : 1 ≤ l5 ∧ l5 ≤ 60
            · have a6 : ¬ np < 8 := fun a6 => hn ⟨a1, a2, a3, a4, a5, a6⟩
              simp only [b01_t a1, b01_t a2, b01_t a3, b01_t a4, b01_t a5, i10, if_false, if_neg (fun z => a6 (e8.mp z)), not_false_eq_true, if_true]
            · simp only [b01_t a1, b01_t a2, b01_t a3, b01_t a4, b01_f a5, i10, if_false, not_false_eq_true, if_true]
          · simp only [b01_t a1, b01_t a2, b01_t a3, b01_f a4, i10, if_false, not_false_eq_true, if_true]
        · simp only [b01_t a1, b01_t a2, b01_f a3, i10, if_false, not_true_eq_false]
      · simp only [b01_t a1, b01_f a2, i10, if_false, if_true]
    · simp only [b01_f a1, if_true]
theorem pl_loop {N np : Nat} {S : yS} {l1 : Int32} (h : nn (S.1 8 21) np) (h8 : np < 8) : ∀ (d i m : Nat) (A : Nat → Int32), i + d = 23 → d < m → ∃ A', f_X12_plane3_126 m N (yA S 8 48 A) l1 (Int32.ofNat i) = f_X12_plane3_126 (m - d) N (yA S 8 48 A') l1 (Int32.ofNat 23) ∧ (∀ j, i ≤ j → j < 23 → A' (19 + 23 * np + j) = 0) ∧ ∀ z, (z < 19 + 23 * np + i ∨ 42 + 23 * np ≤ z) → A' z = A z := by
  intro d
  induction d with
  | zero =>
    intro i m A hi hm
    exact ⟨A, by rw [show i = 23 by omega]; rfl, fun j a b => by omega, fun _ _ => rfl⟩
  | succ d ih =>
    intro i m A hi hm
    obtain ⟨m, rfl⟩ : ∃ x, m = x + 1 := ⟨m - 1, by omega⟩
    have ni := nn_lit i (by omega)
    obtain ⟨A', a1, a2, a3⟩ := ih (i + 1) m (upd A (19 + 23 * np + i) 0) (by omega) (by omega)
    refine ⟨A', ?_, fun j x y => ?_, fun z hz => ?_⟩
    · rw [f_X12_plane3_126, if_neg (fun z => by have := (nn_le (nn_l 23 (by decide)) ni).mp z; omega), show (yA S 8 48 A).1 8 21 = S.1 8 21 from rfl, em_planeW h h8 ni (by omega), bS_s, yA_yA, yA_same, y_int1, a1, show m + 1 - (d + 1) = m - d by omega]
    · by_cases e : j = i
      · rw [e, a3 _ (by omega), upd_s]
      · exact a2 j (by omega) y
    · rw [a3 z (by omega), upd_o _ _ (by omega)]
theorem em_plane {N np : Nat} {Sc Sm : yS} (hN : 60 < N) (h : nn (Sc.1 2 5) np) (h8 : np ≤ 8) (m21 : Sm.1 8 21 = Sc.1 2 5) (m1 : Sm.1 8 1 = Sc.1 1 3) (l1 l2 l3 l4 l5 : Int32) {l6 : Int32} (h6 : l6 = 0 ∨ l6 = 1) : (okPl (Sc.1 1 3) np l1 l2 l3 l4 l5 → ∃ W, f_X12_plane3 N Sm l1 l2 l3 l4 l5 l6 = some (Int32.ofNat np, yI (yA (mPl0 Sm np l2 l3 l4 l5 l6) 8 48 W) 8 21 (Int32.ofNat (np + 1))) ∧ (∀ j, j < 12 → W (19 + 23 * np + j) = nPl l1 l2 l3 l4 l5 l6 (pS j)) ∧ ∀ z, (z < 19 + 23 * np ∨ 42 + 23 * np ≤ z) → W z = Sm.2.1 8 48 z) ∧ (¬ okPl (Sc.1 1 3) np l1 l2 l3 l4 l5 → f_X12_plane3 N Sm l1 l2 l3 l4 l5 l6 = some (-1, yI Sm 8 47 0)) := by
  have h' : nn (Sm.1 8 21) np := by rw [m21]; exact h
  have g21 : (yI Sm 8 47 0).1 8 21 = Sm.1 8 21 := rfl
  have g1 : (yI Sm 8 47 0).1 8 1 = Sc.1 1 3 := m1
  have e8 := nn_eq h' (nn_l 8 (by decide))
  have e : Sm.1 8 21 + 1 = Int32.ofNat (np + 1) := by rw [h'.1]; exact y_int1
  have e2 : Int32.ofNat (np + 1) - 1 = Int32.ofNat np := by
    rw [← y_int1]
    exact Int32.add_sub_cancel _ _
  simp only [f_X12_plane3, f_X12_plane3_0, f_X12_plane3_68, em_isField, e_in, bV_s, sq_s, g21, g1, vz h6]
  constructor
  · intro ⟨a1, a2, a3, a4, a5, a6⟩
    have a7 : ¬ Sm.1 8 21 = 8 := fun z => by have := e8.mp z; omega
    simp only [b01_t a1, b01_t a2, b01_t a3, b01_t a4, b01_t a5, i10, if_false, a7, not_false_eq_true, if_true, yA_1, g21, gA_nn h' a6]
    have hs : nn ((mPl0 Sm np l2 l3 l4 l5 l6).1 8 21) np := h'
    have hs21 : (mPl0 Sm np l2 l3 l4 l5 l6).1 8 21 = Sm.1 8 21 := rfl
    have hsA : yA (mPl0 Sm np l2 l3 l4 l5 l6) 8 48 ((mPl0 Sm np l2 l3 l4 l5 l6).2.1 8 48) = mPl0 Sm np l2 l3 l4 l5 l6 := yA_self _ _ _
    obtain ⟨A, b1, b2, b3⟩ := pl_loop (N := N) (l1 := l1) hs a6 23 0 N ((mPl0 Sm np l2 l3 l4 l5 l6).2.1 8 48) (by omega) (by omega)
    rw [hsA] at b1
    refine ⟨upd (upd (upd (upd (upd (upd A (19 + 23 * np + 0) l1) (19 + 23 * np + 1) (-1)) (19 + 23 * np + 2) (-1)) (19 + 23 * np + 6) 400) (19 + 23 * np + 11) (-1)) (19 + 23 * np + 12) (-1), ?_, fun j hj => ?_, fun z hz => ?_⟩
    · refine Eq.trans (show _ = f_X12_plane3_126 N N (mPl0 Sm np l2 l3 l4 l5 l6) l1 (Int32.ofNat 0) from rfl) ?_
      rw [b1]
      obtain ⟨m, hm⟩ : ∃ m, N - 23 = m + 1 := ⟨N - 24, by omega⟩
      rw [hm, f_X12_plane3_126, if_pos (show (23 : Int32) ≤ Int32.ofNat 23 by decide)]
      simp only [yA_1, hs21, em_planeW h' a6 (nn_l 0 (by decide)) (by decide), em_planeW h' a6 (nn_l 1 (by decide)) (by decide), em_planeW h' a6 (nn_l 2 (by decide)) (by decide), em_planeW h' a6 (nn_l 6 (by decide)) (by decide), em_planeW h' a6 (nn_l 11 (by decide)) (by decide), em_planeW h' a6 (nn_l 12 (by decide)) (by decide), bS_s, yA_yA, yA_same, sq_s, e, yI_1s, e2]
    · rcases (show j = 0 ∨ j = 1 ∨ j = 2 ∨ j = 3 ∨ j = 4 ∨ j = 5 ∨ j = 6 ∨ j = 7 ∨ j = 8 ∨ j = 9 ∨ j = 10 ∨ j = 11 by omega) with rfl | rfl | rfl | rfl | rfl | rfl | rfl | rfl | rfl | rfl | rfl | rfl
      · rw [upd_o _ _ (by omega), upd_o _ _ (by omega), upd_o _ _ (by omega), upd_o _ _ (by omega), upd_o _ _ (by omega), upd_s]; rfl
      · rw [upd_o _ _ (by omega), upd_o _ _ (by omega), upd_o _ _ (by omega), upd_o _ _ (by omega), upd_s]; rfl
      · rw [upd_o _ _ (by omega), upd_o _ _ (by omega), upd_o _ _ (by omega), upd_s]; rfl
      · rw [upd_o _ _ (by omega), upd_o _ _ (by omega), upd_o _ _ (by omega), upd_o _ _ (by omega), upd_o _ _ (by omega), upd_o _ _ (by omega), b2 3 (by omega) (by omega)]; rfl
      · rw [upd_o _ _ (by omega), upd_o _ _ (by omega), upd_o _ _ (by omega), upd_o _ _ (by omega), upd_o _ _ (by omega), upd_o _ _ (by omega), b2 4 (by omega) (by omega)]; rfl
      · rw [upd_o _ _ (by omega), upd_o _ _ (by omega), upd_o _ _ (by omega), upd_o _ _ (by omega), upd_o _ _ (by omega), upd_o _ _ (by omega), b2 5 (by omega) (by omega)]; rfl
      · rw [upd_o _ _ (by omega), upd_o _ _ (by omega), upd_s]; rfl
      · rw [upd_o _ _ (by omega), upd_o _ _ (by omega), upd_o _ _ (by omega), upd_o _ _ (by omega), upd_o _ _ (by omega), upd_o _ _ (by omega), b2 7 (by omega) (by omega)]; rfl
      · rw [upd_o _ _ (by omega), upd_o _ _ (by omega), upd_o _ _ (by omega), upd_o _ _ (by omega), upd_o _ _ (by omega), upd_o _ _ (by omega), b2 8 (by omega) (by omega)]; rfl
      · rw [upd_o _ _ (by omega), upd_o _ _ (by omega), upd_o _ _ (by omega), upd_o _ _ (by omega), upd_o _ _ (by omega), upd_o _ _ (by omega), b2 9 (by omega) (by omega)]; rfl
      · rw [upd_o _ _ (by omega), upd_o _ _ (by omega), upd_o _ _ (by omega), upd_o _ _ (by omega), upd_o _ _ (by omega), upd_o _ _ (by omega), b2 10 (by omega) (by omega)]; rfl
      · rw [upd_o _ _ (by omega), upd_s]; rfl
    · rw [upd_o _ _ (by omega), upd_o _ _ (by omega), upd_o _ _ (by omega), upd_o _ _ (by omega), upd_o _ _ (by omega), upd_o _ _ (by omega), b3 z (by omega)]
      rfl
  · intro hn
    by_cases a1 : 0 ≤ l1 ∧ l1 ≤ Sc.1 1 3 - 1
    · by_cases a2 : 5 ≤ l2 ∧ l2 ≤ 60
      · by_cases a3 : 50 ≤ l3 ∧ l3 ≤ 3000
        · by_cases a4 : 20 ≤ l4 ∧ l4 ≤ 250
          · by_cases a5 : 1 ≤ l5 ∧ l5 ≤ 60
            · have a6 : np = 8 := by
                have : ¬ np < 8 := fun a6 => hn ⟨a1, a2, a3, a4, a5, a6⟩
                omega
              simp only [b01_t a1, b01_t a2, b01_t a3, b01_t a4, b01_t a5, i10, if_false, e8.mpr a6, not_true_eq_false]
            · simp only [b01_t a1, b01_t a2, b01_t a3, b01_t a4, b01_f a5, i10, if_false, if_true]
          · simp only [b01_t a1, b01_t a2, b01_t a3, b01_f a4, i10, if_false, if_true]
        · simp only [b01_t a1, b01_t a2, b01_f a3, i10, if_false, if_true]
      · simp only [b01_t a1, b01_f a2, i10, if_false, if_true]
    · simp only [b01_f a1, if_true]
/-- labels with one more -/
def cLp (c : Nat → Nat) (n f : Nat) : Nat → Nat := fun z => if z = 128 + n then c f else if z = 900 + n then 1 else c z
theorem cLp_o {c : Nat → Nat} {n f z : Nat} (h : z ≠ 128 + n) (h9 : z ≠ 900 + n) : cLp c n f z = c z := by
  unfold cLp
  rw [if_neg h, if_neg h9]
theorem C_plane {N : Nat} {Sc Sm : yS} (h : RAe Sc Sm) (hN : 60 < N) (l1 l2 l3 l4 l5 : Int32) {l6 : Int32} (h6 : l6 = 0 ∨ l6 = 1) : cAll (f_X11_plane N Sc l1 l2 l3 l4 l5 l6) (f_X12_plane3 N Sm l1 l2 l3 l4 l5 l6) := by
  have h0 := h
  obtain ⟨cK, nf, nl, np, nq, nb, ng, r, x, hA⟩ := h
  have hT := hA.1
  have hD := hA.2.1
  obtain ⟨t1, t2, ⟨t3a, t3l, t3b, t3f⟩, t4, t5, t6, t7, t8, t9, t10, t11, t12, t13, t14⟩ := id hT
  obtain ⟨a1, a2⟩ := e_plane (N := N) t7.1.1 (fun hn => t13.1 np (Nat.le_refl _) hn) l1 l2 l3 l4 l5 h6
  obtain ⟨b1, b2⟩ := em_plane (N := N) hN t7.1.1 t7.1.2.1 t7.1.2.2 t1.2.2.1 l1 l2 l3 l4 l5 h6
  by_cases ok : okPl (Sc.1 1 3) np l1 l2 l3 l4 l5
  · obtain ⟨W, b1, w1, w2⟩ := b1 ok
    rw [a1 ok, b1]
    obtain ⟨o1, ⟨o2, o2'⟩, o3, o4, ⟨o5, o5'⟩, hn⟩ := ok
    have nf8 : nf ≤ 8 := t1.2.1
    have nl12 : nl ≤ 12 := t2.2.1
    have nb30 : nb ≤ 30 := t7.2.2.1.2.1
    obtain ⟨f, f1, f2⟩ := nn_idx t1.1 o1
    have n2 := nn_of (Int32.le_trans (by decide) o2)
    have n2a := (nn_le (nn_l 5 (by decide)) n2).mp o2
    have n2b := (nn_le n2 (nn_l 60 (by decide))).mp o2'
    have n5 := nn_of (Int32.le_trans (by decide) o5)
    have n5a := (nn_le (nn_l 1 (by decide)) n5).mp o5
    have n5b := (nn_le n5 (nn_l 60 (by decide))).mp o5'
    have F : FR (pcPl np) Sc (cPl Sc np l1 l2 l3 l4 l5 l6) := fun o k z => by
      unfold pcPl at z
      unfold cPl
      have h1 : o ≠ 128 + np := by omega
      exact ⟨by rw [yI_1n _ _ (by omega), yA_1, (yNw_o h1).1], by rw [yI_2, yA_2n _ _ (by omega), (yNw_o h1).2]⟩
    have G : FR pmPl Sm (yI (yA (mPl0 Sm np l2 l3 l4 l5 l6) 8 48 W) 8 21 (Int32.ofNat (np + 1))) := FR_trans (FR_I _ _ _ _ ⟨rfl, by decide⟩) (FR_trans (FR_A _ _ _ _ ⟨rfl, by decide⟩) (FR_trans (FR_A _ _ _ _ ⟨rfl, by decide⟩) (FR_trans (FR_A _ _ _ _ ⟨rfl, by decide⟩) (FR_trans (FR_A _ _ _ _ ⟨rfl, by decide⟩) (FR_trans (FR_A _ _ _ _ ⟨rfl, by decide⟩) (FR_trans (FR_A _ _ _ _ ⟨rfl, by decide⟩) (FR_I _ _ _ _ ⟨rfl, by decide⟩)))))))
    generalize hSM : yI (yA (mPl0 Sm np l2 l3 l4 l5 l6) 8 48 W) 8 21 (Int32.ofNat (np + 1)) = SM at G
    have w48 : SM.2.1 8 48 = W := by rw [← hSM, yI_2, yA_same]
    have cN : ∀ k, (cPl Sc np l1 l2 l3 l4 l5 l6).1 (128 + np) k = nPl l1 l2 l3 l4 l5 l6 k := fun k => by
      unfold cPl
      rw [yI_1n _ _ (by omega), yA_1, yNw_s]
    have m16 : SM.2.1 8 16 = upd (Sm.2.1 8 16) np l2 := by rw [← hSM]; rfl
    have m17 : SM.2.1 8 17 = upd (Sm.2.1 8 17) np l3 := by rw [← hSM]; rfl
    have m18 : SM.2.1 8 18 = upd (Sm.2.1 8 18) np l4 := by rw [← hSM]; rfl
    have m19 : SM.2.1 8 19 = upd (Sm.2.1 8 19) np l5 := by rw [← hSM]; rfl
    have m20 : SM.2.1 8 20 = upd (Sm.2.1 8 20) np l6 := by rw [← hSM]; rfl
    have c4 : (cPl Sc np l1 l2 l3 l4 l5 l6).2.1 2 4 = upd (Sc.2.1 2 4) np 1 := by unfold cPl; rw [yI_2, yA_same]
    refine ⟨_, _, _, rfl, rfl, RA_of (cK' := cLp cK np f) hA F G (fun k _ _ z => by unfold pcPl at z; omega) (fun k a b z => by have := z.2; omega) (fun z hz => cLp_o (by omega) (by omega)) (ST_plane hT hD hn F G ⟨?_, fun x hx => cLp_o (by omega) (by omega), fun p hp => ?_⟩ ?_ ⟨fun l hl y hy => ?_, fun b hb y hy => ?_, fun p hp => ?_⟩ c4 ?_ ?_ (fun k g h1 h2 h3 => ?_) ?_ (fun i hi => ?_) (fun j hj => ?_) ?_)⟩
    · intro x y hx hy e
      have q : ∀ z, cU nf nl np nb z → cLp cK np f z = cK z := fun z hz => by
        unfold cU at hz
        exact cLp_o (by omega) (by omega)
      rw [q x hx, q y hy]; exact e
    · rw [cLp_o (by omega) (by omega)]; exact (t3f p (by omega)).mpr hp
    · exact K_RD (RDc_ext t3a (fun x hx => (cLp_o (by omega) (by omega)).symm)) (F 1 7 (by unfold pcPl; omega)) (G 8 10 (by unfold pmPl; omega))
    · rw [(F (64 + l) 0 (by unfold pcPl; omega)).1, (F (64 + l) 1 (by unfold pcPl; omega)).1] at hy
      obtain ⟨k, hR⟩ := t2.2.2.2.1 l hl
      obtain ⟨_, ⟨ya, ya1, ya2⟩, ⟨yb, yb1, yb2⟩, _⟩ := hR
      have y8 : y < 8 := by
        rcases hy with w | w
        · have := nn_inj w ya1; omega
        · have := nn_inj w yb1; omega
      rw [cLp_o (by omega) (by omega), cLp_o (by omega) (by omega)]
      exact t3l l hl y hy
    · rw [(F (384 + b) 0 (by unfold pcPl; omega)).1, (F (384 + b) 1 (by unfold pcPl; omega)).1] at hy
      obtain ⟨_, _, _, _, _, _, ⟨ya, ya1, ya2⟩, ⟨yb, yb1, yb2⟩, _⟩ := t10 b hb
      have y8 : y < 8 := by
        rcases hy with w | w
        · have := nn_inj w ya1; omega
        · have := nn_inj w yb1; omega
      rw [cLp_o (by omega) (by omega), cLp_o (by omega) (by omega)]
      exact t3b b hb y hy
    · by_cases e : p = np
      · subst e
        unfold cLp
        rw [if_neg (by omega), if_pos rfl]
        exact ⟨fun _ => by omega, fun _ => rfl⟩
      · rw [cLp_o (by omega) (by omega), t3f p hp]
        omega
    · unfold cPl
      rw [yI_1s]
    · rw [← hSM, yI_1s]
    · rcases (show k = 16 ∨ k = 17 ∨ k = 18 ∨ k = 19 ∨ k = 20 by omega) with rfl | rfl | rfl | rfl | rfl
      · rw [m16, upd_o _ _ (by omega)]
      · rw [m17, upd_o _ _ (by omega)]
      · rw [m18, upd_o _ _ (by omega)]
      · rw [m19, upd_o _ _ (by omega)]
      · rw [m20, upd_o _ _ (by omega)]
    · refine ⟨by rw [c4, upd_s], by rw [m16, upd_s, cN]; rfl, by rw [m17, upd_s, cN]; rfl, by rw [m18, upd_s, cN]; rfl, by rw [m19, upd_s, cN]; rfl, by rw [m20, upd_s, cN]; rfl, ⟨_, by rw [cN]; exact n2, n2a, n2b⟩, ⟨_, by rw [cN]; exact n5, n5a, n5b, by rw [cN]; exact h6⟩⟩
    · rw [w48]; exact w2 i hi
    · rw [w48, cN]; exact w1 j hj
    · refine ⟨⟨0, by rw [cN]; exact nn_l 0 (by decide), by decide⟩, ⟨0, by rw [cN]; exact nn_l 0 (by decide), by decide⟩, Or.inl (by rw [cN]; rfl), Or.inl ⟨⟨f, by rw [cN]; exact f1, f2, ?_⟩, by rw [cN]; rfl⟩, fun _ => by rw [cN]; rfl, fun z => ?_⟩
      · rw [cLp_o (by omega) (by omega)]
        unfold cLp
        rw [if_pos rfl]
      · rw [cN] at z
        exact absurd (show (0 : Int32) = 1 from z) (by decide)
  · rw [a2 ok, b2 ok]
    exact ⟨-1, _, _, rfl, rfl, RA_clear h0⟩
