theorem yNw_o {S : yS} {id : Nat} {I0 : Nat → Int32} {o : Nat} (h : o ≠ id) : (yNw S id I0).1 o = S.1 o ∧ (yNw S id I0).2.1 o = S.2.1 o := by
  simp [yNw, h]
theorem yNw_s {S : yS} {id : Nat} {I0 : Nat → Int32} : (yNw S id I0).1 id = I0 := by
  simp [yNw]
theorem yRf_64 {S : yS} {i : Nat} (h : i < 64) : yRf S (64 + i) = S.2.1 1 4 i := by
  unfold yRf
  rw [if_pos (by omega), Nat.add_sub_cancel_left]
def nLeg (l1 l2 l3 l4 : Int32) : Nat → Int32 := fun k => ([l1, l2, l3, l4, 0, 0, 0] : List Int32).getD k 0
def cLeg0 (S : yS) (nl : Nat) (l1 l2 l3 l4 : Int32) : yS := yA (yNw S (64 + nl) (nLeg l1 l2 l3 l4)) 1 4 (upd (S.2.1 1 4) nl 1)
def cLeg (S : yS) (nl : Nat) (l1 l2 l3 l4 : Int32) (g : Nat → Int32) : yS := yI (yA (cLeg0 S nl l1 l2 l3 l4) 1 7 g) 1 5 (Int32.ofNat (nl + 1))
def mLeg0 (S : yS) (nl : Nat) (l1 l2 l3 l4 : Int32) : yS := yI (yA (yA (yA (yA (yA (yI S 8 47 0) 8 2 (upd (S.2.1 8 2) nl l1)) 8 3 (upd (S.2.1 8 3) nl l2)) 8 4 (upd (S.2.1 8 4) nl l3)) 8 5 (upd (S.2.1 8 5) nl l4)) 8 8 (upd (S.2.1 8 8) nl 0)) 8 9 (Int32.ofNat (nl + 1))
def mLeg (S : yS) (nl : Nat) (l1 l2 l3 l4 : Int32) (f : Nat → Int32) : yS := yA (mLeg0 S nl l1 l2 l3 l4) 8 10 f
theorem e_addLeg {N nl : Nat} {S : yS} {l1 l2 l3 l4 : Int32} (h1 : nn (S.1 1 5) nl) (hn : nl < 12) (h5 : ¬ S.2.1 1 4 nl = 1 ∧ ¬ S.1 (64 + nl) 99 = 1) : f_X2_addLeg N S l1 l2 l3 l4 = f_X2_addLeg_24 N N (cLeg0 S nl l1 l2 l3 l4) l1 l2 l3 0 := by
  have e1 : oc (64 + nl) = 3 := oc_64 (by omega)
  simp only [f_X2_addLeg, f_X2_addLeg_0, h1.nat]
  rw [gP_t ⟨by omega, by omega, e1, by rw [yRf_64 (by omega)]; exact h5.1, by rw [e1]; exact h5.2⟩, sq_s, gA_nn h1 hn, gP_t rfl, sq_s]
  rw [(yNw_o (S := S) (I0 := fun k => ([l1, l2, l3, l4, 0, 0, 0] : List Int32).getD k 0) (show 1 ≠ 64 + nl by omega)).2]
  rw [gP_t (by rw [yRf_64 (by omega), yA_same, upd_s])]
  rfl
def okLeg (nl : Nat) (n l1 l2 l3 l4 : Int32) : Prop := (0 ≤ l1 ∧ l1 ≤ n - 1) ∧ (0 ≤ l2 ∧ l2 ≤ n - 1) ∧ l1 ≠ l2 ∧ nl < 12 ∧ (10 ≤ l3 ∧ l3 ≤ 400) ∧ (0 ≤ l4 ∧ l4 ≤ 150)
theorem e_leg {N nl : Nat} {Sc Sm : yS} (h : RG nl Sc Sm) (l1 l2 l3 l4 : Int32) : (okLeg nl (Sc.1 1 3) l1 l2 l3 l4 → f_X11_leg N Sc l1 l2 l3 l4 = bS (f_X2_addLeg_24 N N (cLeg0 Sc nl l1 l2 l3 l4) l1 l2 l3 0) fun w S1 => some (w, S1)) ∧ (¬ okLeg nl (Sc.1 1 3) l1 l2 l3 l4 → f_X11_leg N Sc l1 l2 l3 l4 = some (-1, Sc)) := by
  obtain ⟨h1, h2, h3, h4, h5⟩ := h
  have e12 := nn_lt h1 (nn_l 12 (by decide))
  simp only [f_X11_leg, f_X11_leg_0, f_X11_leg_33, f_X11_leg_59, e_isField, e_within, bV_s]
  constructor
  · intro ⟨a1, a2, a3, a4, a5, a6⟩
    simp only [b01_t a1, b01_t a2, b01_t a5, b01_t a6, i10, if_false, a3, if_pos (e12.mpr a4), not_false_eq_true, if_true]
    rw [e_addLeg h1 a4 (h5 nl (Nat.le_refl _) a4)]
  · intro hn
    by_cases a1 : 0 ≤ l1 ∧ l1 ≤ Sc.1 1 3 - 1
    · by_cases a2 : 0 ≤ l2 ∧ l2 ≤ Sc.1 1 3 - 1
      · by_cases a3 : l1 = l2
        · simp only [b01_t a1, b01_t a2, i10, if_false, if_pos a3]
        · by_cases a4 : nl < 12
          · by_cases a5 : 10 ≤ l3 ∧ l3 ≤ 400
            · have a6 : ¬ (0 ≤ l4 ∧ l4 ≤ 150) := fun a6 => hn ⟨a1, a2, a3, a4, a5, a6⟩
              simp only [b01_t a1, b01_t a2, b01_t a5, b01_f a6, i10, if_false, a3, if_pos (e12.mpr a4), not_true_eq_false]
            · simp only [b01_t a1, b01_t a2, b01_f a5, i10, if_false, a3, if_pos (e12.mpr a4), if_true]
          · simp only [b01_t a1, b01_t a2, i10, if_false, a3, if_neg (fun z => a4 (e12.mp z))]
      · simp only [b01_t a1, b01_f a2, i10, if_false, if_true]
    · simp only [b01_f a1, if_true]
theorem em_leg {N nl : Nat} {Sc Sm : yS} (h : RG nl Sc Sm) (hf : Sm.1 8 1 = Sc.1 1 3) (l1 l2 l3 l4 : Int32) : (okLeg nl (Sc.1 1 3) l1 l2 l3 l4 → f_X12_leg N Sm l1 l2 l3 l4 = f_X12_leg_125 N N (mLeg0 Sm nl l1 l2 l3 l4) l1 l2 l3 0) ∧ (¬ okLeg nl (Sc.1 1 3) l1 l2 l3 l4 → f_X12_leg N Sm l1 l2 l3 l4 = some (-1, yI Sm 8 47 0)) := by
  obtain ⟨h1, h2, h3, h4, h5⟩ := h
  have h1' : nn (Sm.1 8 9) nl := by rw [h3]; exact h1
  have e12 := nn_eq h1' (nn_l 12 (by decide))
  have g1 : (yI Sm 8 47 0).1 8 1 = Sc.1 1 3 := hf
  have g9 : (yI Sm 8 47 0).1 8 9 = Sm.1 8 9 := rfl
  have e : Sm.1 8 9 + 1 = Int32.ofNat (nl + 1) := by rw [h1'.1]; exact y_int1
  simp only [f_X12_leg, f_X12_leg_0, f_X12_leg_59, em_isField, e_in, bV_s, sq_s, g1, g9]
  constructor
  · intro ⟨a1, a2, a3, a4, a5, a6⟩
    have a7 : ¬ Sm.1 8 9 = 12 := fun z => by have := e12.mp z; omega
    simp only [b01_t a1, b01_t a2, b01_t a5, b01_t a6, i10, if_false, a3, a7, not_false_eq_true, if_true]
    simp only [gA_nn h1' a4, yA_1, yA_2n, yI_2, g9, e, mLeg0, not_false_eq_true, Nat.reduceEqDiff, and_false]
  · intro hn
    by_cases a1 : 0 ≤ l1 ∧ l1 ≤ Sc.1 1 3 - 1
    · by_cases a2 : 0 ≤ l2 ∧ l2 ≤ Sc.1 1 3 - 1
      · by_cases a3 : l1 = l2
        · simp only [b01_t a1, b01_t a2, i10, if_false, if_pos a3]
        · by_cases a5 : 10 ≤ l3 ∧ l3 ≤ 400
          · by_cases a6 : 0 ≤ l4 ∧ l4 ≤ 150
            · have a4 : nl = 12 := by
                have : ¬ nl < 12 := fun a4 => hn ⟨a1, a2, a3, a4, a5, a6⟩
                omega
              simp only [b01_t a1, b01_t a2, b01_t a5, b01_t a6, i10, if_false, a3, e12.mpr a4, not_true_eq_false]
            · simp only [b01_t a1, b01_t a2, b01_t a5, b01_f a6, i10, if_false, a3, if_true]
          · simp only [b01_t a1, b01_t a2, b01_f a5, i10, if_false, a3, if_true]
      · simp only [b01_t a1, b01_f a2, i10, if_false, if_true]
    · simp only [b01_f a1, if_true]
theorem nn_btw {x : Int32} {lo hi : Int32} {m n : Nat} (hm : nn lo m) (hn : nn hi n) (h : lo ≤ x ∧ x ≤ hi) : ∃ k, nn x k ∧ m ≤ k ∧ k ≤ n := by
  have h0 : (0 : Int32) ≤ x := Int32.le_trans (Int32.not_lt.mp hm.nneg) h.1
  exact ⟨_, nn_of h0, (nn_le hm (nn_of h0)).mp h.1, (nn_le (nn_of h0) hn).mp h.2⟩
/-- leg, both sides -/
theorem leg_both {N nl nf : Nat} {c : Nat → Nat} {Sc Sm : yS} (h : RG nl Sc Sm) (hF : RF nf Sc Sm) (hD : RDc c (Sm.2.1 8 10) (Sc.2.1 1 7)) (hN : 8 < N) {l1 l2 l3 l4 : Int32} (ok : okLeg nl (Sc.1 1 3) l1 l2 l3 l4) : ∃ a b f g, nn l1 a ∧ nn l2 b ∧ a < 8 ∧ b < 8 ∧ RDc (jn c a b) f g ∧ f_X11_leg N Sc l1 l2 l3 l4 = some (Int32.ofNat nl, cLeg Sc nl l1 l2 l3 l4 g) ∧ f_X12_leg N Sm l1 l2 l3 l4 = some (Int32.ofNat nl, mLeg Sm nl l1 l2 l3 l4 f) := by
  obtain ⟨a1, a2, a3, a4, a5, a6⟩ := id ok
  obtain ⟨a, ha, ha'⟩ := nn_idx hF.1 a1
  obtain ⟨b, hb, hb'⟩ := nn_idx hF.1 a2
  obtain ⟨m, hm, _, hm'⟩ := nn_btw (nn_l 10 (by decide)) (nn_l 400 (by decide)) a5
  have h8 := hF.2.1
  have c7 : (cLeg0 Sc nl l1 l2 l3 l4).2.1 1 7 = Sc.2.1 1 7 := by
    unfold cLeg0
    rw [yA_2n _ _ (by decide), (yNw_o (by omega)).2]
  have c5 : (cLeg0 Sc nl l1 l2 l3 l4).1 1 5 = Int32.ofNat nl := by
    unfold cLeg0
    rw [yA_1, (yNw_o (by omega)).1]
    exact h.1.1
  obtain ⟨f, g, r1, r2, r3⟩ := lg_outer (N := N) (c := c) ha hb hm (by omega) (by omega) hm' hN 8 0 N N (cLeg0 Sc nl l1 l2 l3 l4) (mLeg0 Sm nl l1 l2 l3 l4) (fun _ _ => False) rfl hN hN (by rw [c7]; exact RC.of hD a b)
  refine ⟨a, b, f, g, ha, hb, by omega, by omega, r1.to (fun x y _ _ => Or.inr (Nat.zero_le _)), ?_, ?_⟩
  · rw [(e_leg h l1 l2 l3 l4).1 ok]
    refine (congrArg (fun z => bS z fun w S1 => some (w, S1)) r2).trans ?_
    rw [bS_s, c5, y_int1]
    rfl
  · rw [(em_leg h hF.2.2.1 l1 l2 l3 l4).1 ok]
    refine r3.trans ?_
    rw [show (mLeg0 Sm nl l1 l2 l3 l4).1 8 9 = Int32.ofNat (nl + 1) from rfl, ← y_int1]
    rw [Int32.add_sub_cancel]
    rfl
