/-! BAG, the call -/
def nBa (l1 l2 l3 l4 l5 : Int32) : Nat → Int32 := fun k => ([l1, l2, l3, l4, l5, l1, (-1), (-1), (-1), 0, 0, 0] : List Int32).getD k 0
def mBaA (A : Nat → Int32) (n : Nat) (l1 : Int32) : Nat → Int32 := upd (upd (upd (upd (upd A (235 + 37 * n + 0) l1) (235 + 37 * n + 1) (-1)) (235 + 37 * n + 2) (-1)) (235 + 37 * n + 3) (-1)) (235 + 37 * n + 4) 0
def mBa0 (S : yS) (n : Nat) (l1 l2 l3 l4 l5 : Int32) : yS := yA (yA (yA (yA (yA (yA (yI S 8 47 0) 8 23 (upd (S.2.1 8 23) n l1)) 8 24 (upd (S.2.1 8 24) n l2)) 8 25 (upd (S.2.1 8 25) n l3)) 8 26 (upd (S.2.1 8 26) n l4)) 8 27 (upd (S.2.1 8 27) n l5)) 8 48 (mBaA (S.2.1 8 48) n l1)
def okBa (nf : Int32) (n : Nat) (fa fb : Nat) (l1 l2 l3 l4 l5 : Int32) : Prop := (0 ≤ l1 ∧ l1 ≤ nf - 1) ∧ (0 ≤ l2 ∧ l2 ≤ nf - 1) ∧ l1 ≠ l2 ∧ fa = fb ∧ (1 ≤ l3 ∧ l3 ≤ 500) ∧ (0 ≤ l4 ∧ l4 ≤ 9) ∧ (0 ≤ l5 ∧ l5 ≤ 3000) ∧ n < 30
def cLq (c : Nat → Nat) (n f : Nat) : Nat → Nat := fun z => if z = 384 + n then c f else c z
theorem cLq_o {c : Nat → Nat} {n f z : Nat} (h : z ≠ 384 + n) : cLq c n f z = c z := by
  unfold cLq
  rw [if_neg h]
/-- the class, where the bag is taken -/
theorem e_bag {N nb a b w : Nat} {o : Nat → Nat} {cK : Nat → Nat} {S S1 : yS} {l1 l2 l3 l4 l5 : Int32} (hN : 60 < N) (h : nn (S.1 2 9) nb) (h5 : nb < 30 → ¬ S.2.1 2 8 nb = 1 ∧ ¬ S.1 (384 + nb) 11 = 1) (k : okBa (S.1 1 3) nb (cK a) (cK b) l1 l2 l3 l4 l5) (ha : nn l1 a) (a8 : a < 8) (hb : nn l2 b) (b8 : b < 8) (hw : nn (S.2.1 1 7 (8 * a + b)) w) (w2 : w ≤ 2800) (hx : ∀ b, b < nb → S.2.1 2 8 b = 1) (ho : ∀ i, i < nb → nn (S.2.1 2 10 i) (o i) ∧ o i < nb) (h1 : f_X0_addStep N (yNw S (384 + nb) (nBa l1 l2 l3 l4 l5)) (384 + nb) (S.1 2 13) l1 = some (0, S1)) (hF : FR (fun o k => o = 384 + nb ∧ (k = 9 ∨ k = 10)) (yNw S (384 + nb) (nBa l1 l2 l3 l4 l5)) S1) : ∃ p A', p ≤ nb ∧ f_X11_bag N S l1 l2 l3 l4 l5 = some (Int32.ofNat nb, yI (yA (yA S1 2 8 (upd (S.2.1 2 8) nb 1)) 2 10 A') 2 9 (Int32.ofNat (nb + 1))) ∧ nn (A' p) nb ∧ (∀ i, i < p → nn (A' i) (o i)) ∧ (∀ i, p ≤ i → i < nb → nn (A' (i + 1)) (o i)) ∧ (0 < p → ¬ oA S1 nb (o (p - 1))) ∧ ∀ i, p ≤ i → i < nb → oA S1 nb (o i) := by
  obtain ⟨k1, k2, k3, k4, k5, k6, k7, hn⟩ := k
  have e30 := (nn_lt h (nn_l 30 (by decide))).mpr hn
  have e1 : oc (384 + nb) = 0 := oc_384 (by omega)
  have c2 : ∀ q, S1.1 2 q = S.1 2 q ∧ S1.2.1 2 q = S.2.1 2 q := fun q => by
    have e := hF 2 q (fun z => by have := z.1; omega)
    have e' := yNw_o (S := S) (I0 := nBa l1 l2 l3 l4 l5) (show 2 ≠ 384 + nb by omega)
    exact ⟨by rw [e.1, e'.1], by rw [e.2, e'.2]⟩
  obtain ⟨p, A', p1, p2, p3, p4, p5, p6, p7⟩ := ord_loop (N := N) (nb := nb) (o := o) (S := yA S1 2 8 (upd (S.2.1 2 8) nb 1)) (by rw [yA_1, (c2 9).1]; exact h) hn (fun i hi => (ho i hi).2) (fun b hb => by rw [yA_same, upd_o _ _ (by omega)]; exact hx b hb) nb N (S.2.1 2 10) (Nat.le_refl _) (by omega) (fun i hi => (ho i hi).1) (fun i a b => by omega)
  refine ⟨p, A', p1, ?_, p3, p4, p5, p6, p7⟩
  have e13 : (yNw S (384 + nb) (nBa l1 l2 l3 l4 l5)).1 2 13 = S.1 2 13 := by rw [(yNw_o (show 2 ≠ 384 + nb by omega)).1]
  have e0 : (yNw S (384 + nb) (nBa l1 l2 l3 l4 l5)).1 (384 + nb) 0 = l1 := by rw [yNw_s]; rfl
  have hadd : f_X10_addBag N (yNw S (384 + nb) (nBa l1 l2 l3 l4 l5)) (384 + nb) = some (Int32.ofNat nb, yI (yA (yA S1 2 8 (upd (S.2.1 2 8) nb 1)) 2 10 A') 2 9 (Int32.ofNat (nb + 1))) := by
    unfold f_X10_addBag f_X10_addBag_0
    rw [e13, e0, h1, bS_s, (c2 9).1, gA_nn h hn, gP_t rfl, sq_s, yA_1, (c2 9).1, h.1, (c2 8).2]
    have eA : yA (yA S1 2 8 (upd (S.2.1 2 8) nb 1)) 2 10 (S.2.1 2 10) = yA S1 2 8 (upd (S.2.1 2 8) nb 1) := by
      have := yA_self (yA S1 2 8 (upd (S.2.1 2 8) nb 1)) 2 10
      rw [yA_2n _ _ (by decide), (c2 10).2] at this
      exact this
    rw [eA] at p2
    exact p2
  simp only [f_X11_bag, f_X11_bag_0, f_X11_bag_32, f_X11_bag_65, e_isField, e_within, e_isQuarter, bV_s, h.nat, b01_t k1, b01_t k2, b01_t k5, b01_t k6, b01_t k7, i10, if_false, if_neg k3, if_pos e30, not_false_eq_true, if_true, e_miles ha hb a8 b8, if_pos ((nn_lt hw (nn_l 1000000 (by decide))).mpr (by omega))]
  rw [gP_t ⟨by omega, by omega, e1, by rw [yRf_384 (by omega)]; exact (h5 hn).1, by rw [e1]; exact (h5 hn).2⟩, sq_s]
  have hadd' : f_X10_addBag N (yNw S (384 + nb) fun k => ([l1, l2, l3, l4, l5, l1, (-1), (-1), (-1), 0, 0, 0] : List Int32).getD k 0) (384 + nb) = some (Int32.ofNat nb, yI (yA (yA S1 2 8 (upd (S.2.1 2 8) nb 1)) 2 10 A') 2 9 (Int32.ofNat (nb + 1))) := hadd
  rw [hadd', bS_s, gP_t (by rw [yRf_384 (by omega), yI_2, yA_2n _ _ (by decide), yA_same, upd_s])]
/-- where it is not taken -/
theorem bag_no {N nb nf : Nat} {cK : Nat → Nat} {Sc Sm : yS} {l1 l2 l3 l4 l5 : Int32} (h : nn (Sc.1 2 9) nb) (hb30 : nb ≤ 30) (m28 : Sm.1 8 28 = Sc.1 2 9) (hF : RF nf Sc Sm) (hD : RDc cK (Sm.2.1 8 10) (Sc.2.1 1 7)) (hn : ∀ a b, nn l1 a → nn l2 b → ¬ okBa (Sc.1 1 3) nb (cK a) (cK b) l1 l2 l3 l4 l5) : f_X11_bag N Sc l1 l2 l3 l4 l5 = some (-1, Sc) ∧ f_X12_bag N Sm l1 l2 l3 l4 l5 = some (-1, yI Sm 8 47 0) := by
  have g28 : (yI Sm 8 47 0).1 8 28 = Sc.1 2 9 := m28
  have g1 : (yI Sm 8 47 0).1 8 1 = Sc.1 1 3 := hF.2.2.1
  have g10 : (yI Sm 8 47 0).2.1 8 10 = Sm.2.1 8 10 := rfl
  have nf8 : nf ≤ 8 := hF.2.1
  have e30 := nn_lt h (nn_l 30 (by decide))
  have f30 := nn_eq h (nn_l 30 (by decide))
  simp only [f_X11_bag, f_X11_bag_0, f_X11_bag_32, f_X11_bag_65, f_X12_bag, f_X12_bag_0, f_X12_bag_85, e_isField, em_isField, e_within, e_in, e_isQuarter, bV_s, sq_s, g28, g1, g10]
  by_cases k1 : 0 ≤ l1 ∧ l1 ≤ Sc.1 1 3 - 1
  · by_cases k2 : 0 ≤ l2 ∧ l2 ≤ Sc.1 1 3 - 1
    · obtain ⟨a, ha, a2⟩ := nn_idx hF.1 k1
      obtain ⟨b, hb, b2⟩ := nn_idx hF.1 k2
      have a8 : a < 8 := by omega
      have b8 : b < 8 := by omega
      have ix := nn_add (nn_mul (nn_l 8 (by decide)) ha (by omega)) hb (by omega)
      have hn' := hn a b ha hb
      simp only [b01_t k1, b01_t k2, i10, if_false, e_miles ha hb a8 b8, bV_s, gA_nn ix (show 8 * a + b < 64 by omega)]
      by_cases k3 : l1 = l2
      · simp only [if_pos k3]
        exact ⟨trivial, trivial⟩
      · simp only [if_neg k3]
        obtain ⟨p, q, hp, hq, w1, w2⟩ := hD a b a8 b8
        by_cases k4 : cK a = cK b
        · obtain ⟨e, hle⟩ := w1 k4
          have := cntR_le cK (cK a) 8
          have c1 : Sc.2.1 1 7 (8 * a + b) < 1000000 := (nn_lt hq (nn_l 1000000 (by decide))).mpr (by omega)
          have c2 : ¬ 268435456 ≤ Sm.2.1 8 10 (8 * a + b) := fun z => by have := (nn_le (nn_l 268435456 (by decide)) hp).mp z; omega
          simp only [if_pos c1, if_neg c2]
          by_cases k5 : 1 ≤ l3 ∧ l3 ≤ 500
          · by_cases k6 : 0 ≤ l4 ∧ l4 ≤ 9
            · by_cases k7 : 0 ≤ l5 ∧ l5 ≤ 3000
              · have k8 : nb = 30 := by
                  have : ¬ nb < 30 := fun k8 => hn' ⟨k1, k2, k3, k4, k5, k6, k7, k8⟩
                  omega
                have f9 : Sc.1 2 9 = (30 : Int32) := f30.mpr k8
                simp only [b01_t k5, b01_t k6, b01_t k7, i10, if_false, not_false_eq_true, if_true, f9, show ¬ (30 : Int32) < 30 by decide, not_true_eq_false]
                exact ⟨trivial, trivial⟩
              · simp only [b01_t k5, b01_t k6, b01_f k7, i10, if_false, not_false_eq_true, if_true]
                exact ⟨trivial, trivial⟩
            · simp only [b01_t k5, b01_f k6, i10, if_false, not_false_eq_true, if_true]
              exact ⟨trivial, trivial⟩
          · simp only [b01_f k5, not_true_eq_false, if_false, if_true]
            exact ⟨trivial, trivial⟩
        · obtain ⟨e, e'⟩ := w2 k4
          have c1 : ¬ Sc.2.1 1 7 (8 * a + b) < 1000000 := fun z => by have := (nn_lt hq (nn_l 1000000 (by decide))).mp z; omega
          have c2 : 268435456 ≤ Sm.2.1 8 10 (8 * a + b) := (nn_le (nn_l 268435456 (by decide)) hp).mpr (by omega)
          simp only [if_neg c1, if_pos c2]
          by_cases k5 : 1 ≤ l3 ∧ l3 ≤ 500
          · by_cases k6 : 0 ≤ l4 ∧ l4 ≤ 9
            · by_cases k7 : 0 ≤ l5 ∧ l5 ≤ 3000
              · by_cases k8 : Sc.1 2 9 < 30
                · simp only [b01_t k5, b01_t k6, b01_t k7, i10, if_false, not_false_eq_true, if_true, if_pos k8]
                  exact ⟨trivial, trivial⟩
                · simp only [b01_t k5, b01_t k6, b01_t k7, i10, if_false, not_false_eq_true, if_true, if_neg k8]
                  exact ⟨trivial, trivial⟩
              · simp only [b01_t k5, b01_t k6, b01_f k7, i10, if_false, not_false_eq_true, if_true]
                exact ⟨trivial, trivial⟩
            · simp only [b01_t k5, b01_f k6, i10, if_false, not_false_eq_true, if_true]
              exact ⟨trivial, trivial⟩
          · simp only [b01_f k5, not_true_eq_false, if_false]
            exact ⟨trivial, trivial⟩
    · simp only [b01_t k1, b01_f k2, i10, if_false, if_true]
      exact ⟨trivial, trivial⟩
  · simp only [b01_f k1, if_true]
    exact ⟨trivial, trivial⟩
theorem em_bag {N nb nf a b w : Nat} {cK : Nat → Nat} {Sc Sm M1 : yS} {l1 l2 l3 l4 l5 : Int32} (h : nn (Sc.1 2 9) nb) (m28 : Sm.1 8 28 = Sc.1 2 9) (hF : RF nf Sc Sm) (k : okBa (Sc.1 1 3) nb (cK a) (cK b) l1 l2 l3 l4 l5) (ha : nn l1 a) (a8 : a < 8) (hb : nn l2 b) (b8 : b < 8) (hw : nn (Sm.2.1 8 10 (8 * a + b)) w) (w2 : w ≤ 2800) (h1 : f_X12_led N (mBa0 Sm nb l1 l2 l3 l4 l5) (Sm.1 8 28) l1 = some (0, M1)) (hM : M1.1 8 28 = Sm.1 8 28) : f_X12_bag N Sm l1 l2 l3 l4 l5 = some (Int32.ofNat nb, yI M1 8 28 (Int32.ofNat (nb + 1))) := by
  obtain ⟨k1, k2, k3, k4, k5, k6, k7, hn⟩ := k
  have h' : nn (Sm.1 8 28) nb := by rw [m28]; exact h
  have g28 : (yI Sm 8 47 0).1 8 28 = Sm.1 8 28 := rfl
  have g1 : (yI Sm 8 47 0).1 8 1 = Sc.1 1 3 := hF.2.2.1
  have g10 : (yI Sm 8 47 0).2.1 8 10 = Sm.2.1 8 10 := rfl
  have a7 : ¬ Sm.1 8 28 = 30 := fun z => by have := (nn_eq h' (nn_l 30 (by decide))).mp z; omega
  have ix := nn_add (nn_mul (nn_l 8 (by decide)) ha (by omega)) hb (by omega)
  have e : Sm.1 8 28 + 1 = Int32.ofNat (nb + 1) := by rw [h'.1]; exact y_int1
  have h1' : f_X12_led N (yA (yA (yA (yA (yA (yA (yI Sm 8 47 0) 8 23 (upd (Sm.2.1 8 23) nb l1)) 8 24 (upd (Sm.2.1 8 24) nb l2)) 8 25 (upd (Sm.2.1 8 25) nb l3)) 8 26 (upd (Sm.2.1 8 26) nb l4)) 8 27 (upd (Sm.2.1 8 27) nb l5)) 8 48 (mBaA (Sm.2.1 8 48) nb l1)) (Sm.1 8 28) l1 = some (0, M1) := h1
  have c2 : ¬ 268435456 ≤ Sm.2.1 8 10 (8 * a + b) := fun z => by have := (nn_le (nn_l 268435456 (by decide)) hw).mp z; omega
  simp only [f_X12_bag, f_X12_bag_0, f_X12_bag_85, em_isField, e_in, bV_s, sq_s, g28, g1, g10, b01_t k1, b01_t k2, b01_t k5, b01_t k6, b01_t k7, i10, if_false, if_neg k3, gA_nn ix (show 8 * a + b < 64 by omega), if_neg c2, a7, not_false_eq_true, if_true, gA_nn h' hn, yA_1, em_setBag h' hn (nn_l 0 (by decide)) (by decide), em_setBag h' hn (nn_l 1 (by decide)) (by decide), em_setBag h' hn (nn_l 2 (by decide)) (by decide), em_setBag h' hn (nn_l 3 (by decide)) (by decide), em_setBag h' hn (nn_l 4 (by decide)) (by decide), bS_s, yA_yA, yA_same]
  refine Eq.trans (congrArg (fun z => bS z fun _ S12 => some ((yI S12 8 28 (S12.1 8 28 + 1)).1 8 28 - 1, yI S12 8 28 (S12.1 8 28 + 1))) h1') ?_
  rw [bS_s, yI_1s, hM, e, int_m1.1]
theorem C_bag {N : Nat} {Sc Sm : yS} (h : RAe Sc Sm) (hN : 60 < N) (l1 l2 l3 l4 l5 : Int32) : cAll (f_X11_bag N Sc l1 l2 l3 l4 l5) (f_X12_bag N Sm l1 l2 l3 l4 l5) := by
  have h0 := h
  obtain ⟨cK, nf, nl, np, nq, nb, ng, r, x, hA⟩ := h
  have hT := hA.1
  have hD := hA.2.1
  obtain ⟨t1, t2, ⟨t3a, t3l, t3b, t3f⟩, t4, t5, t6, t7, t8, t9, t10, t11, ⟨o, o1, o2, o3⟩, t13, t14⟩ := id hT
  have nf8 : nf ≤ 8 := t1.2.1
  have nl12 : nl ≤ 12 := t2.2.1
  have np8 : np ≤ 8 := t7.1.2.1
  have nb30 : nb ≤ 30 := t7.2.2.1.2.1
  by_cases ok : ∃ a b, nn l1 a ∧ nn l2 b ∧ okBa (Sc.1 1 3) nb (cK a) (cK b) l1 l2 l3 l4 l5
  · obtain ⟨a, b, ha, hb, k⟩ := ok
    obtain ⟨k1, k2, k3, k4, k5, k6, k7, hn⟩ := id k
    have a2 : a < nf := by obtain ⟨y, y1, y2⟩ := nn_idx t1.1 k1; rw [nn_inj ha y1]; exact y2
    have b2 : b < nf := by obtain ⟨y, y1, y2⟩ := nn_idx t1.1 k2; rw [nn_inj hb y1]; exact y2
    have n5 := nn_of k7.1
    have n5b := (nn_le n5 (nn_l 3000 (by decide))).mp k7.2
    obtain ⟨e0, w, w1, w2⟩ := mile_eq t3a (show a < 8 by omega) (show b < 8 by omega) k4
    have h28 : nn (Sm.1 8 28) nb := by rw [t7.2.2.1.2.2]; exact t7.2.2.1.1
    have w48 : (mBa0 Sm nb l1 l2 l3 l4 l5).2.1 8 48 = mBaA (Sm.2.1 8 48) nb l1 := by unfold mBa0; rw [yA_same]
    have wA : ∀ i, (i < 235 + 37 * nb ∨ 240 + 37 * nb ≤ i) → mBaA (Sm.2.1 8 48) nb l1 i = Sm.2.1 8 48 i := fun i hi => by
      unfold mBaA
      rw [upd_o _ _ (by omega), upd_o _ _ (by omega), upd_o _ _ (by omega), upd_o _ _ (by omega), upd_o _ _ (by omega)]
    have wj : mBaA (Sm.2.1 8 48) nb l1 (235 + 37 * nb + 0) = l1 ∧ mBaA (Sm.2.1 8 48) nb l1 (235 + 37 * nb + 1) = -1 ∧ mBaA (Sm.2.1 8 48) nb l1 (235 + 37 * nb + 2) = -1 ∧ mBaA (Sm.2.1 8 48) nb l1 (235 + 37 * nb + 3) = -1 ∧ mBaA (Sm.2.1 8 48) nb l1 (235 + 37 * nb + 4) = 0 := by
      unfold mBaA
      refine ⟨?_, ?_, ?_, ?_, ?_⟩
      · rw [upd_o _ _ (by omega), upd_o _ _ (by omega), upd_o _ _ (by omega), upd_o _ _ (by omega), upd_s]
      · rw [upd_o _ _ (by omega), upd_o _ _ (by omega), upd_o _ _ (by omega), upd_s]
      · rw [upd_o _ _ (by omega), upd_o _ _ (by omega), upd_s]
      · rw [upd_o _ _ (by omega), upd_s]
      · rw [upd_s]
    have cS0 : ∀ k, (yNw Sc (384 + nb) (nBa l1 l2 l3 l4 l5)).1 (384 + nb) k = nBa l1 l2 l3 l4 l5 k := fun k => by rw [yNw_s]
    have gz : ∀ z, 1000 ≤ z → z < 1031 → cLq cK nb a z = 0 := fun z z1 z2 => by rw [cLq_o (by omega)]; exact hA.2.2.2.2 z z1 z2
    obtain ⟨S1, M1, f1, f2, f3, f4, f5, f6⟩ := led_both (cK := cLq cK nb a) (N := N) (b := nb) (bI := Sm.1 8 28) (now := Sc.1 2 13) (pl := l1) (Sc := yNw Sc (384 + nb) (nBa l1 l2 l3 l4 l5)) (Sm := mBa0 Sm nb l1 l2 l3 l4 l5) hn h28 (by rw [w48, wj.2.2.2.2, cS0]; rfl) ⟨0, by rw [cS0]; exact nn_l 0 (by decide), ⟨by decide, by rw [gz _ (by omega) (by omega)]; exact Nat.le_refl _, fun j hj => by rw [gz _ (by omega) (by omega)] at hj; omega⟩, fun j hj => by omega⟩ (by rw [w48, wA 0 (by omega)]; exact hD.1)
    have m1_28 : M1.1 8 28 = Sm.1 8 28 := (wF_1 f6 8 (by decide)).trans rfl
    obtain ⟨p, A', q1, q2, q3, q4, q5, q6, q7⟩ := e_bag (N := N) hN t7.2.2.1.1 (fun hn => t13.2.2.1 nb (Nat.le_refl _) hn) k ha (by omega) hb (by omega) w1 w2 (fun b hb => (t10 b hb).1) o1 f1 f5
    have r1 := em_bag (N := N) t7.2.2.1.1 t7.2.2.1.2.2 t1 k ha (by omega) hb (by omega) (by rw [e0]; exact w1) w2 f2 m1_28
    rw [q2, r1]
    have c1 : ∀ z k, z ≠ 384 + nb → S1.1 z k = Sc.1 z k ∧ S1.2.1 z k = Sc.2.1 z k := fun z k hz => by
      have e := f5 z k (fun y => hz y.1)
      have e' := yNw_o (S := Sc) (I0 := nBa l1 l2 l3 l4 l5) hz
      exact ⟨by rw [e.1, e'.1], by rw [e.2, e'.2]⟩
    have cb : ∀ k, k ≠ 9 → k ≠ 10 → S1.1 (384 + nb) k = nBa l1 l2 l3 l4 l5 k := fun k h1 h2 => (f5 (384 + nb) k (fun y => by have := y.2; omega)).1.trans (cS0 k)
    generalize hSF : yI (yA (yA S1 2 8 (upd (Sc.2.1 2 8) nb 1)) 2 10 A') 2 9 (Int32.ofNat (nb + 1)) = SF
    generalize hMF : yI M1 8 28 (Int32.ofNat (nb + 1)) = MF
    have i1 : ∀ z k, ¬ (z = 2 ∧ k = 9) → SF.1 z k = S1.1 z k := fun z k h => by rw [← hSF, yI_1n _ _ h, yA_1, yA_1]
    have i2 : ∀ z k, ¬ (z = 2 ∧ (k = 8 ∨ k = 10)) → SF.2.1 z k = S1.2.1 z k := fun z k h => by rw [← hSF, yI_2, yA_2n _ _ (by omega), yA_2n _ _ (by omega)]
    have F : FR (pcBa nb) Sc SF := fun z k h => by
      unfold pcBa at h
      exact ⟨(i1 z k (by omega)).trans (c1 z k (by omega)).1, (i2 z k (by omega)).trans (c1 z k (by omega)).2⟩
    have G : FR pmBa Sm MF := by
      rw [← hMF]
      refine FR_trans (FR_trans ?_ (FR_mono f6.1 (fun o k z => ⟨z.1, Or.inr (Or.inr (Or.inl z.2))⟩))) (FR_I _ _ _ _ ⟨rfl, by decide⟩)
      exact FR_trans (FR_I _ _ _ _ ⟨rfl, by decide⟩) (FR_trans (FR_A _ _ _ _ ⟨rfl, by decide⟩) (FR_trans (FR_A _ _ _ _ ⟨rfl, by decide⟩) (FR_trans (FR_A _ _ _ _ ⟨rfl, by decide⟩) (FR_trans (FR_A _ _ _ _ ⟨rfl, by decide⟩) (FR_trans (FR_A _ _ _ _ ⟨rfl, by decide⟩) (FR_A _ _ _ _ ⟨rfl, by decide⟩))))))
    have mw : ∀ i, (i < 239 + 37 * nb ∨ 272 + 37 * nb ≤ i) → MF.2.1 8 48 i = mBaA (Sm.2.1 8 48) nb l1 i := fun i hi => by
      rw [← hMF, yI_2, f6.2 i (by omega), w48]
    have mr : ∀ k, k ≠ 48 → MF.2.1 8 k = (mBa0 Sm nb l1 l2 l3 l4 l5).2.1 8 k := fun k hk => by
      rw [← hMF, yI_2, (wF_o f6 (o := 8) (k := k) (fun z => hk z.2)).2]
    have m23 : MF.2.1 8 23 = upd (Sm.2.1 8 23) nb l1 := (mr 23 (by decide)).trans rfl
    have m24 : MF.2.1 8 24 = upd (Sm.2.1 8 24) nb l2 := (mr 24 (by decide)).trans rfl
    have m25 : MF.2.1 8 25 = upd (Sm.2.1 8 25) nb l3 := (mr 25 (by decide)).trans rfl
    have m26 : MF.2.1 8 26 = upd (Sm.2.1 8 26) nb l4 := (mr 26 (by decide)).trans rfl
    have m27 : MF.2.1 8 27 = upd (Sm.2.1 8 27) nb l5 := (mr 27 (by decide)).trans rfl
    have c8 : SF.2.1 2 8 = upd (Sc.2.1 2 8) nb 1 := by rw [← hSF, yI_2, yA_2n _ _ (by decide), yA_same]
    have c10 : SF.2.1 2 10 = A' := by rw [← hSF, yI_2, yA_same]
    have cN : ∀ k, k ≠ 9 → k ≠ 10 → SF.1 (384 + nb) k = nBa l1 l2 l3 l4 l5 k := fun k h1 h2 => (i1 _ k (by omega)).trans (cb k h1 h2)
    have oe : ∀ x y, oB S1 x y ↔ oB SF x y := fun x y => by
      unfold oB
      rw [i1 _ _ (by omega), i1 _ _ (by omega), i1 _ _ (by omega), i1 _ _ (by omega)]
    have oe0 : ∀ x y, x < nb → y < nb → oB Sc x y → oB SF x y := fun x y hx hy hz => by
      unfold oB at hz ⊢
      rw [i1 _ _ (by omega), i1 _ _ (by omega), i1 _ _ (by omega), i1 _ _ (by omega), (c1 _ _ (by omega)).1, (c1 _ _ (by omega)).1, (c1 _ _ (by omega)).1, (c1 _ _ (by omega)).1]
      exact hz
    have oae : ∀ x, oA S1 nb x ↔ oA SF nb x := fun x => by
      unfold oA
      rw [i1 _ _ (by omega), i1 _ _ (by omega), i1 _ _ (by omega), i1 _ _ (by omega)]
    refine ⟨_, _, _, rfl, rfl, RA_of (cK' := cLq cK nb a) hA F G (fun k _ _ z => by unfold pcBa at z; omega) (fun k a b z => by have := z.2; omega) (fun z hz => cLq_o (by omega)) (ST_bag hT hD hn F G ⟨?_, fun x hx => cLq_o (by omega), fun p hp => ?_⟩ ?_ ⟨fun l hl y hy => ?_, fun b' hb' y hy => ?_, fun p hp => ?_⟩ c8 ?_ ?_ (fun k g h1 h2 h3 => ?_) ?_ ?_ (fun i hi => ?_) ⟨fun j hj => ?_, ?_, ?_, ?_, ?_⟩)⟩
    · intro x y hx hy e
      have q : ∀ z, cU nf nl np nb z → cLq cK nb a z = cK z := fun z hz => by
        unfold cU at hz
        exact cLq_o (by omega)
      rw [q x hx, q y hy]; exact e
    · rw [cLq_o (by omega)]; exact (t3f p (by omega)).mpr hp
    · exact K_RD (RDc_ext t3a (fun x hx => (cLq_o (by omega)).symm)) (F 1 7 (by unfold pcBa; omega)) (G 8 10 (by unfold pmBa; omega))
    · rw [(F (64 + l) 0 (by unfold pcBa; omega)).1, (F (64 + l) 1 (by unfold pcBa; omega)).1] at hy
      obtain ⟨k, hR⟩ := t2.2.2.2.1 l hl
      obtain ⟨_, ⟨ya, ya1, ya2⟩, ⟨yb, yb1, yb2⟩, _⟩ := hR
      have y8 : y < 8 := by
        rcases hy with w | w
        · have := nn_inj w ya1; omega
        · have := nn_inj w yb1; omega
      rw [cLq_o (by omega), cLq_o (by omega)]
      exact t3l l hl y hy
    · by_cases e : b' = nb
      · subst e
        rw [cN 0 (by decide) (by decide), cN 1 (by decide) (by decide)] at hy
        have e384 : cLq cK b' a (384 + b') = cK a := by unfold cLq; rw [if_pos rfl]
        rw [e384]
        rcases hy with w | w
        · rw [nn_inj w ha, cLq_o (by omega)]
        · rw [nn_inj w hb, cLq_o (by omega)]; exact k4.symm
      · rw [(F (384 + b') 0 (by unfold pcBa; omega)).1, (F (384 + b') 1 (by unfold pcBa; omega)).1] at hy
        obtain ⟨_, _, _, _, _, _, ⟨ya, ya1, ya2⟩, ⟨yb, yb1, yb2⟩, _⟩ := t10 b' (by omega)
        have y8 : y < 8 := by
          rcases hy with w | w
          · have := nn_inj w ya1; omega
          · have := nn_inj w yb1; omega
        rw [cLq_o (by omega), cLq_o (by omega)]
        exact t3b b' (by omega) y hy
    · rw [cLq_o (by omega)]; exact t3f p hp
    · rw [← hSF, yI_1s]
    · rw [← hMF, yI_1s]
    · rcases (show k = 23 ∨ k = 24 ∨ k = 25 ∨ k = 26 ∨ k = 27 by omega) with rfl | rfl | rfl | rfl | rfl
      · rw [m23, upd_o _ _ (by omega)]
      · rw [m24, upd_o _ _ (by omega)]
      · rw [m25, upd_o _ _ (by omega)]
      · rw [m26, upd_o _ _ (by omega)]
      · rw [m27, upd_o _ _ (by omega)]
    · refine ⟨by rw [c8, upd_s], by rw [m23, upd_s, cN 0 (by decide) (by decide)]; rfl, by rw [m24, upd_s, cN 1 (by decide) (by decide)]; rfl, by rw [m25, upd_s, cN 2 (by decide) (by decide)]; rfl, by rw [m26, upd_s, cN 3 (by decide) (by decide)]; rfl, by rw [m27, upd_s, cN 4 (by decide) (by decide)]; rfl, ⟨a, by rw [cN 0 (by decide) (by decide)]; exact ha, a2⟩, ⟨b, by rw [cN 1 (by decide) (by decide)]; exact hb, b2⟩, ⟨_, by rw [cN 4 (by decide) (by decide)]; exact n5, n5b⟩⟩
    · exact oR_more (o := o) (p := p) (A' := A') (fun i hi => (o1 i hi).2) (fun i j hij hj => oe0 _ _ (o1 i (by omega)).2 (o1 j hj).2 (o2 i j hij hj)) o3 q1 q3 q4 q5 (fun hp z => q6 hp ((oae _).mpr z)) (fun i x y => (oae _).mp (q7 i x y)) c10
    · rw [mw i (by omega)]; exact wA i (by omega)
    · rcases (show j = 0 ∨ j = 1 ∨ j = 2 ∨ j = 3 ∨ j = 4 by omega) with rfl | rfl | rfl | rfl | rfl
      · rw [mw _ (by omega), wj.1]; exact (cN 5 (by decide) (by decide)).symm
      · rw [mw _ (by omega), wj.2.1]; exact (cN 6 (by decide) (by decide)).symm
      · rw [mw _ (by omega), wj.2.2.1]; exact (cN 7 (by decide) (by decide)).symm
      · rw [mw _ (by omega), wj.2.2.2.1]; exact (cN 8 (by decide) (by decide)).symm
      · rw [← hMF, yI_2, f3]; exact (i1 (384 + nb) 10 (by omega)).symm
    · obtain ⟨n, n1, ⟨n2, n4, n5'⟩, n3⟩ := f4
      refine ⟨n, by rw [i1 _ 10 (by omega)]; exact n1, ⟨n2, n4, fun j hj => by rw [i2 _ 9 (by omega)]; exact n5' j hj⟩, fun j hj => ?_⟩
      rw [← hMF, yI_2, i2 _ 9 (by omega)]
      exact n3 j hj
    · exact Or.inl (by rw [cN 8 (by decide) (by decide)]; rfl)
    · refine Or.inr ⟨a, by rw [cN 5 (by decide) (by decide)]; exact ha, a2, ?_⟩
      rw [cLq_o (by omega)]
      unfold cLq
      rw [if_pos rfl]
    · intro p' _ hp'
      rw [cN 6 (by decide) (by decide)] at hp'
      exact absurd hp'.nneg (by show ¬ ¬ (-1 : Int32) < 0; decide)
  · obtain ⟨a, b⟩ := bag_no (N := N) t7.2.2.1.1 nb30 t7.2.2.1.2.2 t1 t3a (fun a b ha hb k => ok ⟨a, b, ha, hb, k⟩)
    rw [a, b]
    exact ⟨-1, _, _, rfl, rfl, RA_clear h0⟩
