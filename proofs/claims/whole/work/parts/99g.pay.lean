/-! PAY: what a law gives for a bag, coin and judge -/
theorem bS_as {α : Type} (a : Option (α × yS)) (f : α → yS → Option (Int32 × yS)) (g : Int32 → yS → Option (Int32 × yS)) : (bS a fun x s => bS (f x s) g) = bS (bS a f) g := by
  cases a <;> rfl
theorem rF5_pI {S S' : yS} (h : rF 5 S S') : FR pI1 S S' := by
  intro o k z
  by_cases e : o = 5
  · subst e
    exact ⟨h.2.2.1 k (fun y => z ⟨Or.inr rfl, by omega⟩), h.2.2.2 k (fun y => z ⟨Or.inr rfl, by omega⟩)⟩
  · exact ⟨congrFun (h.1 o e).1 k, congrFun (h.1 o e).2 k⟩
theorem e_putl {N c : Nat} {S : yS} {x v : Int32} (hx : nn x (97 + c)) (hc : c < 26) : f_X8l_put N S x v = some (0, yA S 5 2 (upd (S.2.1 5 2) c v)) := by
  have h1 := nn_sub hx (nn_l 97 (by decide)) (by omega)
  rw [show 97 + c - 97 = c by omega] at h1
  unfold f_X8l_put f_X8l_put_0 f_X8l_put_22
  rw [if_neg h1.nneg, if_neg (fun q => by have := (nn_le (nn_l 26 (by decide)) h1).mp q; omega), gA_nn h1 hc, sq_s]
/-- the class's side: the letters put, the law run -/
theorem pay_c {N b fr to w : Nat} {Sc : yS} {rc : Int32} (hg : ¬ Sc.1 (384 + b) 8 = -1) (fr1 : nn (Sc.1 (384 + b) 0) fr) (fr2 : fr < 8) (to1 : nn (Sc.1 (384 + b) 1) to) (to2 : to < 8) (m2 : nn (Sc.2.1 1 7 (8 * fr + to)) w) (m3 : w ≤ 2800) : f_X10_payBy N Sc rc (384 + b) = bS (f_X8l_run N (yA Sc 5 2 (upd (upd (upd (upd (upd (Sc.2.1 5 2) 22 (Sc.1 (384 + b) 2)) 12 (Sc.2.1 1 7 (8 * fr + to))) 18 (Sc.1 (384 + b) 3)) 19 (if 0 < Sc.1 (384 + b) 8 - Sc.1 (384 + b) 4 then Sc.1 (384 + b) 8 - Sc.1 (384 + b) 4 else 0)) 3 (Sc.1 (384 + b) 8 / 96))) rc 0) fun w6 S5 => some (if 0 < w6 then w6 else 0, S5) := by
  unfold f_X10_payBy f_X10_payBy_0
  rw [if_pos hg, e_miles fr1 to1 fr2 to2, bV_s, e_putl (c := 22) (nn_l 119 (by decide)) (by decide), bS_s, if_pos ((nn_lt m2 (nn_l 1000000 (by decide))).mpr (by omega))]
  unfold f_X10_payBy_57
  rw [e_putl (c := 12) (nn_l 109 (by decide)) (by decide), bS_s, e_putl (c := 18) (nn_l 115 (by decide)) (by decide), bS_s]
  unfold f_X0_late f_X0_late_0
  rw [bV_s, e_putl (c := 19) (nn_l 116 (by decide)) (by decide), bS_s, e_putl (c := 3) (nn_l 100 (by decide)) (by decide), bS_s]
  simp only [yA_yA, yA_same, yA_1]
/-- the reference's side -/
theorem pay_m {N b r fr to w : Nat} {S : yS} {rm bI gv : Int32} (hb : b < 30) (hbI : nn bI b) (hg : S.2.1 8 48 (235 + 37 * b + 3) = gv) (fr1 : nn (S.2.1 8 23 b) fr) (fr2 : fr < 8) (to1 : nn (S.2.1 8 24 b) to) (to2 : to < 8) (m2 : nn (S.2.1 8 10 (8 * fr + to)) w) (m3 : w ≤ 2800) (hr : r < 12) (hm : nn rm (20 + r)) : f_X12_payBy N S rm bI = bS (bS (f_X12_open N (yA S 8 56 (upd (upd (upd (upd (upd (S.2.1 8 56) 0 (S.2.1 8 25 b)) 1 (S.2.1 8 10 (8 * fr + to))) 2 (S.2.1 8 26 b)) 3 (if 0 < gv - S.2.1 8 27 b then gv - S.2.1 8 27 b else 0)) 4 (gv / 96))) 2 (60 * rm) (S.2.1 8 38 (20 + r)) 0) fun _ S5 => f_X12_choiceT N S5) fun w2 S6 => some (if 0 < w2 then w2 else 0, S6) := by
  have o : ∀ A k, k ≠ 56 → (yA S 8 56 A).2.1 8 k = S.2.1 8 k := fun A k h => yA_2n _ _ (fun z => h z.2)
  have o23 : ∀ A, (yA S 8 56 A).2.1 8 23 = S.2.1 8 23 := fun A => o A 23 (by decide)
  have o24 : ∀ A, (yA S 8 56 A).2.1 8 24 = S.2.1 8 24 := fun A => o A 24 (by decide)
  have o10 : ∀ A, (yA S 8 56 A).2.1 8 10 = S.2.1 8 10 := fun A => o A 10 (by decide)
  have o26 : ∀ A, (yA S 8 56 A).2.1 8 26 = S.2.1 8 26 := fun A => o A 26 (by decide)
  have o27 : ∀ A, (yA S 8 56 A).2.1 8 27 = S.2.1 8 27 := fun A => o A 27 (by decide)
  have o38 : ∀ A, (yA S 8 56 A).2.1 8 38 = S.2.1 8 38 := fun A => o A 38 (by decide)
  unfold f_X12_payBy f_X12_payBy_0
  rw [em_bagOf hbI hb (nn_l 3 (by decide)) (by decide), bV_s, hg, gA_nn hbI hb, gA_nn (nn_l 0 (by decide)) (by decide), sq_s, gA_nn hbI hb, gA_nn hbI hb, o23, o24, gA_nn (nn_add (nn_mul (nn_l 8 (by decide)) fr1 (by omega)) to1 (by omega)) (by omega), o10, if_pos ((nn_lt m2 (nn_l 268435456 (by decide))).mpr (by omega))]
  unfold f_X12_payBy_60
  rw [gA_nn (nn_l 1 (by decide)) (by decide), sq_s, gA_nn hbI hb, gA_nn (nn_l 2 (by decide)) (by decide), sq_s, gA_nn hbI hb, gA_nn (nn_l 3 (by decide)) (by decide), sq_s, gA_nn (nn_l 4 (by decide)) (by decide), sq_s, gA_nn hm (by omega)]
  simp only [yA_yA, yA_same, o26, o27, o38]
  exact bS_as _ _ _
/-- what paying touches in the reference -/
def pPy (o k : Nat) : Prop := o = 8 ∧ 50 ≤ k ∧ k ≤ 57
theorem payBy_both {cK : Nat → Nat} {N nf nl np nq nb ng b r k8 k9 : Nat} {Sc Sm : yS} {bI rc rm : Int32} (hN : 60 < N) (hT : ST cK nf nl np nq nb ng Sc Sm) (hD : DY cK nf nl np nq nb ng Sc Sm) (hb : b < nb) (hbI : nn bI b) (hg : ¬ Sc.1 (384 + b) 8 = -1) (hR : RR k8 k9 Sc Sm) (hK : RK k8 k9 Sc Sm) (hr : r < k9) (hc : nn rc r) (hm : nn rm (20 + r)) : ∃ v Sc' Sm', f_X10_payBy N Sc rc (384 + b) = some (v, Sc') ∧ f_X12_payBy N Sm rm bI = some (v, Sm') ∧ FR pI1 Sc Sc' ∧ FR pPy Sm Sm' := by
  obtain ⟨t1, t2, t3, t4, t5, t6, t7, t8, t9, t10, t11, t12, t13, t14⟩ := id hT
  have nb30 : nb ≤ 30 := t7.2.2.1.2.1
  have nf8 : nf ≤ 8 := t1.2.1
  have r12 : r < 12 := by have := hR.2.2.2.2.1; omega
  obtain ⟨x1, x2, x3⟩ := hD.2.2.2.2.2.2.1 b hb
  obtain ⟨y0, y1, y2, y3, y4, y5, ⟨fr, fr1, fr2⟩, ⟨to, to1, to2⟩, _⟩ := t10 b hb
  have w3 : Sm.2.1 8 48 (235 + 37 * b + 3) = Sc.1 (384 + b) 8 := x1 3 (by decide)
  obtain ⟨m1, w, m2, m3⟩ := mile_eq t3.1 (show fr < 8 by omega) (show to < 8 by omega) ((t3.2.2.1 b hb fr (Or.inl fr1)).trans (t3.2.2.1 b hb to (Or.inr to1)).symm)
  have ec := pay_c (N := N) (rc := rc) hg fr1 (by omega) to1 (by omega) m2 m3
  have em := pay_m (N := N) (by omega) hbI w3 (by rw [y1]; exact fr1) (by omega) (by rw [y2]; exact to1) (by omega) (by rw [m1]; exact m2) m3 r12 hm
  rw [y3, y4, y5, m1] at em
  generalize hY : upd (upd (upd (upd (upd (Sc.2.1 5 2) 22 (Sc.1 (384 + b) 2)) 12 (Sc.2.1 1 7 (8 * fr + to))) 18 (Sc.1 (384 + b) 3)) 19 (if 0 < Sc.1 (384 + b) 8 - Sc.1 (384 + b) 4 then Sc.1 (384 + b) 8 - Sc.1 (384 + b) 4 else 0)) 3 (Sc.1 (384 + b) 8 / 96) = Y at ec
  generalize hZ : upd (upd (upd (upd (upd (Sm.2.1 8 56) 0 (Sc.1 (384 + b) 2)) 1 (Sc.2.1 1 7 (8 * fr + to))) 2 (Sc.1 (384 + b) 3)) 3 (if 0 < Sc.1 (384 + b) 8 - Sc.1 (384 + b) 4 then Sc.1 (384 + b) 8 - Sc.1 (384 + b) 4 else 0)) 4 (Sc.1 (384 + b) 8 / 96) = Z at em
  have hL : lLa (yA Sc 5 2 Y) (yA Sm 8 56 Z) := by
    intro t ht
    rw [yA_same, yA_same, ← hY, ← hZ]
    rcases (show t = 0 ∨ t = 1 ∨ t = 2 ∨ t = 3 ∨ t = 4 by omega) with rfl | rfl | rfl | rfl | rfl <;> rfl
  obtain ⟨v, Sc', Sm', e1, e2, e3, e4⟩ := law_both (N := N) (oth := 0) (Sc := yA Sc 5 2 Y) (Sm := yA Sm 8 56 Z) hN (RR_congr hR rfl rfl rfl rfl rfl rfl rfl rfl rfl rfl) (RK_congr hK rfl rfl rfl rfl rfl rfl rfl) hL hr hc hm
  refine ⟨if 0 < v then v else 0, Sc', Sm', by rw [ec, e1, bS_s], ?_, FR_trans (FR_A _ _ _ _ ⟨Or.inr rfl, by decide⟩) (rF5_pI e2), FR_trans (FR_A _ _ _ _ ⟨rfl, by decide⟩) (FR_mono e4 (fun o k z => ⟨z.1, by have := z.2; omega⟩))⟩
  rw [em]
  have e3' : (bS (f_X12_open N (yA Sm 8 56 Z) 2 (60 * rm) (Sm.2.1 8 38 (20 + r)) 0) fun _ S5 => f_X12_choiceT N S5) = some (v, Sm') := e3
  rw [e3', bS_s]
theorem pPy_pI {S S' : yS} (h : FR pPy S S') : FR pI2 S S' := FR_mono h (fun o k z => ⟨z.1, by have := z.2; omega⟩)
theorem irr_both {cK : Nat → Nat} {nf nl np nq nb ng : Nat} {Sc Sm Sc' Sm' : yS} (hT : ST cK nf nl np nq nb ng Sc Sm) (hD : DY cK nf nl np nq nb ng Sc Sm) (hc : FR pI1 Sc Sc') (hm : FR pI2 Sm Sm') : ST cK nf nl np nq nb ng Sc' Sm' ∧ DY cK nf nl np nq nb ng Sc' Sm' := by
  have w : Sm'.2.1 8 48 = Sm.2.1 8 48 := (hm 8 48 (fun z => by have := z.2; omega)).2
  exact ⟨ST_FR hT (FR_mono hc (fun o k z => by unfold pI1 at z; unfold pQC; omega)) (FR_mono hm (fun o k z => ⟨z.1, by have := z.2; omega⟩)) (fun i _ _ => by rw [w]), DY_irr hD hT.2.2.2.2.2.2.1.2.2.1.2.1 hc hm⟩
theorem payDay_both {cK : Nat → Nat} {N nf nl np nq nb ng b : Nat} {Sc Sm : yS} {bI : Int32} (hN : 60 < N) (hT : ST cK nf nl np nq nb ng Sc Sm) (hD : DY cK nf nl np nq nb ng Sc Sm) (hb : b < nb) (hbI : nn bI b) : ∃ v Sc' Sm', f_X10_payByDay N Sc (384 + b) = some (v, Sc') ∧ f_X12_payOf N Sm bI = some (v, Sm') ∧ FR pI1 Sc Sc' ∧ FR pPy Sm Sm' := by
  obtain ⟨t1, t2, t3, t4, t5, t6, t7, t8, t9, t10, t11, t12, t13, t14⟩ := id hT
  have nb30 : nb ≤ 30 := t7.2.2.1.2.1
  have nf8 : nf ≤ 8 := t1.2.1
  obtain ⟨k8, k9, hR, hK⟩ := t5
  obtain ⟨x1, x2, x3⟩ := hD.2.2.2.2.2.2.1 b hb
  have w3 : Sm.2.1 8 48 (235 + 37 * b + 3) = Sc.1 (384 + b) 8 := x1 3 (by decide)
  unfold f_X10_payByDay f_X10_payByDay_0 f_X10_payByDay_32 f_X12_payOf f_X12_payOf_0 f_X12_payOf_42
  rw [em_bagOf hbI (by omega) (nn_l 3 (by decide)) (by decide), bV_s, w3]
  by_cases z : Sc.1 (384 + b) 8 = -1
  · rw [if_neg (fun q => q z), if_neg (fun q => q z)]
    exact ⟨0, Sc, Sm, rfl, rfl, FR_refl _ _, FR_refl _ _⟩
  · rw [if_pos z, if_pos z, bV_s, e_inForcel hR (by omega), bV_s, em_textOfl hR (by omega), bV_s]
    cases hs : sFl Sc k9 2 (Sc.1 (384 + b) 8 / 96) with
    | none =>
      obtain ⟨y0, y1, y2, y3, y4, y5, ⟨fr, fr1, fr2⟩, ⟨to, to1, to2⟩, _⟩ := t10 b hb
      obtain ⟨m1, w, m2, m3⟩ := mile_eq t3.1 (show fr < 8 by omega) (show to < 8 by omega) ((t3.2.2.1 b hb fr (Or.inl fr1)).trans (t3.2.2.1 b hb to (Or.inr to1)).symm)
      rw [if_neg (show ¬ ¬ encZ 20 none = -1 from fun q => q rfl), pay_c z fr1 (by omega) to1 (by omega) m2 m3]
      generalize hY : upd (upd (upd (upd (upd (Sc.2.1 5 2) 22 (Sc.1 (384 + b) 2)) 12 (Sc.2.1 1 7 (8 * fr + to))) 18 (Sc.1 (384 + b) 3)) 19 (if 0 < Sc.1 (384 + b) 8 - Sc.1 (384 + b) 4 then Sc.1 (384 + b) 8 - Sc.1 (384 + b) 4 else 0)) 3 (Sc.1 (384 + b) 8 / 96) = Y
      obtain ⟨S', s1, s2⟩ := l_run_no (N := N) (S := yA Sc 5 2 Y) (rr := encN none) (oth := 0) (fun q => absurd q.1 (by decide))
      refine ⟨0, S', Sm, ?_, rfl, FR_trans (FR_A _ _ _ _ ⟨Or.inr rfl, by decide⟩) (rF5_pI s2), FR_refl _ _⟩
      rw [s1, bS_s, bS_s]
      rfl
    | some r =>
      have hr := sFl_lt hs
      have r12 : r < 12 := by have := hR.2.2.2.2.1; omega
      obtain ⟨v, Sc', Sm', e1, e2, e3, e4⟩ := payBy_both (N := N) (rc := encN (some r)) (rm := encZ 20 (some r)) hN hT hD hb hbI z hR hK hr (nn_lit r (by omega)) (nn_lit (20 + r) (by omega))
      have ne : ¬ encZ 20 (some r) = -1 := fun q => (nn_lit (20 + r) (by omega)).nneg (by rw [show Int32.ofNat (20 + r) = -1 from q]; decide)
      rw [if_pos ne, e1, bS_s, e2, bS_s]
      exact ⟨v, Sc', Sm', rfl, rfl, e3, e4⟩
theorem coin_loop {cK : Nat → Nat} {N nf nl np nq nb ng : Nat} (hN : 60 < N) : ∀ (d i m m' : Nat) (acc : Int32) (Sc Sm : yS), i + d = nb → d < m → d < m' → ST cK nf nl np nq nb ng Sc Sm → DY cK nf nl np nq nb ng Sc Sm → ∃ v Sc' Sm', f_X10_coinNow_8 m N Sc acc (Int32.ofNat i) = some (v, Sc') ∧ f_X12_coinNow_10 m' N Sm acc (Int32.ofNat i) = some (v, Sm') ∧ FR pI1 Sc Sc' ∧ FR pPy Sm Sm' := by
  intro d
  induction d with
  | zero =>
    intro i m m' acc Sc Sm hi hm hm' hT hD
    obtain ⟨m, rfl⟩ : ∃ x, m = x + 1 := ⟨m - 1, by omega⟩
    obtain ⟨m', rfl⟩ : ∃ x, m' = x + 1 := ⟨m' - 1, by omega⟩
    obtain ⟨t1, t2, t3, t4, t5, t6, t7, t8, t9, t10, t11, t12, t13, t14⟩ := id hT
    have nb30 : nb ≤ 30 := t7.2.2.1.2.1
    have le := (nn_le t7.2.2.1.1 (nn_lit i (by omega))).mpr (by omega)
    rw [f_X10_coinNow_8, if_pos le, f_X12_coinNow_10, t7.2.2.1.2.2, if_pos le]
    exact ⟨acc, Sc, Sm, rfl, rfl, FR_refl _ _, FR_refl _ _⟩
  | succ d ih =>
    intro i m m' acc Sc Sm hi hm hm' hT hD
    obtain ⟨m, rfl⟩ : ∃ x, m = x + 1 := ⟨m - 1, by omega⟩
    obtain ⟨m', rfl⟩ : ∃ x, m' = x + 1 := ⟨m' - 1, by omega⟩
    obtain ⟨t1, t2, t3, t4, t5, t6, t7, t8, t9, t10, t11, t12, t13, t14⟩ := id hT
    have nb30 : nb ≤ 30 := t7.2.2.1.2.1
    have ni := nn_lit i (by omega)
    have nle : ¬ Sc.1 2 9 ≤ Int32.ofNat i := fun q => by have := (nn_le t7.2.2.1.1 ni).mp q; omega
    obtain ⟨v, Sc1, Sm1, e1, e2, e3, e4⟩ := payDay_both (N := N) hN hT hD (by omega : i < nb) ni
    obtain ⟨hT1, hD1⟩ := irr_both hT hD e3 (pPy_pI e4)
    obtain ⟨v', Sc', Sm', f1, f2, f3, f4⟩ := ih (i + 1) m m' (acc + v) Sc1 Sm1 (by omega) (by omega) (by omega) hT1 hD1
    refine ⟨v', Sc', Sm', ?_, ?_, FR_trans e3 f3, FR_trans e4 f4⟩
    · rw [f_X10_coinNow_8, if_neg nle, gR_nn ni (by omega) (t10 i (by omega)).1, e1, bS_s, y_int1]
      exact f1
    · rw [f_X12_coinNow_10, t7.2.2.1.2.2, if_neg nle, e2, bS_s, y_int1]
      exact f2
/-- coinNow: the state is kept -/
theorem coinNow_both {cK : Nat → Nat} {N nf nl np nq nb ng : Nat} {Sc Sm : yS} (hN : 60 < N) (hT : ST cK nf nl np nq nb ng Sc Sm) (hD : DY cK nf nl np nq nb ng Sc Sm) : ∃ v Sc' Sm', f_X10_coinNow N Sc = some (v, Sc') ∧ f_X12_coinNow N Sm = some (v, Sm') ∧ FR pI1 Sc Sc' ∧ FR pPy Sm Sm' := by
  have nb30 : nb ≤ 30 := hT.2.2.2.2.2.2.1.2.2.1.2.1
  obtain ⟨v, Sc', Sm', e1, e2, e3, e4⟩ := coin_loop (N := N) hN nb 0 N N (-(Sc.1 2 14)) Sc Sm (by omega) (by omega) (by omega) hT hD
  refine ⟨v, Sc', Sm', e1, ?_, e3, e4⟩
  unfold f_X12_coinNow f_X12_coinNow_0
  rw [gA_nn (nn_l 1 (by decide)) (by decide), hD.2.1]
  exact e2
theorem coin_both {cK : Nat → Nat} {N nf nl np nq nb ng : Nat} {Sc Sm : yS} (hN : 60 < N) (hT : ST cK nf nl np nq nb ng Sc Sm) (hD : DY cK nf nl np nq nb ng Sc Sm) : ∃ v Sc' Sm', f_X11_coin N Sc = some (v, Sc') ∧ f_X12_coin N Sm = some (v, Sm') ∧ ST cK nf nl np nq nb ng Sc' Sm' ∧ DY cK nf nl np nq nb ng Sc' Sm' ∧ kR Sc Sm Sc' Sm' := by
  obtain ⟨hT1, hD1⟩ := clear_both hT hD
  obtain ⟨v, Sc', Sm', e1, e2, e3, e4⟩ := coinNow_both hN hT1 hD1
  obtain ⟨hT2, hD2⟩ := irr_both hT1 hD1 e3 (pPy_pI e4)
  refine ⟨v, Sc', Sm', ?_, ?_, hT2, hD2, kR_trans kR_cl (kR_FR e3 e4 (fun k z => by unfold pI1 at z; omega) (fun k a b z => by unfold pPy at z; omega))⟩
  · unfold f_X11_coin f_X11_coin_0
    rw [e1, bS_s]
  · unfold f_X12_coin f_X12_coin_0
    rw [sq_s, e2, bS_s]
theorem judge_loop {cK : Nat → Nat} {N nf nl np nq nb ng r : Nat} {rI : Int32} (hN : 60 < N) (hr : nn rI r) : ∀ (d i m m' : Nat) (acc : Int32) (Sc Sm : yS), i + d = nb → d < m → d < m' → ST cK nf nl np nq nb ng Sc Sm → DY cK nf nl np nq nb ng Sc Sm → (∃ k9, nn (Sc.1 5 0) k9 ∧ r < k9) → ∃ v Sc' Sm', f_X11_judge_26 m N Sc rI acc (Int32.ofNat i) = some (v, Sc') ∧ f_X12_judge_25 m' N Sm rI acc (Int32.ofNat i) = some (v, Sm') ∧ FR pI1 Sc Sc' ∧ FR pPy Sm Sm' := by
  intro d
  induction d with
  | zero =>
    intro i m m' acc Sc Sm hi hm hm' hT hD _
    obtain ⟨m, rfl⟩ : ∃ x, m = x + 1 := ⟨m - 1, by omega⟩
    obtain ⟨m', rfl⟩ : ∃ x, m' = x + 1 := ⟨m' - 1, by omega⟩
    obtain ⟨t1, t2, t3, t4, t5, t6, t7, t8, t9, t10, t11, t12, t13, t14⟩ := id hT
    have nb30 : nb ≤ 30 := t7.2.2.1.2.1
    have le := (nn_le t7.2.2.1.1 (nn_lit i (by omega))).mpr (by omega)
    rw [f_X11_judge_26, if_pos le, f_X12_judge_25, t7.2.2.1.2.2, if_pos le]
    exact ⟨acc, Sc, Sm, rfl, rfl, FR_refl _ _, FR_refl _ _⟩
  | succ d ih =>
    intro i m m' acc Sc Sm hi hm hm' hT hD hk
    obtain ⟨m, rfl⟩ : ∃ x, m = x + 1 := ⟨m - 1, by omega⟩
    obtain ⟨m', rfl⟩ : ∃ x, m' = x + 1 := ⟨m' - 1, by omega⟩
    obtain ⟨t1, t2, t3, t4, t5, t6, t7, t8, t9, t10, t11, t12, t13, t14⟩ := id hT
    have nb30 : nb ≤ 30 := t7.2.2.1.2.1
    obtain ⟨k8, k9, hR, hK⟩ := t5
    obtain ⟨k9', kk1, kk2⟩ := hk
    have ek := nn_inj kk1 hR.2.2.2.1
    have k12 := hR.2.2.2.2.1
    have ni := nn_lit i (by omega)
    have nle : ¬ Sc.1 2 9 ≤ Int32.ofNat i := fun q => by have := (nn_le t7.2.2.1.1 ni).mp q; omega
    obtain ⟨x1, x2, x3⟩ := hD.2.2.2.2.2.2.1 i (by omega)
    have w3 : Sm.2.1 8 48 (235 + 37 * i + 3) = Sc.1 (384 + i) 8 := x1 3 (by decide)
    rw [f_X11_judge_26, if_neg nle, gR_nn ni (by omega) (t10 i (by omega)).1, f_X12_judge_25, t7.2.2.1.2.2, if_neg nle, em_bagOf ni (by omega) (nn_l 3 (by decide)) (by decide), bV_s, w3]
    unfold f_X12_judge_55
    by_cases z : Sc.1 (384 + i) 8 = -1
    · have ep : f_X10_payBy N Sc rI (384 + i) = some (0, Sc) := by
        unfold f_X10_payBy f_X10_payBy_0
        rw [if_neg (fun q => q z)]
      rw [if_pos z, ep, bS_s, y_int1, Int32.add_zero]
      exact ih (i + 1) m m' acc Sc Sm (by omega) (by omega) (by omega) hT hD ⟨k9', kk1, kk2⟩
    · obtain ⟨v, Sc1, Sm1, e1, e2, e3, e4⟩ := payBy_both (N := N) (rc := rI) (rm := 20 + rI) hN hT hD (by omega : i < nb) ni z hR hK (by omega : r < k9) hr (nn_add (nn_l 20 (by decide)) hr (by omega))
      obtain ⟨hT1, hD1⟩ := irr_both hT hD e3 (pPy_pI e4)
      obtain ⟨v', Sc', Sm', f1, f2, f3, f4⟩ := ih (i + 1) m m' (acc + v) Sc1 Sm1 (by omega) (by omega) (by omega) hT1 hD1 ⟨k9', by rw [(e3 5 0 (fun z => by have := z.2; omega)).1]; exact kk1, kk2⟩
      rw [if_neg z, e1, bS_s, e2, bS_s, y_int1]
      exact ⟨v', Sc', Sm', f1, f2, FR_trans e3 f3, FR_trans e4 f4⟩
theorem judge_both {cK : Nat → Nat} {N nf nl np nq nb ng : Nat} {Sc Sm : yS} {rI : Int32} (hN : 60 < N) (hT : ST cK nf nl np nq nb ng Sc Sm) (hD : DY cK nf nl np nq nb ng Sc Sm) : ∃ v Sc' Sm', f_X11_judge N Sc rI = some (v, Sc') ∧ f_X12_judge N Sm rI = some (v, Sm') ∧ ST cK nf nl np nq nb ng Sc' Sm' ∧ DY cK nf nl np nq nb ng Sc' Sm' ∧ kR Sc Sm Sc' Sm' := by
  obtain ⟨hT1, hD1⟩ := clear_both hT hD
  obtain ⟨t1, t2, t3, t4, t5, t6, t7, t8, t9, t10, t11, t12, t13, t14⟩ := id hT1
  have nb30 : nb ≤ 30 := t7.2.2.1.2.1
  obtain ⟨k8, k9, hR, hK⟩ := t5
  unfold f_X11_judge f_X11_judge_0 f_X12_judge f_X12_judge_0
  rw [e_within, bV_s, sq_s, e_in, bV_s, hR.2.2.2.2.2.1]
  by_cases c : 0 ≤ rI ∧ rI ≤ Sc.1 5 0 - 1
  · obtain ⟨r, r1, r2⟩ := nn_idx hR.2.2.2.1 c
    rw [b01_t c, if_pos (show ¬ (1 : Int32) = 0 by decide), if_pos (show ¬ (1 : Int32) = 0 by decide)]
    obtain ⟨v, Sc', Sm', e1, e2, e3, e4⟩ := judge_loop (N := N) hN r1 nb 0 N N 0 Sc (yI Sm 8 47 0) (by omega) (by omega) (by omega) hT1 hD1 ⟨k9, hR.2.2.2.1, r2⟩
    obtain ⟨hT2, hD2⟩ := irr_both hT1 hD1 e3 (pPy_pI e4)
    exact ⟨v, Sc', Sm', e1, e2, hT2, hD2, kR_trans kR_cl (kR_FR e3 e4 (fun k z => by unfold pI1 at z; omega) (fun k a b z => by unfold pPy at z; omega))⟩
  · rw [b01_f c, if_neg (show ¬ ¬ (0 : Int32) = 0 from fun w => w rfl), if_neg (show ¬ ¬ (0 : Int32) = 0 from fun w => w rfl)]
    exact ⟨-1, _, _, rfl, rfl, hT1, hD1, kR_cl⟩
