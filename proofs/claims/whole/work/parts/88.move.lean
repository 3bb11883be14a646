/-! MOVES -/
theorem PI_up {cK : Nat → Nat} {nf nl nq ng p s j : Nat} {Sc Sm : yS} {v : Int32} (h : PI cK nf nl nq ng Sc Sm p) (hs : s = 5 ∨ s = 6 ∨ s = 14 ∨ s = 15) (hp : p < 8) (hj : j < 12) (hl : nl ≤ 12) : PI cK nf nl nq ng (yI Sc (128 + p) s v) (yA Sm 8 48 (upd (Sm.2.1 8 48) (19 + 23 * p + j) v)) p := by
  have c : ∀ k, k ≠ s → (yI Sc (128 + p) s v).1 (128 + p) k = Sc.1 (128 + p) k := fun k z => yI_1n _ _ (fun y => z y.2)
  have co : ∀ o k, o ≠ 128 + p → (yI Sc (128 + p) s v).1 o k = Sc.1 o k := fun o k z => yI_1n _ _ (fun y => z y.1)
  have w : ∀ i, i ≠ 19 + 23 * p + j → (yA Sm 8 48 (upd (Sm.2.1 8 48) (19 + 23 * p + j) v)).2.1 8 48 i = Sm.2.1 8 48 i := fun i z => by rw [yA_same, upd_o _ _ z]
  obtain ⟨h1, h2, h3, h4, h5, h6⟩ := h
  refine ⟨by rw [c 13 (by omega)]; exact h1, by rw [c 7 (by omega)]; exact h2, by rw [c 11 (by omega)]; exact h3, ?_, by rw [c 12 (by omega), c 18 (by omega)]; exact h5, fun z => ?_⟩
  · rcases h4 with ⟨z1, z2⟩ | ⟨z1, z2, ⟨l, m, M, a1, a2, a3, a4, a5⟩, ⟨q, b1, b2⟩, g, g1, g2, g3, g4, g5, g6, g7⟩
    · exact Or.inl ⟨by rw [c 8 (by omega)]; exact z1, by rw [c 12 (by omega)]; exact z2⟩
    · exact Or.inr ⟨by rw [c 8 (by omega)]; exact z1, by rw [c 12 (by omega)]; exact z2, ⟨l, m, M, by rw [c 9 (by omega)]; exact a1, a2, by rw [c 10 (by omega)]; exact a3, by rw [co _ _ (by omega)]; exact a4, a5⟩, ⟨q, by rw [c 16 (by omega)]; exact b1, b2⟩, g, by rw [c 17 (by omega)]; exact g1, g2, by rw [co _ _ (by omega)]; exact g3, by rw [w _ (by omega), c 17 (by omega)]; exact g4, by rw [w _ (by omega), co _ _ (by omega)]; exact g5, by rw [co _ _ (by omega), c 16 (by omega)]; exact g6, by rw [co _ _ (by omega), c 9 (by omega)]; exact g7⟩
  · rw [c 12 (by omega)] at z
    obtain ⟨n, n1, n2, n3, n4⟩ := h6 z
    exact ⟨n, by rw [c 18 (by omega)]; exact n1, n2, by rw [w _ (by omega), c 18 (by omega)]; exact n3, fun i hi => by rw [w _ (by omega)]; exact n4 i hi⟩
theorem PI_way {cK : Nat → Nat} {nf nl nq ng p : Nat} {Sc Sm : yS} {v : Int32} (h : PI cK nf nl nq ng Sc Sm p) (hv : v = 0 ∨ v = 1) (hp : p < 8) (hl : nl ≤ 12) : PI cK nf nl nq ng (yI Sc (128 + p) 11 v) (yA Sm 8 48 (upd (Sm.2.1 8 48) (19 + 23 * p + 10) v)) p := by
  have c : ∀ k, k ≠ 11 → (yI Sc (128 + p) 11 v).1 (128 + p) k = Sc.1 (128 + p) k := fun k z => yI_1n _ _ (fun y => z y.2)
  have co : ∀ o k, o ≠ 128 + p → (yI Sc (128 + p) 11 v).1 o k = Sc.1 o k := fun o k z => yI_1n _ _ (fun y => z y.1)
  have w : ∀ i, i ≠ 19 + 23 * p + 10 → (yA Sm 8 48 (upd (Sm.2.1 8 48) (19 + 23 * p + 10) v)).2.1 8 48 i = Sm.2.1 8 48 i := fun i z => by rw [yA_same, upd_o _ _ z]
  obtain ⟨h1, h2, h3, h4, h5, h6⟩ := h
  refine ⟨by rw [c 13 (by omega)]; exact h1, by rw [c 7 (by omega)]; exact h2, by rw [yI_1s]; exact hv, ?_, by rw [c 12 (by omega), c 18 (by omega)]; exact h5, fun z => ?_⟩
  · rcases h4 with ⟨z1, z2⟩ | ⟨z1, z2, ⟨l, m, M, a1, a2, a3, a4, a5⟩, ⟨q, b1, b2⟩, g, g1, g2, g3, g4, g5, g6, g7⟩
    · exact Or.inl ⟨by rw [c 8 (by omega)]; exact z1, by rw [c 12 (by omega)]; exact z2⟩
    · exact Or.inr ⟨by rw [c 8 (by omega)]; exact z1, by rw [c 12 (by omega)]; exact z2, ⟨l, m, M, by rw [c 9 (by omega)]; exact a1, a2, by rw [c 10 (by omega)]; exact a3, by rw [co _ _ (by omega)]; exact a4, a5⟩, ⟨q, by rw [c 16 (by omega)]; exact b1, b2⟩, g, by rw [c 17 (by omega)]; exact g1, g2, by rw [co _ _ (by omega)]; exact g3, by rw [w _ (by omega), c 17 (by omega)]; exact g4, by rw [w _ (by omega), co _ _ (by omega)]; exact g5, by rw [co _ _ (by omega), c 16 (by omega)]; exact g6, by rw [co _ _ (by omega), c 9 (by omega)]; exact g7⟩
  · rw [c 12 (by omega)] at z
    obtain ⟨n, n1, n2, n3, n4⟩ := h6 z
    exact ⟨n, by rw [c 18 (by omega)]; exact n1, n2, by rw [w _ (by omega), c 18 (by omega)]; exact n3, fun i hi => by rw [w _ (by omega)]; exact n4 i hi⟩
theorem PI_mile {cK : Nat → Nat} {nf nl nq ng p l m' M' : Nat} {Sc Sm : yS} {v : Int32} (h : PI cK nf nl nq ng Sc Sm p) (hal : Sc.1 (128 + p) 8 = -1) (hL : nn (Sc.1 (128 + p) 9) l) (hv : nn v m') (hM : nn (Sc.1 (64 + l) 2) M') (hm : m' ≤ M') (hp : p < 8) (hl : nl ≤ 12) : PI cK nf nl nq ng (yI Sc (128 + p) 10 v) (yA Sm 8 48 (upd (Sm.2.1 8 48) (19 + 23 * p + 2) v)) p := by
  have c : ∀ k, k ≠ 10 → (yI Sc (128 + p) 10 v).1 (128 + p) k = Sc.1 (128 + p) k := fun k z => yI_1n _ _ (fun y => z y.2)
  have co : ∀ o k, o ≠ 128 + p → (yI Sc (128 + p) 10 v).1 o k = Sc.1 o k := fun o k z => yI_1n _ _ (fun y => z y.1)
  have w : ∀ i, i ≠ 19 + 23 * p + 2 → (yA Sm 8 48 (upd (Sm.2.1 8 48) (19 + 23 * p + 2) v)).2.1 8 48 i = Sm.2.1 8 48 i := fun i z => by rw [yA_same, upd_o _ _ z]
  obtain ⟨h1, h2, h3, h4, h5, h6⟩ := h
  refine ⟨by rw [c 13 (by omega)]; exact h1, by rw [c 7 (by omega)]; exact h2, by rw [c 11 (by omega)]; exact h3, ?_, by rw [c 12 (by omega), c 18 (by omega)]; exact h5, fun z => ?_⟩
  · rcases h4 with ⟨⟨f, z1, _⟩, z2⟩ | ⟨z1, z2, ⟨l', m, M, a1, a2, a3, a4, a5⟩, ⟨q, b1, b2⟩, g, g1, g2, g3, g4, g5, g6, g7⟩
    · exact absurd z1.nneg (by rw [hal]; decide)
    · have el := nn_inj hL a1
      subst el
      exact Or.inr ⟨by rw [c 8 (by omega)]; exact z1, by rw [c 12 (by omega)]; exact z2, ⟨l, m', M', by rw [c 9 (by omega)]; exact a1, a2, by rw [yI_1s]; exact hv, by rw [co _ _ (by omega)]; exact hM, hm, a5.2⟩, ⟨q, by rw [c 16 (by omega)]; exact b1, b2⟩, g, by rw [c 17 (by omega)]; exact g1, g2, by rw [co _ _ (by omega)]; exact g3, by rw [w _ (by omega), c 17 (by omega)]; exact g4, by rw [w _ (by omega), co _ _ (by omega)]; exact g5, by rw [co _ _ (by omega), c 16 (by omega)]; exact g6, by rw [co _ _ (by omega), c 9 (by omega)]; exact g7⟩
  · rw [c 12 (by omega)] at z
    obtain ⟨n, n1, n2, n3, n4⟩ := h6 z
    exact ⟨n, by rw [c 18 (by omega)]; exact n1, n2, by rw [w _ (by omega), c 18 (by omega)]; exact n3, fun i hi => by rw [w _ (by omega)]; exact n4 i hi⟩
theorem sWi_r {S M : yS} {k : Nat} (h : RT k S M) (hw : wBd k S) (l q : Int32) : -9 ≤ (sWi S k l q).toInt ∧ (sWi S k l q).toInt ≤ 9 := by
  unfold sWi
  rcases sTl_r S h.2.1 l q with e | ⟨j, hj, hjk⟩
  · rw [if_pos e]
    decide
  · have hne : ¬ sTl S k l q = -1 := fun e => hj.nneg (by rw [e]; decide)
    rw [if_neg hne, hj.nat]
    obtain ⟨a, b⟩ := hw j hjk
    have a' := Int32.le_iff_toInt_le.mp a
    have b' := Int32.le_iff_toInt_le.mp b
    exact ⟨a', b'⟩
/-- how far a plane goes -/
def gOes (s w : Int32) : Int32 := if 1 < s + w then s + w else 1
theorem gOes_nn {s w : Int32} {n : Nat} (hs : nn s n) (h1 : 5 ≤ n) (h2 : n ≤ 60) (hw : -9 ≤ w.toInt ∧ w.toInt ≤ 9) : ∃ G, nn (gOes s w) G ∧ 1 ≤ G ∧ G ≤ 69 := by
  have e : (s + w).toInt = (n : Int) + w.toInt := by
    rw [Int32.toInt_add, hs.int, Int.bmod_eq_of_le] <;> omega
  unfold gOes
  by_cases z : 1 < s + w
  · rw [if_pos z]
    have z' := Int32.lt_iff_toInt_lt.mp z
    rw [show Int32.toInt 1 = 1 from rfl, e] at z'
    have p0 : 0 ≤ s + w := by
      rw [Int32.le_iff_toInt_le, e]
      show (0 : Int) ≤ _
      omega
    have hn := nn_of p0
    have hi := hn.int
    rw [e] at hi
    exact ⟨_, hn, by omega, by omega⟩
  · rw [if_neg z]
    exact ⟨1, nn_l 1 (by decide), by decide, by decide⟩
theorem neg_r {w : Int32} (hw : -9 ≤ w.toInt ∧ w.toInt ≤ 9) : -9 ≤ (-w).toInt ∧ (-w).toInt ≤ 9 := by
  rw [Int32.toInt_neg, Int.bmod_eq_of_le] <;> omega
theorem move_both {cK : Nat → Nat} {N nf nl np nq nb ng p l : Nat} {Sc Sm : yS} {pI v : Int32} (hT : ST cK nf nl np nq nb ng Sc Sm) (hD : DY cK nf nl np nq nb ng Sc Sm) (hN : 120 < N) (hp : p < np) (hpI : nn pI p) (hal : Sc.1 (128 + p) 8 = -1) (hdn : Sc.1 (128 + p) 12 = 0) (a1 : nn (Sc.1 (128 + p) 9) l) (a2 : l < nl) {q : Nat} (b1 : nn (Sc.1 (128 + p) 16) q) (b2 : q < nq) {kt : Nat} (hRT : RT kt Sc Sm) (hWd : wBd kt Sc) (hv : ¬ v = 76) : ∃ Sc' Sm', f_X10_fly_158 N Sc pI (128 + p) (64 + l) (256 + q) v = some (0, Sc') ∧ f_X12_fly_324 N Sm pI (Sc.1 (128 + p) 9) (Sc.1 (128 + p) 16) (Sc.1 (128 + p) 11) (Sc.1 (128 + p) 10) (sCl Sc kt (Sc.1 (128 + p) 9) (Sc.1 2 13)) (sWi Sc kt (Sc.1 (128 + p) 9) (Sc.1 2 13)) = some (0, Sm') ∧ DY cK nf nl np nq nb ng Sc' Sm' ∧ QF cK Sc Sm Sc' Sm' := by
  have hT0 := hT
  have hD0 := hD
  obtain ⟨d1, d2, d3, d4, d5, d6, d7, d8, d9⟩ := hD
  obtain ⟨t1, t2, t3, t4, t5, t6, t7, t8, t9, t10, t11, t12, t13, t14⟩ := hT
  have np8 : p < 8 := by have := t7.1.2.1; omega
  have l12 : l < 12 := by have := t2.2.1; omega
  have nl12 : nl ≤ 12 := t2.2.1
  have q8 : q < 8 := by have := t7.2.1.2.1; omega
  have hPI := d9 p hp
  obtain ⟨i1, i2, i3, i4, i5, i6⟩ := d9 p hp
  rcases i4 with ⟨⟨f, z1, _⟩, _⟩ | ⟨_, i7, ⟨l', m, M, a1', _, a3, a4, a5⟩, _, _⟩
  · exact absurd z1.nneg (by rw [hal]; decide)
  have el := nn_inj a1 a1'
  subst el
  obtain ⟨k, hR⟩ := t2.2.2.2.1 l a2
  obtain ⟨r1, ⟨ra, ra1, ra2⟩, ⟨rb, rb1, rb2⟩, ⟨M', r4, r4a, r4b⟩, r5, r6, r7, r8, r9, r10, r11, r12⟩ := hR
  have eM := nn_inj r4 a4
  subst eM
  obtain ⟨x1, x2, x3, x4, x5, x6, ⟨sp, sp1, sp2, sp3⟩, x8⟩ := t8 p hp
  obtain ⟨_, _, _, _, _, _, lf⟩ := t14 l a2
  have hw := sWi_r hRT hWd (Sc.1 (128 + p) 9) (Sc.1 2 13)
  -- forced
  have hfor : ∃ Sc' Sm', f_X10_fly_212 N Sc (128 + p) = some (0, Sc') ∧ (bS (f_X12_forced N Sm pI) fun w2 S1 => some ((0 : Int32), S1)) = some (0, Sm') ∧ DY cK nf nl np nq nb ng Sc' Sm' ∧ QF cK Sc Sm Sc' Sm' := by
    obtain ⟨Sc', Sm', e1, e2, e3, e4⟩ := forced_both (N := N) hT0 hD0 hN hp hpI hal
    refine ⟨Sc', Sm', ?_, by rw [e2, bS_s], e3 hdn, e4⟩
    unfold f_X10_fly_212 f_X10_fly_253
    rw [e1, bS_s]
  -- goes on, or lands
  have hgo : ∃ Sc' Sm', f_X10_fly_197 N Sc pI (128 + p) (64 + l) v = some (0, Sc') ∧ f_X12_fly_354 N Sm pI (Sc.1 (128 + p) 9) (Sc.1 (128 + p) 11) (Sc.1 (128 + p) 10) (sWi Sc kt (Sc.1 (128 + p) 9) (Sc.1 2 13)) = some (0, Sm') ∧ DY cK nf nl np nq nb ng Sc' Sm' ∧ QF cK Sc Sm Sc' Sm' := by
    unfold f_X10_fly_197 f_X10_fly_198
    rw [if_neg hv, if_pos rfl]
    -- landing
    have hland : ∀ (fl : Int32) (fi : Nat), nn fl fi → fi < nf → cK fi = cK (128 + p) → fl = (if Sc.1 (128 + p) 11 = 0 then Sc.1 (64 + l) 0 else Sc.1 (64 + l) 1) → ∃ Sc' Sm', (bV (f_X3_goal N Sc (64 + l) (Sc.1 (128 + p) 11)) fun w2 => bS (f_X10_comeIn N Sc (128 + p) w2) fun w3 S2 => bS (f_X10_unload N S2 pI w2) fun w4 S3 => f_X10_fly_253 N S3) = some (0, Sc') ∧ (bS (f_X12_land N Sm pI fl) fun w1 S1 => f_X12_fly_462 N S1) = some (0, Sm') ∧ DY cK nf nl np nq nb ng Sc' Sm' ∧ QF cK Sc Sm Sc' Sm' := by
      intro fl fi h1 h2 hcf h3
      obtain ⟨Sc', Sm', e1, e2, e3, e4⟩ := land_both (N := N) hT0 hD0 hN hp hpI hal hdn h1 h2 hcf
      refine ⟨Sc', Sm', ?_, by rw [e2, bS_s]; rfl, e3, e4⟩
      rw [e_goal, bV_s, ← h3]
      cases hc : f_X10_comeIn N Sc (128 + p) fl with
      | none => rw [hc] at e1; cases e1
      | some x =>
        rw [hc] at e1
        have e1' : f_X10_unload N x.2 pI fl = some (0, Sc') := e1
        show (bS (f_X10_unload N x.2 pI fl) fun w4 S3 => f_X10_fly_253 N S3) = some (0, Sc')
        rw [e1', bS_s]
        rfl
    have hreach : f_X10_reachesField N Sc (128 + p) = if gOes (Sc.1 (128 + p) 0) (if Sc.1 (128 + p) 11 = 0 then -(sWi Sc kt (Sc.1 (128 + p) 9) (Sc.1 2 13)) else sWi Sc kt (Sc.1 (128 + p) 9) (Sc.1 2 13)) < (if Sc.1 (128 + p) 11 = 0 then Sc.1 (128 + p) 10 else Sc.1 (64 + l) 2 - Sc.1 (128 + p) 10) then some (0, yI Sc (128 + p) 10 (if Sc.1 (128 + p) 11 = 0 then Sc.1 (128 + p) 10 - gOes (Sc.1 (128 + p) 0) (-(sWi Sc kt (Sc.1 (128 + p) 9) (Sc.1 2 13))) else Sc.1 (128 + p) 10 + gOes (Sc.1 (128 + p) 0) (sWi Sc kt (Sc.1 (128 + p) 9) (Sc.1 2 13)))) else some (1, Sc) := by
      unfold f_X10_reachesField f_X10_reachesField_0 f_X10_windFor f_X10_windFor_0 f_X10_windFor_29 f_X10_reachesField_62
      rw [e_windAt hRT (by omega), bV_s]
      by_cases z : Sc.1 (128 + p) 11 = 0
      · rw [if_pos z, bV_s, gR_nn a1 l12 r1, e_toGo, bV_s, if_pos z, if_pos z, if_pos z, if_pos z, Int32.sub_eq_add_neg]
        rfl
      · rw [if_neg z, bV_s, gR_nn a1 l12 r1, e_toGo, bV_s, if_neg z, if_neg z, if_neg z, if_neg z]
        rfl
    rw [hreach]
    unfold f_X12_fly_354
    rw [gA_nn hpI np8, x2]
    by_cases z : Sc.1 (128 + p) 11 = 0
    · obtain ⟨G, hG, hG1, hG2⟩ := gOes_nn sp1 sp2 sp3 (neg_r hw)
      rw [if_pos z, if_pos z, if_pos z, if_pos z]
      unfold f_X12_fly_374
      rw [if_pos z]
      have e374 : (Sc.1 (128 + p) 10 - if 1 < Sc.1 (128 + p) 0 + -sWi Sc kt (Sc.1 (128 + p) 9) (Sc.1 2 13) then Sc.1 (128 + p) 0 + -sWi Sc kt (Sc.1 (128 + p) 9) (Sc.1 2 13) else 1) = Sc.1 (128 + p) 10 - gOes (Sc.1 (128 + p) 0) (-(sWi Sc kt (Sc.1 (128 + p) 9) (Sc.1 2 13))) := rfl
      rw [e374]
      unfold f_X12_fly_398
      rw [if_pos z]
      unfold f_X12_fly_430
      rw [if_neg (show ¬ ¬ Sc.1 (128 + p) 11 = 0 from fun y => y z)]
      by_cases c : G < m
      · rw [if_pos ((nn_lt hG a3).mpr c), bS_s, if_pos rfl]
        have nd := nn_sub a3 hG (by omega)
        rw [if_pos ((nn_lt (nn_l 0 (by decide)) nd).mpr (by omega))]
        unfold f_X12_fly_454 f_X10_fly_253 f_X12_fly_462
        rw [em_planeW hpI np8 (nn_l 2 (by decide)) (by decide), bS_s]
        exact ⟨_, _, rfl, rfl, DY_pl (j := 2) hD0 t7 nl12 hp (by decide) (PI_mile hPI hal a1 nd a4 (by omega) np8 nl12), FR_I _ _ _ _ (by unfold pQC; omega), FR_A _ _ _ _ ⟨rfl, Or.inr (Or.inl rfl)⟩, fun i a b => by rw [yA_same, upd_o _ _ (by omega)]⟩
      · rw [if_neg (fun y => c ((nn_lt hG a3).mp y)), bS_s, if_neg i10]
        have nle : ¬ 0 < Sc.1 (128 + p) 10 - gOes (Sc.1 (128 + p) 0) (-(sWi Sc kt (Sc.1 (128 + p) 9) (Sc.1 2 13))) := by
          rw [Int32.lt_iff_toInt_lt, Int32.toInt_sub, a3.int, hG.int, Int.bmod_eq_of_le (by omega) (by omega)]
          show ¬ (0 : Int) < _
          omega
        rw [if_neg nle, gA_nn a1 l12, r5]
        obtain ⟨fa, fa1, fa2⟩ := lf.1
        exact hland _ fa fa1 fa2 ((t3.2.1 l a2 fa (Or.inl fa1)).trans a5.2) (by rw [if_pos z])
    · obtain ⟨G, hG, hG1, hG2⟩ := gOes_nn sp1 sp2 sp3 hw
      rw [if_neg z, if_neg z, if_neg z, if_neg z]
      unfold f_X12_fly_374
      rw [if_neg z]
      have e374 : (Sc.1 (128 + p) 10 + if 1 < Sc.1 (128 + p) 0 + sWi Sc kt (Sc.1 (128 + p) 9) (Sc.1 2 13) then Sc.1 (128 + p) 0 + sWi Sc kt (Sc.1 (128 + p) 9) (Sc.1 2 13) else 1) = Sc.1 (128 + p) 10 + gOes (Sc.1 (128 + p) 0) (sWi Sc kt (Sc.1 (128 + p) 9) (Sc.1 2 13)) := rfl
      rw [e374]
      unfold f_X12_fly_398
      rw [if_neg z, gA_nn a1 l12, r7]
      have nM := nn_sub a4 a3 a5.1
      have nd := nn_add a3 hG (by omega)
      by_cases c : m + G < M'
      · rw [if_pos ((nn_lt hG nM).mpr (by omega)), bS_s, if_pos rfl, if_pos ((nn_lt nd a4).mpr c)]
        unfold f_X12_fly_430
        rw [if_pos z]
        unfold f_X12_fly_454 f_X10_fly_253 f_X12_fly_462
        rw [em_planeW hpI np8 (nn_l 2 (by decide)) (by decide), bS_s]
        exact ⟨_, _, rfl, rfl, DY_pl (j := 2) hD0 t7 nl12 hp (by decide) (PI_mile hPI hal a1 nd a4 (by omega) np8 nl12), FR_I _ _ _ _ (by unfold pQC; omega), FR_A _ _ _ _ ⟨rfl, Or.inr (Or.inl rfl)⟩, fun i a b => by rw [yA_same, upd_o _ _ (by omega)]⟩
      · rw [if_neg (fun y => by have := (nn_lt hG nM).mp y; omega), bS_s, if_neg i10, if_neg (fun y => c ((nn_lt nd a4).mp y)), gA_nn a1 l12, r6]
        obtain ⟨fa, fa1, fa2⟩ := lf.2
        exact hland _ fa fa1 fa2 ((t3.2.1 l a2 fa (Or.inr fa1)).trans a5.2) (by rw [if_neg z])
  unfold f_X10_fly_158 f_X12_fly_324
  rw [e_cloudAt hRT (by omega), bV_s, gA_nn a1 l12, r8]
  by_cases c1 : Sc.1 (64 + l) 3 ≤ sCl Sc kt (Sc.1 (128 + p) 9) (Sc.1 2 13)
  · rw [if_pos c1, if_pos c1]
    exact hgo
  · rw [if_neg c1, if_neg c1, e_knows, bV_s, em_pilR b1 q8 (nn_l 3 (by decide)) (by decide), bV_s, d6 q b2 3 (by decide)]
    show ∃ Sc' Sm', (if ¬ kBit (Sc.1 (256 + q) 3) (Sc.1 (128 + p) 9) = 0 then _ else _) = some (0, Sc') ∧ (if ¬ kBit (Sc.1 (256 + q) 3) (Sc.1 (128 + p) 9) = 0 then _ else _) = some (0, Sm') ∧ _
    by_cases c2 : kBit (Sc.1 (256 + q) 3) (Sc.1 (128 + p) 9) = 0
    · rw [if_neg (fun y => y c2), if_neg (fun y => y c2)]
      unfold f_X10_fly_198
      rw [if_neg hv, if_neg i10]
      exact hfor
    · rw [if_pos c2, if_pos c2]
      exact hgo
