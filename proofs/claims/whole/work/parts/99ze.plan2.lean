/-! PLAN, the call -/
theorem shl_n {kI : Int32} {k : Nat} (h : nn kI k) (k6 : k ≤ 6) : nn (1 <<< (kI &&& 31)) (2 ^ k) := by
  rw [h.1]
  rcases (show k = 0 ∨ k = 1 ∨ k = 2 ∨ k = 3 ∨ k = 4 ∨ k = 5 ∨ k = 6 by omega) with rfl | rfl | rfl | rfl | rfl | rfl | rfl <;> exact ⟨by decide, by decide⟩
/-- the ends of both loops -/
def pEndC (S : yS) (b : Int32) : yS := yI (yA S 0 7 (upd (S.2.1 0 7) 0 b)) 0 8 1
def pEndM (M : yS) (b : Int32) : yS := yI (yA M 8 45 (upd (M.2.1 8 45) 0 b)) 8 46 1
theorem mask_loop {cK : Nat → Nat} {N kw nf nl np nq nb ng k t q : Nat} {g : Nat → Nat} {O OM : yS} {kI l1 : Int32} (hN : 2400 < N) (hB : TB cK kw nf nl np nq nb ng O OM) (hk : nn kI k) (k6 : k ≤ 6) (hW : WL ng k g O OM) (hg : ∀ j, j < k → O.1 (512 + g j) 4 = 0) (ht : nn (O.1 2 13) t) (hq : nn l1 q) (q2 : q ≤ 200) (h3 : t + q ≤ 3000) : ∀ (d i n m : Nat) (S M : yS) (bc bm v : Int32), i + d = 2 ^ k → d < n → d < m → TS cK nf nl np nq nb ng O OM S M → RSd np nq nb ng O S → ((i = 0 ∧ bm = -1) ∨ (0 < i ∧ bc = bm ∧ ¬ bm = -1)) → (i = 2 ^ k → bc = bm) → ∃ v' b' S' M', f_X11_plan_40 n N S l1 kI bc v (Int32.ofNat i) = some (v', pEndC S' b') ∧ f_X12_plan_76 m N M l1 kI bm v (Int32.ofNat i) = some (v', pEndM M' b') ∧ TS cK nf nl np nq nb ng O OM S' M' ∧ kR S M S' M' := by
  have hsh := shl_n hk k6
  have p64 : 2 ^ k ≤ 64 := Nat.le_trans (Nat.pow_le_pow_right (by decide) k6) (by decide)
  intro d
  induction d with
  | zero =>
    intro i n m S M bc bm v hi hn hm hS hR hb he
    obtain ⟨n, rfl⟩ : ∃ x, n = x + 1 := ⟨n - 1, by omega⟩
    obtain ⟨m, rfl⟩ : ∃ x, m = x + 1 := ⟨m - 1, by omega⟩
    have le := (nn_le hsh (nn_lit i (by omega))).mpr (by omega)
    have e := he (by omega)
    subst e
    refine ⟨v, bc, S, M, ?_, ?_, hS, kR_FR (FR_refl (fun _ _ => False) S) (FR_refl (fun _ _ => False) M) (fun _ z => z) (fun _ _ _ z => z)⟩
    · rw [f_X11_plan_40, if_pos le, gA_nn (nn_l 0 (by decide)) (by decide), sq_s, sq_s]
      rfl
    · rw [f_X12_plan_76, if_pos le, gA_nn (nn_l 0 (by decide)) (by decide), sq_s, sq_s]
      rfl
  | succ d ih =>
    intro i n m S M bc bm v hi hn hm hS hR hb he
    obtain ⟨n, rfl⟩ : ∃ x, n = x + 1 := ⟨n - 1, by omega⟩
    obtain ⟨m, rfl⟩ : ∃ x, m = x + 1 := ⟨m - 1, by omega⟩
    have ni := nn_lit i (by omega)
    have nle : ¬ (1 <<< (kI &&& 31)) ≤ Int32.ofNat i := fun z => by have := (nn_le hsh ni).mp z; omega
    obtain ⟨sT, sD, sF, sG⟩ := id hS
    have hW1 : WL ng k g S M := ⟨fun j hj => by
      rw [(sF 9 0 (by unfold pKT pQH pQC; omega)).2, (sG 10 0 (by unfold pKM; omega)).2]
      exact hW.1 j hj, hW.2⟩
    obtain ⟨S1, M1, a1, ⟨m', a2, a2'⟩, a3, a4, a5⟩ := others_loop (N := N) (l1 := l1) (l4 := bm) (l5 := v) (mask := Int32.ofNat i) (k76 := fun S l1 l3 l4 l5 l6 => f_X12_plan_76 m N S l1 l3 l4 l5 l6) hk k6 k 0 N N S M (by omega) (by omega) (by omega) sT sD hW1 (fun j _ hj => by
      have hgn := (hW.1 j hj).2.2
      rw [hR.2.2.2.2.2.2 (g j) hgn 4 (by decide)]
      exact hg j hj)
    have t1 : nn (S1.1 2 13) t := by rw [QF_now a5, hR.1]; exact ht
    have hS1 := TS_QH hS a3 a4 (QH_of a5)
    obtain ⟨S2, M2, g1, g2, g3, g4, g5, g6⟩ := go_both (N := N) (by omega) (by omega) hq a3 a4 t1 h3
    have hS2 := TS_QH hS1 g3 g4 g6
    obtain ⟨c, S3, M3, S4, M4, e1, e2, e3, e4, e5, e6, e7, e8⟩ := end_trial hN hB hS2
    have kk : kR S M S4 M4 := kR_trans (kR_QF a5) (kR_trans (kR_QH g6) e8)
    obtain ⟨m', rfl⟩ : ∃ x, m' = x + 1 := ⟨m' - 1, by omega⟩
    have nil : Int32.ofNat i = 0 ↔ i = 0 := nn_eq ni (nn_l 0 (by decide))
    have cm : ∀ x : Int32, ∃ w, (∀ X : yS, f_J6_bitCount_0f7a4 N X x = some w) := fun x => ⟨_, fun X => rfl⟩
    obtain ⟨w5, h5⟩ := cm (Int32.ofNat i)
    obtain ⟨w6, h6⟩ := cm bc
    -- both up to the comparison
    have hc : f_X11_plan_40 (n + 1) N S l1 kI bc v (Int32.ofNat i) = if ¬ c = v then f_X11_plan_107 N (fun S l1 l3 l4 l5 l6 => f_X11_plan_40 n N S l1 l3 l4 l5 l6) S4 l1 kI bc v (Int32.ofNat i) c else if w6 ≤ w5 then f_X11_plan_107 N (fun S l1 l3 l4 l5 l6 => f_X11_plan_40 n N S l1 l3 l4 l5 l6) S4 l1 kI bc v (Int32.ofNat i) c else f_X11_plan_108 N (fun S l1 l3 l4 l5 l6 => f_X11_plan_40 n N S l1 l3 l4 l5 l6) S4 l1 kI bc v (Int32.ofNat i) c 1 := by
      rw [f_X11_plan_40, if_neg nle]
      have a1' : f_X10_giveUpOthers N S kI (Int32.ofNat i) = some (0, S1) := a1
      rw [a1', bS_s, g1, bS_s, e1, bS_s, e3, bS_s, h5, bV_s, h6, bV_s]
    have hm' : f_X12_plan_76 (m + 1) N M l1 kI bm v (Int32.ofNat i) = if bm = -1 then f_X12_plan_166 N (fun S l1 l3 l4 l5 l6 => f_X12_plan_76 m N S l1 l3 l4 l5 l6) M4 l1 kI bm v (Int32.ofNat i) c else if v < c then f_X12_plan_166 N (fun S l1 l3 l4 l5 l6 => f_X12_plan_76 m N S l1 l3 l4 l5 l6) M4 l1 kI bm v (Int32.ofNat i) c else if ¬ c = v then f_X12_plan_170 N (fun S l1 l3 l4 l5 l6 => f_X12_plan_76 m N S l1 l3 l4 l5 l6) M4 l1 kI bm v (Int32.ofNat i) c else bV (f_J6_bitCount_0f7a4 N M4 (Int32.ofNat i)) fun w4 => bV (f_J6_bitCount_0f7a4 N M4 bm) fun w5 => if w5 ≤ w4 then f_X12_plan_170 N (fun S l1 l3 l4 l5 l6 => f_X12_plan_76 m N S l1 l3 l4 l5 l6) M4 l1 kI bm v (Int32.ofNat i) c else f_X12_plan_166 N (fun S l1 l3 l4 l5 l6 => f_X12_plan_76 m N S l1 l3 l4 l5 l6) M4 l1 kI bm v (Int32.ofNat i) c := by
      rw [f_X12_plan_76, if_neg nle]
      have a2'' : f_X12_plan_87 N N (fun S l1 l3 l4 l5 l6 => f_X12_plan_76 m N S l1 l3 l4 l5 l6) M l1 kI bm v (Int32.ofNat i) 0 = f_X12_plan_87 (m' + 1) N (fun S l1 l3 l4 l5 l6 => f_X12_plan_76 m N S l1 l3 l4 l5 l6) M1 l1 kI bm v (Int32.ofNat i) (Int32.ofNat k) := a2'
      rw [a2'', f_X12_plan_87, if_pos (by rw [← hk.1]; exact Int32.le_refl _), g2, bS_s, e2, bS_s, e4, bS_s]
    -- the two ways on
    have up := ih (i + 1) n m S4 M4 (Int32.ofNat i) (Int32.ofNat i) c (by omega) (by omega) (by omega) e5 e6 (Or.inr ⟨by omega, rfl, fun z => ni.nneg (by rw [z]; decide)⟩) (fun _ => rfl)
    rw [hc, hm']
    unfold f_X11_plan_107 f_X11_plan_108 f_X11_plan_127 f_X11_plan_135 f_X12_plan_166 f_X12_plan_170 f_X12_plan_171 f_X12_plan_189
    rw [y_int1]
    have fin : (∃ v' b' S' M', f_X11_plan_40 n N S4 l1 kI (Int32.ofNat i) c (Int32.ofNat (i + 1)) = some (v', pEndC S' b') ∧ f_X12_plan_76 m N M4 l1 kI (Int32.ofNat i) c (Int32.ofNat (i + 1)) = some (v', pEndM M' b') ∧ TS cK nf nl np nq nb ng O OM S' M' ∧ kR S M S' M') := by
      obtain ⟨v', b', S', M', u1, u2, u3, u4⟩ := up
      exact ⟨v', b', S', M', u1, u2, u3, kR_trans kk u4⟩
    by_cases i0 : i = 0
    · have bm1 : bm = -1 := by
        rcases hb with ⟨_, z⟩ | ⟨z, _⟩
        · exact z
        · omega
      rw [if_pos (nil.mpr i0), if_pos (nil.mpr i0), if_pos bm1, if_pos (show ¬ (1 : Int32) = 0 by decide)]
      by_cases z : c = v
      · rw [if_neg (fun y => y z)]
        by_cases y : w6 ≤ w5
        · rw [if_pos y]; exact fin
        · rw [if_neg y]; exact fin
      · rw [if_pos z]; exact fin
    · obtain ⟨_, be, bn⟩ : 0 < i ∧ bc = bm ∧ ¬ bm = -1 := by
        rcases hb with ⟨z, _⟩ | z
        · exact absurd z i0
        · exact z
      subst be
      have keep : (∃ v' b' S' M', f_X11_plan_40 n N S4 l1 kI bc v (Int32.ofNat (i + 1)) = some (v', pEndC S' b') ∧ f_X12_plan_76 m N M4 l1 kI bc v (Int32.ofNat (i + 1)) = some (v', pEndM M' b') ∧ TS cK nf nl np nq nb ng O OM S' M' ∧ kR S M S' M') := by
        obtain ⟨v', b', S', M', u1, u2, u3, u4⟩ := ih (i + 1) n m S4 M4 bc bc v (by omega) (by omega) (by omega) e5 e6 (Or.inr ⟨by omega, rfl, bn⟩) (fun _ => rfl)
        exact ⟨v', b', S', M', u1, u2, u3, kR_trans kk u4⟩
      rw [if_neg (fun z => i0 (nil.mp z)), if_neg (fun z => i0 (nil.mp z)), if_neg bn]
      by_cases z : v < c
      · have ne : ¬ c = v := fun y => by rw [y] at z; exact Int32.lt_irrefl z
        rw [if_pos ne, if_pos z, if_pos z, if_pos (show ¬ (1 : Int32) = 0 by decide)]
        exact fin
      · rw [if_neg z, if_neg z]
        by_cases y : c = v
        · simp only [if_neg (show ¬ ¬ c = v from fun x => x y)]
          rw [h5, bV_s, h6, bV_s]
          by_cases w : w6 ≤ w5
          · simp only [if_pos w, if_neg z, if_true, not_true_eq_false, if_false]
            exact keep
          · simp only [if_neg w, if_neg z, if_neg (show ¬ (1 : Int32) = 0 by decide), if_pos (show ¬ (1 : Int32) = 0 by decide)]
            exact fin
        · simp only [if_pos y, if_neg z, if_true, not_true_eq_false, if_false]
          exact keep
theorem C_plan {N : Nat} {Sc Sm : yS} (h : RAe Sc Sm) (hN : 2400 < N) (l : Int32) : cAll (f_X11_plan N Sc l) (f_X12_plan N Sm l) := by
  have h1 := RA_clear h
  obtain ⟨cK0, nf, nl, np, nq, nb, ng, r, x, hA⟩ := h
  obtain ⟨hT1, hD1⟩ := clear_both hA.1 hA.2.1
  obtain ⟨t, ht, t3⟩ := hD1.2.2.1
  obtain ⟨c1, c2⟩ := e_try (N := N) (S := Sc) (l := l)
  obtain ⟨m1, m2⟩ := em_try (N := N) (S := yI Sm 8 47 0) (l := l) hD1.1
  have ng24 : ng ≤ 24 := hT1.2.2.2.2.2.2.1.2.2.2.2.1
  unfold f_X11_plan f_X11_plan_0 f_X12_plan f_X12_plan_0
  rw [sq_s]
  by_cases ok : okTr (Sc.1 2 13) l
  · obtain ⟨q, q1, q2, q3⟩ := okTr_n ht t3 ok
    rw [c1 ok, bV_s, if_pos (show ¬ (1 : Int32) = 0 by decide), sq_s, m1 ok, bV_s, if_pos (show ¬ (1 : Int32) = 0 by decide), sq_s]
    have F0 : FR (fun o _ => o = 9) Sc (yNw Sc 9 fun _ => 0) := fun o k z => ⟨congrFun (yNw_o z).1 k, congrFun (yNw_o z).2 k⟩
    have G0 : FR (fun o _ => o = 10) (yI Sm 8 47 0) (yNw (yI Sm 8 47 0) 10 fun _ => 0) := fun o k z => ⟨congrFun (yNw_o z).1 k, congrFun (yNw_o z).2 k⟩
    obtain ⟨hT2, hD2⟩ := row_ST hT1 hD1 (FR_mono F0 (fun o k z => by unfold pRC; omega)) (FR_mono G0 (fun o k z => by unfold pRM; omega))
    obtain ⟨S1, M1, k, g, w1, w2, w3, w4, w5, w6, w7⟩ := wait_loop (N := N) (l1 := l) (KM := fun S l1 l3 => f_X12_plan_63 N S l1 l3) (fun _ _ _ => rfl) ng 0 N N 0 (fun _ => 0) _ _ (by omega) (by omega) (by omega) (Nat.le_refl _) (by decide) hT2 hD2 ⟨fun i hi => by omega, fun i j _ hj => by omega⟩ (fun j hj => by omega)
    obtain ⟨hT3, hD3⟩ := row_ST hT2 hD2 (FR_mono w6 (fun o k z => by unfold pRC; omega)) (FR_mono w7 (fun o k z => by unfold pRM; omega))
    obtain ⟨cK, O, OM, kw, k1, k2, k3, k4, k5, k6, k7, k8, k9, k10, k11, k12⟩ := keep_both hN hT3 hD3
    have t13 : O.1 2 13 = Sc.1 2 13 := by rw [(k12 2 13 (by unfold pKK; omega)).1, (w6 2 13 (by omega)).1, (F0 2 13 (by omega)).1]
    have tO : nn (O.1 2 13) t := by rw [t13]; exact ht
    have hB : TB cK kw nf nl np nq nb ng O OM := ⟨k3, k4, k5, k9, k10, k11⟩
    have hO9 : O.2.1 9 0 = S1.2.1 9 0 := (k12 9 0 (by unfold pKK; omega)).2
    have hWO : WL ng k g O OM := by
      obtain ⟨A, hA1, _⟩ := aside_m (N := N) (S := M1) hN
      have eOM : OM = yA M1 8 49 A := by
        rw [hA1] at k2
        exact ((Prod.mk.inj (Option.some.inj k2)).2).symm
      refine ⟨fun j hj => ?_, w4.2⟩
      rw [hO9, eOM, yA_2n _ _ (by decide)]
      exact w4.1 j hj
    have hgO : ∀ j, j < k → O.1 (512 + g j) 4 = 0 := fun j hj => by
      have := (w4.1 j hj).2.2
      rw [(k12 _ 4 (by unfold pKK; omega)).1]
      exact w5 j hj
    have p64 : 2 ^ k ≤ 64 := Nat.le_trans (Nat.pow_le_pow_right (by decide) w3) (by decide)
    have p1 : 1 ≤ 2 ^ k := Nat.one_le_two_pow
    obtain ⟨v, b, S', M', f1, f2, f3, f4⟩ := mask_loop (N := N) hN hB (nn_lit k (by omega)) w3 hWO hgO tO q1 q2 q3 (2 ^ k) 0 N N O OM 0 (-1) 0 (by omega) (by omega) (by omega) ⟨k3, k4, FR_refl _ _, FR_refl _ _⟩ ⟨rfl, rfl, rfl, fun _ _ _ _ => rfl, fun _ _ _ _ => rfl, fun _ _ _ _ => rfl, fun _ _ _ _ => rfl⟩ (Or.inl ⟨rfl, rfl⟩) (fun z => by omega)
    obtain ⟨a1, a2⟩ := out_trial hA k7 f3.1 f3.2.1
    have kk : kR Sc Sm S' M' := kR_trans kR_cl (kR_trans (kR_FR F0 G0 (fun k z => by omega) (fun k a b z => by omega)) (kR_trans (kR_FR w6 w7 (fun k z => by omega) (fun k a b z => by omega)) (kR_trans k6 f4)))
    obtain ⟨b1, b2⟩ := row_ST (Sc' := pEndC S' b) (Sm' := pEndM M' b) a1 a2 (FR_trans (FR_A _ _ _ _ (by unfold pRC; omega)) (FR_I _ _ _ _ (by unfold pRC; omega))) (FR_trans (FR_A _ _ _ _ (by unfold pRM; omega)) (FR_I _ _ _ _ (by unfold pRM; omega)))
    refine ⟨v, pEndC S' b, pEndM M' b, ?_, ?_, cK0, nf, nl, np, nq, nb, ng, 1, x, b1, b2, ⟨?_, by decide, ?_, fun i hi => ?_⟩, ?_, hA.2.2.2.2⟩
    · have w1' : f_X10_listWaiting N (yNw Sc 9 fun _ => 0) = some (Int32.ofNat k, S1) := w1
      rw [w1', bS_s, k1, bS_s]
      exact f1
    · refine Eq.trans w2 ?_
      unfold f_X12_plan_63
      rw [k2, bS_s]
      exact f2
    · show nn ((yI _ 0 8 1).1 0 8) 1
      rw [yI_1s]; exact nn_l 1 (by decide)
    · show (yI _ 8 46 1).1 8 46 = (yI _ 0 8 1).1 0 8
      rw [yI_1s, yI_1s]
    · have e : i = 0 := by omega
      subst e
      show (yI (yA M' 8 45 (upd (M'.2.1 8 45) 0 b)) 8 46 1).2.1 8 45 0 = (yI (yA S' 0 7 (upd (S'.2.1 0 7) 0 b)) 0 8 1).2.1 0 7 0
      rw [yI_2, yI_2, yA_same, yA_same, upd_s, upd_s]
    · exact K_RX hA.2.2.2.1 ⟨((yI_1n _ _ (by decide)).trans rfl).trans (kk.1 5).1, (yA_2n _ _ (by decide)).trans (kk.1 5).2⟩ ⟨((yI_1n _ _ (by decide)).trans rfl).trans (kk.1 6).1, (yA_2n _ _ (by decide)).trans (kk.1 6).2⟩ ⟨((yI_1n _ _ (by decide)).trans rfl).trans (kk.2 43 (by decide) (by decide)).1, (yA_2n _ _ (by decide)).trans (kk.2 43 (by decide) (by decide)).2⟩ ⟨((yI_1n _ _ (by decide)).trans rfl).trans (kk.2 44 (by decide) (by decide)).1, (yA_2n _ _ (by decide)).trans (kk.2 44 (by decide) (by decide)).2⟩
  · rw [c2 ok, bV_s, sq_s, m2 ok, bV_s, if_neg (show ¬ ¬ (0 : Int32) = 0 from fun w => w rfl), if_neg (show ¬ ¬ (0 : Int32) = 0 from fun w => w rfl)]
    exact ⟨-1, _, _, rfl, rfl, h1⟩
