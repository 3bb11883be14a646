/-! ASKS: who, of, where -/
theorem who_both {cK : Nat → Nat} {N nf nl np nq nb ng : Nat} {Sc Sm : yS} {qI k : Int32} (hT : ST cK nf nl np nq nb ng Sc Sm) (hD : DY cK nf nl np nq nb ng Sc Sm) : (∃ v, f_X11_who N Sc qI k = some (some v, Sc) ∧ f_X12_who N Sm qI k = some (v, yI Sm 8 47 0)) ∨ (f_X11_who N Sc qI k = some (none, Sc) ∧ f_X12_who N Sm qI k = some (0, yI (yI Sm 8 47 0) 8 47 1)) := by
  obtain ⟨t1, t2, t3, t4, t5, t6, t7, t8, t9, t10, t11, t12, t13, t14⟩ := id hT
  have g22 : (yI Sm 8 47 0).1 8 22 = Sc.1 2 7 := t7.2.1.2.2
  unfold f_X11_who f_X11_who_0 f_X12_who f_X12_who_0 f_X12_who_31 f_X12_who_35 f_X12_lost f_X12_lost_0
  rw [e_isPilot, bV_s, sq_s, em_isPilot, bV_s, g22]
  by_cases c : 0 ≤ qI ∧ qI ≤ Sc.1 2 7 - 1
  · obtain ⟨q, q1, q2⟩ := nn_idx t7.2.1.1 c
    have q8 : q < 8 := by have := t7.2.1.2.1; omega
    have u : ∀ j, j < 4 → (yI Sm 8 47 0).2.1 8 48 (203 + 4 * q + j) = Sc.1 (256 + q) j := hD.2.2.2.2.2.1 q q2
    rw [b01_t c, if_pos (show ¬ (1 : Int32) = 0 by decide), if_neg (show ¬ (1 : Int32) = 0 by decide), gR_nn q1 q8 (t9 q q2), e_in, bV_s]
    by_cases d : 0 ≤ k ∧ k ≤ 3
    · have hk := nn_of d.1
      have k1 := (nn_le hk (nn_l 3 (by decide))).mp d.2
      generalize k.toNatClampNeg = kn at hk k1
      rw [b01_t d, if_neg (show ¬ (1 : Int32) = 0 by decide), em_pilR q1 q8 hk (by omega), bV_s, u kn (by omega)]
      left
      have ek := hk.1
      rcases (show kn = 0 ∨ kn = 1 ∨ kn = 2 ∨ kn = 3 by omega) with rfl | rfl | rfl | rfl
      · rw [if_pos (show k = 0 from ek)]
        exact ⟨_, rfl, rfl⟩
      · rw [if_neg (show ¬ k = 0 by rw [ek]; decide), if_pos (show k = 1 from ek)]
        exact ⟨_, rfl, rfl⟩
      · rw [if_neg (show ¬ k = 0 by rw [ek]; decide), if_neg (show ¬ k = 1 by rw [ek]; decide), if_pos (show k = 2 from ek)]
        exact ⟨_, rfl, rfl⟩
      · rw [if_neg (show ¬ k = 0 by rw [ek]; decide), if_neg (show ¬ k = 1 by rw [ek]; decide), if_neg (show ¬ k = 2 by rw [ek]; decide), if_pos (show k = 3 from ek)]
        exact ⟨_, rfl, rfl⟩
    · right
      rw [b01_f d, if_pos rfl, if_neg (show ¬ k = 0 from fun z => d (by rw [z]; decide)), if_neg (show ¬ k = 1 from fun z => d (by rw [z]; decide)), if_neg (show ¬ k = 2 from fun z => d (by rw [z]; decide)), if_neg (show ¬ k = 3 from fun z => d (by rw [z]; decide))]
      exact ⟨rfl, rfl⟩
  · right
    rw [b01_f c, if_neg (show ¬ ¬ (0 : Int32) = 0 from fun w => w rfl), if_pos rfl]
    exact ⟨rfl, rfl⟩
theorem weight_loop {N nb : Nat} {Sc Sm : yS} {pI : Int32} (h1 : nn (Sc.1 2 9) nb) (hm : Sm.1 8 28 = Sc.1 2 9) (nb30 : nb ≤ 30) (hx : ∀ b, b < nb → Sc.2.1 2 8 b = 1 ∧ Sm.2.1 8 25 b = Sc.1 (384 + b) 2 ∧ Sm.2.1 8 48 (235 + 37 * b + 1) = Sc.1 (384 + b) 6) : ∀ (d i m m' : Nat) (acc : Int32), i + d = nb → d < m → d < m' → ∃ v, f_X10_weightOn_4 m N Sc pI acc (Int32.ofNat i) = some v ∧ f_X12_of_147 m' N Sm pI acc (Int32.ofNat i) = some (v, Sm) := by
  intro d
  induction d with
  | zero =>
    intro i m m' acc hi a b
    obtain ⟨m, rfl⟩ : ∃ x, m = x + 1 := ⟨m - 1, by omega⟩
    obtain ⟨m', rfl⟩ : ∃ x, m' = x + 1 := ⟨m' - 1, by omega⟩
    have le := (nn_le h1 (nn_lit i (by omega))).mpr (by omega)
    rw [f_X10_weightOn_4, if_pos le, f_X12_of_147, hm, if_pos le]
    exact ⟨acc, rfl, rfl⟩
  | succ d ih =>
    intro i m m' acc hi a b
    obtain ⟨m, rfl⟩ : ∃ x, m = x + 1 := ⟨m - 1, by omega⟩
    obtain ⟨m', rfl⟩ : ∃ x, m' = x + 1 := ⟨m' - 1, by omega⟩
    have ni := nn_lit i (by omega)
    have nle : ¬ Sc.1 2 9 ≤ Int32.ofNat i := fun q => by have := (nn_le h1 ni).mp q; omega
    obtain ⟨x1, x2, x3⟩ := hx i (by omega)
    rw [f_X10_weightOn_4, if_neg nle, gR_nn ni (by omega) x1, f_X12_of_147, hm, if_neg nle, em_bagOf ni (by omega) (nn_l 1 (by decide)) (by decide), bV_s, x3]
    unfold f_X10_weightOn_39 f_X12_of_177
    rw [y_int1]
    by_cases z : Sc.1 (384 + i) 6 = pI
    · rw [if_neg (fun q => q z), if_neg (fun q => q z), gR_nn ni (by omega) x1, gA_nn ni (by omega), x2]
      exact ih (i + 1) m m' _ (by omega) (by omega) (by omega)
    · rw [if_pos z, if_pos z, Int32.add_zero]
      exact ih (i + 1) m m' acc (by omega) (by omega) (by omega)
theorem of_both {cK : Nat → Nat} {N nf nl np nq nb ng : Nat} {Sc Sm : yS} {pI k : Int32} (hN : 60 < N) (hT : ST cK nf nl np nq nb ng Sc Sm) (hD : DY cK nf nl np nq nb ng Sc Sm) : (∃ v, f_X11_of N Sc pI k = some (some v, Sc) ∧ f_X12_of N Sm pI k = some (v, yI Sm 8 47 0)) ∨ (f_X11_of N Sc pI k = some (none, Sc) ∧ f_X12_of N Sm pI k = some (0, yI (yI Sm 8 47 0) 8 47 1)) := by
  obtain ⟨t1, t2, t3, t4, t5, t6, t7, t8, t9, t10, t11, t12, t13, t14⟩ := id hT
  have nb30 : nb ≤ 30 := t7.2.2.1.2.1
  have g21 : (yI Sm 8 47 0).1 8 21 = Sc.1 2 5 := t7.1.2.2
  unfold f_X11_of f_X11_of_0 f_X11_of_115 f_X11_of_180 f_X12_of f_X12_of_0 f_X12_of_23 f_X12_of_239 f_X12_lost f_X12_lost_0
  rw [e_isPlane, bV_s, sq_s, em_isPlane, bV_s, g21]
  by_cases c : 0 ≤ pI ∧ pI ≤ Sc.1 2 5 - 1
  · obtain ⟨p, p1, p2⟩ := nn_idx t7.1.1 c
    have p8 : p < 8 := by have := t7.1.2.1; omega
    have u : ∀ j kk, j < 12 → pS j = kk → (yI Sm 8 47 0).2.1 8 48 (19 + 23 * p + j) = Sc.1 (128 + p) kk := fun j kk hj hk => by rw [← hk]; exact hD.2.2.2.2.1 p p2 j hj
    rw [b01_t c, if_pos (show ¬ (1 : Int32) = 0 by decide), if_neg (show ¬ (1 : Int32) = 0 by decide), gR_nn p1 p8 (t8 p p2).1, e_in, bV_s]
    by_cases d : 0 ≤ k ∧ k ≤ 10
    · have hk := nn_of d.1
      have k1 := (nn_le hk (nn_l 10 (by decide))).mp d.2
      generalize k.toNatClampNeg = kn at hk k1
      rw [b01_t d, if_pos (show ¬ (1 : Int32) = 0 by decide)]
      left
      have ek := hk.1
      obtain ⟨i1, i2, i3, i4, i5, i6⟩ := hD.2.2.2.2.2.2.2.2 p p2
      rcases (show kn = 0 ∨ kn = 1 ∨ kn = 2 ∨ kn = 3 ∨ kn = 4 ∨ kn = 5 ∨ kn = 6 ∨ kn = 7 ∨ kn = 8 ∨ kn = 9 ∨ kn = 10 by omega) with rfl | rfl | rfl | rfl | rfl | rfl | rfl | rfl | rfl | rfl | rfl
      · have e : k = 0 := ek
        subst e
        rw [if_pos rfl, if_pos rfl, em_planeR p1 p8 (nn_l 0 (by decide)) (by decide), bV_s, u 0 8 (by decide) rfl]
        exact ⟨_, rfl, rfl⟩
      · have e : k = 1 := ek
        subst e
        rw [if_neg (show ¬ (1 : Int32) = 0 by decide), if_neg (show ¬ (1 : Int32) = 0 by decide), if_pos rfl, if_pos rfl, em_planeR p1 p8 (nn_l 1 (by decide)) (by decide), bV_s, u 1 9 (by decide) rfl]
        exact ⟨_, rfl, rfl⟩
      · have e : k = 2 := ek
        subst e
        rw [if_neg (show ¬ (2 : Int32) = 0 by decide), if_neg (show ¬ (2 : Int32) = 0 by decide), if_neg (show ¬ (2 : Int32) = 1 by decide), if_neg (show ¬ (2 : Int32) = 1 by decide), if_pos rfl, if_pos rfl, em_planeR p1 p8 (nn_l 2 (by decide)) (by decide), bV_s, u 2 10 (by decide) rfl]
        exact ⟨_, rfl, rfl⟩
      · have e : k = 3 := ek
        subst e
        rw [if_neg (show ¬ (3 : Int32) = 0 by decide), if_neg (show ¬ (3 : Int32) = 0 by decide), if_neg (show ¬ (3 : Int32) = 1 by decide), if_neg (show ¬ (3 : Int32) = 1 by decide), if_neg (show ¬ (3 : Int32) = 2 by decide), if_neg (show ¬ (3 : Int32) = 2 by decide), if_pos rfl, if_pos rfl, em_planeR p1 p8 (nn_l 3 (by decide)) (by decide), bV_s, u 3 12 (by decide) rfl]
        have hd : Sc.1 (128 + p) 12 = 0 ∨ Sc.1 (128 + p) 12 = 1 := by
          rcases i4 with ⟨_, z⟩ | ⟨_, z, _⟩
          · exact Or.inl z
          · exact z
        rcases hd with z | z
        · rw [if_pos z, z]
          exact ⟨_, rfl, rfl⟩
        · rw [if_neg (show ¬ Sc.1 (128 + p) 12 = 0 by rw [z]; decide), z]
          exact ⟨_, rfl, rfl⟩
      · have e : k = 4 := ek
        subst e
        rw [if_neg (show ¬ (4 : Int32) = 0 by decide), if_neg (show ¬ (4 : Int32) = 0 by decide), if_neg (show ¬ (4 : Int32) = 1 by decide), if_neg (show ¬ (4 : Int32) = 1 by decide), if_neg (show ¬ (4 : Int32) = 2 by decide), if_neg (show ¬ (4 : Int32) = 2 by decide), if_neg (show ¬ (4 : Int32) = 3 by decide), if_neg (show ¬ (4 : Int32) = 3 by decide), if_pos rfl, if_pos rfl, em_planeR p1 p8 (nn_l 4 (by decide)) (by decide), bV_s, u 4 13 (by decide) rfl]
        exact ⟨_, rfl, rfl⟩
      · have e : k = 5 := ek
        subst e
        rw [if_neg (show ¬ (5 : Int32) = 0 by decide), if_neg (show ¬ (5 : Int32) = 0 by decide), if_neg (show ¬ (5 : Int32) = 1 by decide), if_neg (show ¬ (5 : Int32) = 1 by decide), if_neg (show ¬ (5 : Int32) = 2 by decide), if_neg (show ¬ (5 : Int32) = 2 by decide), if_neg (show ¬ (5 : Int32) = 3 by decide), if_neg (show ¬ (5 : Int32) = 3 by decide), if_neg (show ¬ (5 : Int32) = 4 by decide), if_neg (show ¬ (5 : Int32) = 4 by decide), if_pos rfl, if_pos rfl, em_planeR p1 p8 (nn_l 5 (by decide)) (by decide), bV_s, u 5 5 (by decide) rfl]
        exact ⟨_, rfl, rfl⟩
      · have e : k = 6 := ek
        subst e
        rw [if_neg (show ¬ (6 : Int32) = 0 by decide), if_neg (show ¬ (6 : Int32) = 0 by decide), if_neg (show ¬ (6 : Int32) = 1 by decide), if_neg (show ¬ (6 : Int32) = 1 by decide), if_neg (show ¬ (6 : Int32) = 2 by decide), if_neg (show ¬ (6 : Int32) = 2 by decide), if_neg (show ¬ (6 : Int32) = 3 by decide), if_neg (show ¬ (6 : Int32) = 3 by decide), if_neg (show ¬ (6 : Int32) = 4 by decide), if_neg (show ¬ (6 : Int32) = 4 by decide), if_neg (show ¬ (6 : Int32) = 5 by decide), if_neg (show ¬ (6 : Int32) = 5 by decide), if_pos rfl, if_pos rfl, em_planeR p1 p8 (nn_l 8 (by decide)) (by decide), bV_s, u 8 15 (by decide) rfl]
        exact ⟨_, rfl, rfl⟩
      · have e : k = 7 := ek
        subst e
        rw [if_neg (show ¬ (7 : Int32) = 0 by decide), if_neg (show ¬ (7 : Int32) = 0 by decide), if_neg (show ¬ (7 : Int32) = 1 by decide), if_neg (show ¬ (7 : Int32) = 1 by decide), if_neg (show ¬ (7 : Int32) = 2 by decide), if_neg (show ¬ (7 : Int32) = 2 by decide), if_neg (show ¬ (7 : Int32) = 3 by decide), if_neg (show ¬ (7 : Int32) = 3 by decide), if_neg (show ¬ (7 : Int32) = 4 by decide), if_neg (show ¬ (7 : Int32) = 4 by decide), if_neg (show ¬ (7 : Int32) = 5 by decide), if_neg (show ¬ (7 : Int32) = 5 by decide), if_neg (show ¬ (7 : Int32) = 6 by decide), if_neg (show ¬ (7 : Int32) = 6 by decide), if_pos rfl, if_pos rfl, em_planeR p1 p8 (nn_l 9 (by decide)) (by decide), bV_s, u 9 14 (by decide) rfl]
        exact ⟨_, rfl, rfl⟩
      · have e : k = 8 := ek
        subst e
        rw [if_neg (show ¬ (8 : Int32) = 0 by decide), if_neg (show ¬ (8 : Int32) = 0 by decide), if_neg (show ¬ (8 : Int32) = 1 by decide), if_neg (show ¬ (8 : Int32) = 1 by decide), if_neg (show ¬ (8 : Int32) = 2 by decide), if_neg (show ¬ (8 : Int32) = 2 by decide), if_neg (show ¬ (8 : Int32) = 3 by decide), if_neg (show ¬ (8 : Int32) = 3 by decide), if_neg (show ¬ (8 : Int32) = 4 by decide), if_neg (show ¬ (8 : Int32) = 4 by decide), if_neg (show ¬ (8 : Int32) = 5 by decide), if_neg (show ¬ (8 : Int32) = 5 by decide), if_neg (show ¬ (8 : Int32) = 6 by decide), if_neg (show ¬ (8 : Int32) = 6 by decide), if_neg (show ¬ (8 : Int32) = 7 by decide), if_neg (show ¬ (8 : Int32) = 7 by decide), if_pos rfl, if_pos rfl]
        obtain ⟨v, v1, v2⟩ := weight_loop (N := N) (Sm := yI Sm 8 47 0) (pI := pI) t7.2.2.1.1 t7.2.2.1.2.2 nb30 (fun b hb => ⟨(t10 b hb).1, (t10 b hb).2.2.2.1, (hD.2.2.2.2.2.2.1 b hb).1 1 (by decide)⟩) nb 0 N N 0 (by omega) (by omega) (by omega)
        have v1' : f_X10_weightOn N Sc pI = some v := v1
        rw [v1', bV_s]
        exact ⟨_, rfl, v2⟩
      · have e : k = 9 := ek
        subst e
        rw [if_neg (show ¬ (9 : Int32) = 0 by decide), if_neg (show ¬ (9 : Int32) = 0 by decide), if_neg (show ¬ (9 : Int32) = 1 by decide), if_neg (show ¬ (9 : Int32) = 1 by decide), if_neg (show ¬ (9 : Int32) = 2 by decide), if_neg (show ¬ (9 : Int32) = 2 by decide), if_neg (show ¬ (9 : Int32) = 3 by decide), if_neg (show ¬ (9 : Int32) = 3 by decide), if_neg (show ¬ (9 : Int32) = 4 by decide), if_neg (show ¬ (9 : Int32) = 4 by decide), if_neg (show ¬ (9 : Int32) = 5 by decide), if_neg (show ¬ (9 : Int32) = 5 by decide), if_neg (show ¬ (9 : Int32) = 6 by decide), if_neg (show ¬ (9 : Int32) = 6 by decide), if_neg (show ¬ (9 : Int32) = 7 by decide), if_neg (show ¬ (9 : Int32) = 7 by decide), if_neg (show ¬ (9 : Int32) = 8 by decide), if_neg (show ¬ (9 : Int32) = 8 by decide), if_pos rfl, if_pos rfl, em_planeR p1 p8 (nn_l 11 (by decide)) (by decide), bV_s, u 11 16 (by decide) rfl]
        exact ⟨_, rfl, rfl⟩
      · have e : k = 10 := ek
        subst e
        rw [if_neg (show ¬ (10 : Int32) = 0 by decide), if_neg (show ¬ (10 : Int32) = 0 by decide), if_neg (show ¬ (10 : Int32) = 1 by decide), if_neg (show ¬ (10 : Int32) = 1 by decide), if_neg (show ¬ (10 : Int32) = 2 by decide), if_neg (show ¬ (10 : Int32) = 2 by decide), if_neg (show ¬ (10 : Int32) = 3 by decide), if_neg (show ¬ (10 : Int32) = 3 by decide), if_neg (show ¬ (10 : Int32) = 4 by decide), if_neg (show ¬ (10 : Int32) = 4 by decide), if_neg (show ¬ (10 : Int32) = 5 by decide), if_neg (show ¬ (10 : Int32) = 5 by decide), if_neg (show ¬ (10 : Int32) = 6 by decide), if_neg (show ¬ (10 : Int32) = 6 by decide), if_neg (show ¬ (10 : Int32) = 7 by decide), if_neg (show ¬ (10 : Int32) = 7 by decide), if_neg (show ¬ (10 : Int32) = 8 by decide), if_neg (show ¬ (10 : Int32) = 8 by decide), if_neg (show ¬ (10 : Int32) = 9 by decide), if_neg (show ¬ (10 : Int32) = 9 by decide), if_pos rfl]
        unfold f_X6_isAloft f_X6_isAloft_0 f_X6_isAloft_19 f_X6_isAloft_20 f_X12_isAloft f_X12_isAloft_0 f_X12_isAloft_23 f_X12_isAloft_24
        rw [em_planeR p1 p8 (nn_l 0 (by decide)) (by decide), bV_s, u 0 8 (by decide) rfl, em_planeR p1 p8 (nn_l 3 (by decide)) (by decide), bV_s, u 3 12 (by decide) rfl, gP_t (show (0 : Int32) = 0 ∨ (0 : Int32) = 1 from Or.inl rfl), gP_t (show (1 : Int32) = 0 ∨ (1 : Int32) = 1 from Or.inr rfl)]
        rcases i4 with ⟨⟨f, f1, _⟩, z⟩ | ⟨z1, z2, ⟨l, m, M, a1, a2, a3, a4, a5⟩, _⟩
        · have ne : ¬ Sc.1 (128 + p) 8 = -1 := fun q => f1.nneg (by rw [q]; decide)
          rw [if_pos ne, bV_s, bV_s, if_pos rfl, if_neg (show ¬ ¬ (0 : Int32) = 0 from fun w => w rfl)]
          exact ⟨_, rfl, rfl⟩
        · rw [if_neg (fun q => q z1)]
          rcases z2 with z | z
          · have l12 : l < 12 := by have := t2.2.1; omega
            obtain ⟨kk, hR⟩ := t2.2.2.2.1 l a2
            rw [if_neg (fun q => q z), bV_s, bV_s, if_neg (show ¬ (1 : Int32) = 0 by decide), if_pos (show ¬ (1 : Int32) = 0 by decide), gR_nn a1 l12 hR.1, e_goal, bV_s, em_planeR p1 p8 (nn_l 10 (by decide)) (by decide), bV_s, u 10 11 (by decide) rfl, em_planeR p1 p8 (nn_l 1 (by decide)) (by decide), bV_s, u 1 9 (by decide) rfl, bV_s, gA_nn a1 l12, gA_nn a1 l12]
            have r5 : (yI Sm 8 47 0).2.1 8 2 l = Sc.1 (64 + l) 0 := hR.2.2.2.2.1
            have r6 : (yI Sm 8 47 0).2.1 8 3 l = Sc.1 (64 + l) 1 := hR.2.2.2.2.2.1
            rw [r5, r6]
            rcases i3 with y | y
            · rw [if_pos y, if_pos (show ¬ Sc.1 (128 + p) 11 = 1 by rw [y]; decide)]
              exact ⟨_, rfl, rfl⟩
            · rw [if_neg (show ¬ Sc.1 (128 + p) 11 = 0 by rw [y]; decide), if_neg (fun q => q y)]
              exact ⟨_, rfl, rfl⟩
          · have nz : ¬ Sc.1 (128 + p) 12 = 0 := by rw [z]; decide
            rw [if_pos nz, bV_s, bV_s, if_pos rfl, if_neg (show ¬ ¬ (0 : Int32) = 0 from fun w => w rfl)]
            exact ⟨_, rfl, rfl⟩
    · right
      rw [b01_f d, if_neg (show ¬ ¬ (0 : Int32) = 0 from fun w => w rfl)]
      simp only [if_neg (show ¬ k = 0 from fun z => d (by rw [z]; decide)), if_neg (show ¬ k = 1 from fun z => d (by rw [z]; decide)), if_neg (show ¬ k = 2 from fun z => d (by rw [z]; decide)), if_neg (show ¬ k = 3 from fun z => d (by rw [z]; decide)), if_neg (show ¬ k = 4 from fun z => d (by rw [z]; decide)), if_neg (show ¬ k = 5 from fun z => d (by rw [z]; decide)), if_neg (show ¬ k = 6 from fun z => d (by rw [z]; decide)), if_neg (show ¬ k = 7 from fun z => d (by rw [z]; decide)), if_neg (show ¬ k = 8 from fun z => d (by rw [z]; decide)), if_neg (show ¬ k = 9 from fun z => d (by rw [z]; decide)), if_neg (show ¬ k = 10 from fun z => d (by rw [z]; decide))]
      exact ⟨trivial, rfl⟩
  · right
    rw [b01_f c, if_neg (show ¬ ¬ (0 : Int32) = 0 from fun w => w rfl), if_pos rfl]
    exact ⟨rfl, rfl⟩
theorem where_both {cK : Nat → Nat} {N nf nl np nq nb ng : Nat} {Sc Sm : yS} {bI k : Int32} (hN : 60 < N) (hT : ST cK nf nl np nq nb ng Sc Sm) (hD : DY cK nf nl np nq nb ng Sc Sm) : (∃ v Sc' Sm', f_X11_where N Sc bI k = some (some v, Sc') ∧ f_X12_where N Sm bI k = some (v, Sm') ∧ FR pI1 Sc Sc' ∧ FR pPy (yI Sm 8 47 0) Sm') ∨ (f_X11_where N Sc bI k = some (none, Sc) ∧ f_X12_where N Sm bI k = some (0, yI (yI Sm 8 47 0) 8 47 1)) := by
  obtain ⟨hT1, hD1⟩ := clear_both hT hD
  obtain ⟨t1, t2, t3, t4, t5, t6, t7, t8, t9, t10, t11, t12, t13, t14⟩ := id hT1
  have nb30 : nb ≤ 30 := t7.2.2.1.2.1
  unfold f_X11_where f_X11_where_0 f_X11_where_104 f_X12_where f_X12_where_0 f_X12_where_22 f_X12_where_123 f_X12_lost f_X12_lost_0
  rw [e_isBag, bV_s, sq_s, em_isBag, bV_s, t7.2.2.1.2.2]
  by_cases c : 0 ≤ bI ∧ bI ≤ Sc.1 2 9 - 1
  · obtain ⟨b, b1, b2⟩ := nn_idx t7.2.2.1.1 c
    have b30 : b < 30 := by omega
    have u : ∀ j kk, j < 5 → bSl j = kk → (yI Sm 8 47 0).2.1 8 48 (235 + 37 * b + j) = Sc.1 (384 + b) kk := fun j kk hj hk => by rw [← hk]; exact (hD1.2.2.2.2.2.2.1 b b2).1 j hj
    have y5 : (yI Sm 8 47 0).2.1 8 27 b = Sc.1 (384 + b) 4 := (t10 b b2).2.2.2.2.2.1
    rw [b01_t c, if_pos (show ¬ (1 : Int32) = 0 by decide), if_neg (show ¬ (1 : Int32) = 0 by decide), gR_nn b1 b30 (t10 b b2).1, e_in, bV_s]
    by_cases d : 0 ≤ k ∧ k ≤ 5
    · have hk := nn_of d.1
      have k1 := (nn_le hk (nn_l 5 (by decide))).mp d.2
      generalize k.toNatClampNeg = kn at hk k1
      rw [b01_t d, if_pos (show ¬ (1 : Int32) = 0 by decide)]
      left
      have ek := hk.1
      rcases (show kn = 0 ∨ kn = 1 ∨ kn = 2 ∨ kn = 3 ∨ kn = 4 ∨ kn = 5 by omega) with rfl | rfl | rfl | rfl | rfl | rfl
      · have e : k = 0 := ek
        subst e
        rw [if_pos rfl, if_pos rfl, em_bagOf b1 b30 (nn_l 0 (by decide)) (by decide), bV_s, u 0 5 (by decide) rfl]
        exact ⟨_, _, _, rfl, rfl, FR_refl _ _, FR_refl _ _⟩
      · have e : k = 1 := ek
        subst e
        rw [if_neg (show ¬ (1 : Int32) = 0 by decide), if_neg (show ¬ (1 : Int32) = 0 by decide), if_pos rfl, if_pos rfl, em_bagOf b1 b30 (nn_l 1 (by decide)) (by decide), bV_s, u 1 6 (by decide) rfl]
        exact ⟨_, _, _, rfl, rfl, FR_refl _ _, FR_refl _ _⟩
      · have e : k = 2 := ek
        subst e
        rw [if_neg (show ¬ (2 : Int32) = 0 by decide), if_neg (show ¬ (2 : Int32) = 0 by decide), if_neg (show ¬ (2 : Int32) = 1 by decide), if_neg (show ¬ (2 : Int32) = 1 by decide), if_pos rfl, if_pos rfl, em_bagOf b1 b30 (nn_l 2 (by decide)) (by decide), bV_s, u 2 7 (by decide) rfl]
        exact ⟨_, _, _, rfl, rfl, FR_refl _ _, FR_refl _ _⟩
      · have e : k = 3 := ek
        subst e
        rw [if_neg (show ¬ (3 : Int32) = 0 by decide), if_neg (show ¬ (3 : Int32) = 0 by decide), if_neg (show ¬ (3 : Int32) = 1 by decide), if_neg (show ¬ (3 : Int32) = 1 by decide), if_neg (show ¬ (3 : Int32) = 2 by decide), if_neg (show ¬ (3 : Int32) = 2 by decide), if_pos rfl, if_pos rfl, em_bagOf b1 b30 (nn_l 3 (by decide)) (by decide), bV_s, u 3 8 (by decide) rfl]
        exact ⟨_, _, _, rfl, rfl, FR_refl _ _, FR_refl _ _⟩
      · have e : k = 4 := ek
        subst e
        rw [if_neg (show ¬ (4 : Int32) = 0 by decide), if_neg (show ¬ (4 : Int32) = 0 by decide), if_neg (show ¬ (4 : Int32) = 1 by decide), if_neg (show ¬ (4 : Int32) = 1 by decide), if_neg (show ¬ (4 : Int32) = 2 by decide), if_neg (show ¬ (4 : Int32) = 2 by decide), if_neg (show ¬ (4 : Int32) = 3 by decide), if_neg (show ¬ (4 : Int32) = 3 by decide), if_pos rfl, if_pos rfl, em_bagOf b1 b30 (nn_l 3 (by decide)) (by decide), bV_s, u 3 8 (by decide) rfl]
        unfold f_X0_late f_X0_late_0
        by_cases z : Sc.1 (384 + b) 8 = -1
        · rw [if_neg (fun q => q z), if_neg (fun q => q z)]
          exact ⟨_, _, _, rfl, rfl, FR_refl _ _, FR_refl _ _⟩
        · rw [if_pos z, if_pos z, bV_s, bV_s, gA_nn b1 b30, y5]
          exact ⟨_, _, _, rfl, rfl, FR_refl _ _, FR_refl _ _⟩
      · have e : k = 5 := ek
        subst e
        rw [if_neg (show ¬ (5 : Int32) = 0 by decide), if_neg (show ¬ (5 : Int32) = 0 by decide), if_neg (show ¬ (5 : Int32) = 1 by decide), if_neg (show ¬ (5 : Int32) = 1 by decide), if_neg (show ¬ (5 : Int32) = 2 by decide), if_neg (show ¬ (5 : Int32) = 2 by decide), if_neg (show ¬ (5 : Int32) = 3 by decide), if_neg (show ¬ (5 : Int32) = 3 by decide), if_neg (show ¬ (5 : Int32) = 4 by decide), if_neg (show ¬ (5 : Int32) = 4 by decide), if_pos rfl]
        obtain ⟨v, Sc', Sm', e1, e2, e3, e4⟩ := payDay_both (N := N) hN hT1 hD1 b2 b1
        rw [e1, bS_s, e2, bS_s]
        exact ⟨_, _, _, rfl, rfl, e3, e4⟩
    · right
      rw [b01_f d, if_neg (show ¬ ¬ (0 : Int32) = 0 from fun w => w rfl)]
      simp only [if_neg (show ¬ k = 0 from fun z => d (by rw [z]; decide)), if_neg (show ¬ k = 1 from fun z => d (by rw [z]; decide)), if_neg (show ¬ k = 2 from fun z => d (by rw [z]; decide)), if_neg (show ¬ k = 3 from fun z => d (by rw [z]; decide)), if_neg (show ¬ k = 4 from fun z => d (by rw [z]; decide)), if_neg (show ¬ k = 5 from fun z => d (by rw [z]; decide))]
      exact ⟨trivial, rfl⟩
  · right
    rw [b01_f c, if_neg (show ¬ ¬ (0 : Int32) = 0 from fun w => w rfl), if_pos rfl]
    exact ⟨rfl, rfl⟩
