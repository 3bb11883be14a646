/-! COUNT -/
theorem given_loop {N nb : Nat} {Sc Sm : yS} (h1 : nn (Sc.1 2 9) nb) (hm : Sm.1 8 28 = Sc.1 2 9) (nb30 : nb ≤ 30) (hx : ∀ b, b < nb → Sc.2.1 2 8 b = 1 ∧ Sm.2.1 8 48 (235 + 37 * b + 3) = Sc.1 (384 + b) 8) : ∀ (d i m m' : Nat) (acc : Int32), i + d = nb → d < m → d < m' → ∃ v, f_X10_bagsGiven_4 m N Sc 0 acc (Int32.ofNat i) = some v ∧ f_X12_given_4 m' N Sm acc (Int32.ofNat i) = some v := by
  intro d
  induction d with
  | zero =>
    intro i m m' acc hi a b
    obtain ⟨m, rfl⟩ : ∃ x, m = x + 1 := ⟨m - 1, by omega⟩
    obtain ⟨m', rfl⟩ : ∃ x, m' = x + 1 := ⟨m' - 1, by omega⟩
    have le := (nn_le h1 (nn_lit i (by omega))).mpr (by omega)
    rw [f_X10_bagsGiven_4, if_pos le, f_X12_given_4, hm, if_pos le]
    exact ⟨acc, rfl, rfl⟩
  | succ d ih =>
    intro i m m' acc hi a b
    obtain ⟨m, rfl⟩ : ∃ x, m = x + 1 := ⟨m - 1, by omega⟩
    obtain ⟨m', rfl⟩ : ∃ x, m' = x + 1 := ⟨m' - 1, by omega⟩
    have ni := nn_lit i (by omega)
    have nle : ¬ Sc.1 2 9 ≤ Int32.ofNat i := fun q => by have := (nn_le h1 ni).mp q; omega
    obtain ⟨x1, x3⟩ := hx i (by omega)
    rw [f_X10_bagsGiven_4, if_neg nle, gR_nn ni (by omega) x1, f_X12_given_4, hm, if_neg nle, em_bagOf ni (by omega) (nn_l 3 (by decide)) (by decide), bV_s, x3]
    unfold f_X10_bagsGiven_41 f_X10_bagsGiven_44 f_X12_given_25
    rw [y_int1]
    by_cases z : Sc.1 (384 + i) 8 = -1
    · rw [if_pos z, if_pos z]
      exact ih (i + 1) m m' _ (by omega) (by omega) (by omega)
    · rw [if_neg z, if_neg z, if_pos rfl]
      exact ih (i + 1) m m' _ (by omega) (by omega) (by omega)
theorem late_lt {a b : Int32} {m n : Nat} (ha : nn a m) (hb : nn b n) : (¬ (if 0 < a - b then a - b else 0) = 0) ↔ b < a := by
  have hm := ha.2
  have hn := hb.2
  have e : (a - b).toInt = (m : Int) - n := by
    rw [Int32.toInt_sub, ha.int, hb.int, Int.bmod_eq_of_le (by omega) (by omega)]
  have e1 : 0 < a - b ↔ b < a := by
    rw [Int32.lt_iff_toInt_lt, e, nn_lt hb ha, show Int32.toInt 0 = 0 from rfl]
    omega
  by_cases z : 0 < a - b
  · rw [if_pos z]
    exact ⟨fun _ => e1.mp z, fun _ y => by rw [y] at z; exact absurd z (by decide)⟩
  · rw [if_neg z]
    exact ⟨fun y => absurd rfl y, fun y => absurd (e1.mpr y) z⟩
theorem onTime_loop {N nb : Nat} {Sc Sm : yS} (h1 : nn (Sc.1 2 9) nb) (hm : Sm.1 8 28 = Sc.1 2 9) (nb30 : nb ≤ 30) (hx : ∀ b, b < nb → Sc.2.1 2 8 b = 1 ∧ Sm.2.1 8 48 (235 + 37 * b + 3) = Sc.1 (384 + b) 8 ∧ Sm.2.1 8 27 b = Sc.1 (384 + b) 4 ∧ (∃ d, nn (Sc.1 (384 + b) 4) d) ∧ (Sc.1 (384 + b) 8 = -1 ∨ ∃ t, nn (Sc.1 (384 + b) 8) t ∧ t ≤ 3000)) : ∀ (d i m m' : Nat) (acc : Int32), i + d = nb → d < m → d < m' → ∃ v, f_X10_bagsGiven_4 m N Sc 1 acc (Int32.ofNat i) = some v ∧ f_X12_onTime_4 m' N Sm acc (Int32.ofNat i) = some v := by
  intro d
  induction d with
  | zero =>
    intro i m m' acc hi a b
    obtain ⟨m, rfl⟩ : ∃ x, m = x + 1 := ⟨m - 1, by omega⟩
    obtain ⟨m', rfl⟩ : ∃ x, m' = x + 1 := ⟨m' - 1, by omega⟩
    have le := (nn_le h1 (nn_lit i (by omega))).mpr (by omega)
    rw [f_X10_bagsGiven_4, if_pos le, f_X12_onTime_4, hm, if_pos le]
    exact ⟨acc, rfl, rfl⟩
  | succ d ih =>
    intro i m m' acc hi a b
    obtain ⟨m, rfl⟩ : ∃ x, m = x + 1 := ⟨m - 1, by omega⟩
    obtain ⟨m', rfl⟩ : ∃ x, m' = x + 1 := ⟨m' - 1, by omega⟩
    have ni := nn_lit i (by omega)
    have nle : ¬ Sc.1 2 9 ≤ Int32.ofNat i := fun q => by have := (nn_le h1 ni).mp q; omega
    obtain ⟨x1, x3, x4, ⟨dd, x5⟩, x6⟩ := hx i (by omega)
    rw [f_X10_bagsGiven_4, if_neg nle, gR_nn ni (by omega) x1, f_X12_onTime_4, hm, if_neg nle, em_bagOf ni (by omega) (nn_l 3 (by decide)) (by decide), bV_s, x3]
    unfold f_X10_bagsGiven_41 f_X10_bagsGiven_44 f_X12_onTime_40
    rw [y_int1]
    by_cases z : Sc.1 (384 + i) 8 = -1
    · rw [if_pos z, if_pos z]
      exact ih (i + 1) m m' _ (by omega) (by omega) (by omega)
    · rw [if_neg z, if_neg z, if_neg (show ¬ (1 : Int32) = 0 by decide), gR_nn ni (by omega) x1, bV_s, gA_nn ni (by omega), x4]
      unfold f_X0_late f_X0_late_0
      rw [bV_s]
      rcases x6 with y | ⟨t, t1, _⟩
      · exact absurd y z
      have L := late_lt t1 x5
      by_cases y : Sc.1 (384 + i) 4 < Sc.1 (384 + i) 8
      · rw [if_pos (L.mpr y), if_pos y]
        exact ih (i + 1) m m' _ (by omega) (by omega) (by omega)
      · rw [if_neg (fun q => y (L.mp q)), if_neg y]
        exact ih (i + 1) m m' _ (by omega) (by omega) (by omega)
theorem down_loop {N np : Nat} {Sc Sm : yS} (h1 : nn (Sc.1 2 5) np) (hm : Sm.1 8 21 = Sc.1 2 5) (np8 : np ≤ 8) (hx : ∀ p, p < np → Sc.2.1 2 4 p = 1 ∧ Sm.2.1 8 48 (19 + 23 * p + 3) = Sc.1 (128 + p) 12 ∧ (Sc.1 (128 + p) 12 = 0 ∨ Sc.1 (128 + p) 12 = 1)) : ∀ (d i m m' : Nat) (acc : Int32), i + d = np → d < m → d < m' → ∃ v, f_X10_planesDown_4 m N Sc acc (Int32.ofNat i) = some v ∧ f_X12_count_142 m' N Sm acc (Int32.ofNat i) = some (v, Sm) := by
  intro d
  induction d with
  | zero =>
    intro i m m' acc hi a b
    obtain ⟨m, rfl⟩ : ∃ x, m = x + 1 := ⟨m - 1, by omega⟩
    obtain ⟨m', rfl⟩ : ∃ x, m' = x + 1 := ⟨m' - 1, by omega⟩
    have le := (nn_le h1 (nn_lit i (by omega))).mpr (by omega)
    rw [f_X10_planesDown_4, if_pos le, f_X12_count_142, hm, if_pos le]
    exact ⟨acc, rfl, rfl⟩
  | succ d ih =>
    intro i m m' acc hi a b
    obtain ⟨m, rfl⟩ : ∃ x, m = x + 1 := ⟨m - 1, by omega⟩
    obtain ⟨m', rfl⟩ : ∃ x, m' = x + 1 := ⟨m' - 1, by omega⟩
    have ni := nn_lit i (by omega)
    have nle : ¬ Sc.1 2 5 ≤ Int32.ofNat i := fun q => by have := (nn_le h1 ni).mp q; omega
    obtain ⟨x1, x3, x4⟩ := hx i (by omega)
    rw [f_X10_planesDown_4, if_neg nle, gR_nn ni (by omega) x1, f_X12_count_142, hm, if_neg nle, em_planeR ni (by omega) (nn_l 3 (by decide)) (by decide), bV_s, x3]
    unfold f_X10_planesDown_30
    rw [y_int1]
    rcases x4 with z | z
    · rw [if_pos z, z]
      exact ih (i + 1) m m' _ (by omega) (by omega) (by omega)
    · rw [if_neg (show ¬ Sc.1 (128 + i) 12 = 0 by rw [z]; decide), z]
      exact ih (i + 1) m m' _ (by omega) (by omega) (by omega)
theorem down01 {cK : Nat → Nat} {nf nl np nq nb ng p : Nat} {Sc Sm : yS} (hD : DY cK nf nl np nq nb ng Sc Sm) (hp : p < np) : Sc.1 (128 + p) 12 = 0 ∨ Sc.1 (128 + p) 12 = 1 := by
  obtain ⟨i1, i2, i3, i4, i5, i6⟩ := hD.2.2.2.2.2.2.2.2 p hp
  rcases i4 with ⟨_, z⟩ | ⟨_, z, _⟩
  · exact Or.inl z
  · exact z
theorem count_both {cK : Nat → Nat} {N nf nl np nq nb ng r x : Nat} {Sc Sm : yS} {k : Int32} (hN : 60 < N) (hT : ST cK nf nl np nq nb ng Sc Sm) (hD : DY cK nf nl np nq nb ng Sc Sm) (hR : RO r Sc Sm) (hX : RX x Sc Sm) : ∃ v, f_X11_count N Sc k = some v ∧ f_X12_count N Sm k = some (v, yI Sm 8 47 0) := by
  obtain ⟨t1, t2, t3, t4, t5, t6, t7, t8, t9, t10, t11, t12, t13, t14⟩ := id hT
  have nb30 : nb ≤ 30 := t7.2.2.1.2.1
  have np8 : np ≤ 8 := t7.1.2.1
  obtain ⟨kw, hW⟩ := hD.2.2.2.1
  have w0 : (yI Sm 8 47 0).2.1 8 48 0 = Sc.1 2 13 := hD.1
  have w1 : (yI Sm 8 47 0).2.1 8 48 1 = Sc.1 2 14 := hD.2.1
  have w2 : (yI Sm 8 47 0).2.1 8 48 2 = Sc.1 3 1 := hW.1.2.2.1
  have g1 : (yI Sm 8 47 0).1 8 1 = Sc.1 1 3 := t1.2.2.1
  have g9 : (yI Sm 8 47 0).1 8 9 = Sc.1 1 5 := t2.2.2.1
  have g21 : (yI Sm 8 47 0).1 8 21 = Sc.1 2 5 := t7.1.2.2
  have g22 : (yI Sm 8 47 0).1 8 22 = Sc.1 2 7 := t7.2.1.2.2
  have g28 : (yI Sm 8 47 0).1 8 28 = Sc.1 2 9 := t7.2.2.1.2.2
  have g33 : (yI Sm 8 47 0).1 8 33 = Sc.1 2 12 := t7.2.2.2.2.2
  have g46 : (yI Sm 8 47 0).1 8 46 = Sc.1 0 8 := hR.2.2.1
  have g44 : (yI Sm 8 47 0).1 8 44 = Sc.1 0 6 := hX.2.2.1
  unfold f_X11_count f_X11_count_0 f_X12_count f_X12_count_0
  rw [sq_s, gA_nn (nn_l 0 (by decide)) (by decide), gA_nn (nn_l 2 (by decide)) (by decide), gA_nn (nn_l 1 (by decide)) (by decide), w0, w1, w2, g1, g9, g21, g22, g28, g33, g46, g44]
  by_cases e0 : k = 0
  · rw [if_pos e0, if_pos e0]
    exact ⟨_, rfl, rfl⟩
  by_cases e1 : k = 1
  · simp only [if_neg e0, if_pos e1]
    exact ⟨_, rfl, rfl⟩
  by_cases e2 : k = 2
  · simp only [if_neg e0, if_neg e1, if_pos e2]
    exact ⟨_, rfl, rfl⟩
  by_cases e3 : k = 3
  · simp only [if_neg e0, if_neg e1, if_neg e2, if_pos e3]
    exact ⟨_, rfl, rfl⟩
  by_cases e4 : k = 4
  · simp only [if_neg e0, if_neg e1, if_neg e2, if_neg e3, if_pos e4]
    exact ⟨_, rfl, rfl⟩
  by_cases e5 : k = 5
  · simp only [if_neg e0, if_neg e1, if_neg e2, if_neg e3, if_neg e4, if_pos e5]
    exact ⟨_, rfl, rfl⟩
  by_cases e6 : k = 6
  · simp only [if_neg e0, if_neg e1, if_neg e2, if_neg e3, if_neg e4, if_neg e5, if_pos e6]
    exact ⟨_, rfl, rfl⟩
  by_cases e7 : k = 7
  · simp only [if_neg e0, if_neg e1, if_neg e2, if_neg e3, if_neg e4, if_neg e5, if_neg e6, if_pos e7]
    exact ⟨_, rfl, rfl⟩
  by_cases e8 : k = 8
  · simp only [if_neg e0, if_neg e1, if_neg e2, if_neg e3, if_neg e4, if_neg e5, if_neg e6, if_neg e7, if_pos e8]
    obtain ⟨v, v1, v2⟩ := given_loop (N := N) (Sm := yI Sm 8 47 0) t7.2.2.1.1 g28 nb30 (fun b hb => ⟨(t10 b hb).1, (hD.2.2.2.2.2.2.1 b hb).1 3 (by decide)⟩) nb 0 N N 0 (by omega) (by omega) (by omega)
    have v1' : f_X10_bagsGiven N Sc 0 = some v := v1
    have v2' : f_X12_given N (yI Sm 8 47 0) = some v := v2
    rw [v1', bV_s, v2', bV_s]
    exact ⟨_, rfl, rfl⟩
  by_cases e9 : k = 9
  · simp only [if_neg e0, if_neg e1, if_neg e2, if_neg e3, if_neg e4, if_neg e5, if_neg e6, if_neg e7, if_neg e8, if_pos e9]
    exact ⟨_, rfl, rfl⟩
  by_cases e10 : k = 10
  · simp only [if_neg e0, if_neg e1, if_neg e2, if_neg e3, if_neg e4, if_neg e5, if_neg e6, if_neg e7, if_neg e8, if_neg e9, if_pos e10]
    exact ⟨_, rfl, rfl⟩
  by_cases e11 : k = 11
  · simp only [if_neg e0, if_neg e1, if_neg e2, if_neg e3, if_neg e4, if_neg e5, if_neg e6, if_neg e7, if_neg e8, if_neg e9, if_neg e10, if_pos e11]
    exact ⟨_, rfl, rfl⟩
  by_cases e12 : k = 12
  · simp only [if_neg e0, if_neg e1, if_neg e2, if_neg e3, if_neg e4, if_neg e5, if_neg e6, if_neg e7, if_neg e8, if_neg e9, if_neg e10, if_neg e11, if_pos e12]
    obtain ⟨v, v1, v2⟩ := down_loop (N := N) (Sm := yI Sm 8 47 0) t7.1.1 g21 np8 (fun p hp => ⟨(t8 p hp).1, hD.2.2.2.2.1 p hp 3 (by decide), down01 hD hp⟩) np 0 N N 0 (by omega) (by omega) (by omega)
    have v1' : f_X10_planesDown N Sc = some v := v1
    rw [v1', bV_s]
    exact ⟨_, rfl, v2⟩
  simp only [if_neg e0, if_neg e1, if_neg e2, if_neg e3, if_neg e4, if_neg e5, if_neg e6, if_neg e7, if_neg e8, if_neg e9, if_neg e10, if_neg e11, if_neg e12]
  exact ⟨_, rfl, rfl⟩
/-! NEEDS -/
theorem needs_one {cK : Nat → Nat} {N nf nl np nq nb ng p : Nat} {Sc S : yS} {pI : Int32} (p8 : p < 8) (hpI : nn pI p) (u : ∀ j kk, j < 12 → pS j = kk → S.2.1 8 48 (19 + 23 * p + j) = Sc.1 (128 + p) kk) (w0 : S.2.1 8 48 0 = Sc.1 2 13) (h13 : ∃ h, nn (Sc.1 (128 + p) 13) h) : f_X12_needsOne N S pI = some (b01 (¬ Sc.1 (128 + p) 8 = -1 ∧ ¬ Sc.1 2 13 < Sc.1 (128 + p) 14 ∧ (¬ Sc.1 (128 + p) 13 = 0 ∨ ¬ Sc.1 (128 + p) 5 < Sc.1 (128 + p) 6))) := by
  unfold f_X12_needsOne f_X12_needsOne_0 f_X12_needsOne_51 f_X12_needsOne_55 f_X12_needsOne_56
  rw [em_planeR hpI p8 (nn_l 0 (by decide)) (by decide), bV_s, u 0 8 (by decide) rfl, em_planeR hpI p8 (nn_l 9 (by decide)) (by decide), bV_s, u 9 14 (by decide) rfl, gA_nn (nn_l 0 (by decide)) (by decide), w0, em_planeR hpI p8 (nn_l 4 (by decide)) (by decide), bV_s, u 4 13 (by decide) rfl, em_planeR hpI p8 (nn_l 5 (by decide)) (by decide), bV_s, u 5 5 (by decide) rfl, em_planeR hpI p8 (nn_l 6 (by decide)) (by decide), bV_s, u 6 6 (by decide) rfl, gP_t (show (0 : Int32) = 0 ∨ (0 : Int32) = 1 from Or.inl rfl), gP_t (show (1 : Int32) = 0 ∨ (1 : Int32) = 1 from Or.inr rfl)]
  obtain ⟨h, h1⟩ := h13
  have e : 0 < Sc.1 (128 + p) 13 ↔ ¬ Sc.1 (128 + p) 13 = 0 := by
    rw [nn_lt (nn_l 0 (by decide)) h1, nn_eq h1 (nn_l 0 (by decide))]
    omega
  by_cases z : Sc.1 (128 + p) 8 = -1
  · rw [if_pos z, b01_f (fun q => q.1 z)]
  · rw [if_neg z]
    by_cases y : Sc.1 2 13 < Sc.1 (128 + p) 14
    · rw [if_pos y, b01_f (fun q => q.2.1 y)]
    · rw [if_neg y]
      by_cases x : Sc.1 (128 + p) 13 = 0
      · rw [if_neg (fun q => e.mp q x)]
        by_cases v : Sc.1 (128 + p) 5 < Sc.1 (128 + p) 6
        · rw [if_pos v, b01_f (fun q => q.2.2.elim (fun q => q x) (fun q => q v))]
        · rw [if_neg v, b01_t ⟨z, y, Or.inr v⟩]
      · rw [if_pos (e.mpr x), b01_t ⟨z, y, Or.inl x⟩]
/-- the list of planes that need spares: how long, and the same on both sides -/
def NL (n : Nat) (Sc Sm : yS) : Prop := nn (Sc.1 6 2) n ∧ Sm.1 8 59 = Sc.1 6 2 ∧ ∀ i, i < n → Sc.2.1 6 0 i = Sm.2.1 8 58 i
theorem needs_loop {cK : Nat → Nat} {N nf nl np nq nb ng : Nat} : ∀ (d i m m' n : Nat) (Sc Sm : yS), i + d = np → d < m → d < m' → n ≤ i → ST cK nf nl np nq nb ng Sc Sm → DY cK nf nl np nq nb ng Sc Sm → NL n Sc Sm → (∀ j, j < n → ∃ p, nn (Sc.2.1 6 0 j) p ∧ p < np ∧ ¬ Sc.1 (128 + p) 8 = -1) → ∃ Sc' Sm' n', f_X7_listNeeding_7 m N Sc (Int32.ofNat i) = some (Int32.ofNat n', Sc') ∧ f_X12_findNeedy_7 m' N Sm (Int32.ofNat i) = some (Int32.ofNat n', Sm') ∧ NL n' Sc' Sm' ∧ n' ≤ np ∧ (∀ j, j < n' → ∃ p, nn (Sc'.2.1 6 0 j) p ∧ p < np ∧ ¬ Sc'.1 (128 + p) 8 = -1) ∧ FR (fun o k => o = 6 ∧ (k = 0 ∨ k = 2)) Sc Sc' ∧ FR (fun o k => o = 8 ∧ (k = 58 ∨ k = 59)) Sm Sm' := by
  intro d
  induction d with
  | zero =>
    intro i m m' n Sc Sm hi hm hm' hn hT hD hL hA
    obtain ⟨m, rfl⟩ : ∃ x, m = x + 1 := ⟨m - 1, by omega⟩
    obtain ⟨m', rfl⟩ : ∃ x, m' = x + 1 := ⟨m' - 1, by omega⟩
    have np8 : np ≤ 8 := hT.2.2.2.2.2.2.1.1.2.1
    have g21 : Sm.1 8 21 = Sc.1 2 5 := hT.2.2.2.2.2.2.1.1.2.2
    have le := (nn_le hT.2.2.2.2.2.2.1.1.1 (nn_lit i (by omega))).mpr (by omega)
    rw [f_X7_listNeeding_7, if_pos le, f_X12_findNeedy_7, g21, if_pos le, hL.2.1, hL.1.1]
    exact ⟨Sc, Sm, n, rfl, rfl, hL, by omega, hA, FR_refl _ _, FR_refl _ _⟩
  | succ d ih =>
    intro i m m' n Sc Sm hi hm hm' hn hT hD hL hA
    obtain ⟨m, rfl⟩ : ∃ x, m = x + 1 := ⟨m - 1, by omega⟩
    obtain ⟨m', rfl⟩ : ∃ x, m' = x + 1 := ⟨m' - 1, by omega⟩
    have np8 : np ≤ 8 := hT.2.2.2.2.2.2.1.1.2.1
    have g21 : Sm.1 8 21 = Sc.1 2 5 := hT.2.2.2.2.2.2.1.1.2.2
    have ni := nn_lit i (by omega)
    have nle : ¬ Sc.1 2 5 ≤ Int32.ofNat i := fun q => by have := (nn_le hT.2.2.2.2.2.2.1.1.1 ni).mp q; omega
    have x1 : Sc.2.1 2 4 i = 1 := (hT.2.2.2.2.2.2.2.1 i (by omega)).1
    obtain ⟨⟨hh, hh1, _⟩, _⟩ := hD.2.2.2.2.2.2.2.2 i (by omega)
    have em := needs_one (cK := cK) (nf := nf) (nl := nl) (np := np) (nq := nq) (nb := nb) (ng := ng) (N := N) (by omega : i < 8) ni (fun j kk hj hk => by rw [← hk]; exact hD.2.2.2.2.1 i (by omega) j hj) hD.1 ⟨hh, hh1⟩
    rw [f_X7_listNeeding_7, if_neg nle, gR_nn ni (by omega) x1, f_X12_findNeedy_7, g21, if_neg nle, em, bV_s]
    unfold f_X7_listNeeding_40 f_X7_listNeeding_45 f_X7_listNeeding_91 f_X12_findNeedy_46
    rw [y_int1]
    by_cases q : ¬ Sc.1 (128 + i) 8 = -1 ∧ ¬ Sc.1 2 13 < Sc.1 (128 + i) 14 ∧ (¬ Sc.1 (128 + i) 13 = 0 ∨ ¬ Sc.1 (128 + i) 5 < Sc.1 (128 + i) 6)
    · obtain ⟨q1, q2, q3⟩ := id q
      have n8 : n < 8 := by omega
      have e1 : Int32.ofNat n + 1 = Int32.ofNat (n + 1) := y_int1
      have nL := nn_lit (n + 1) (by omega)
      obtain ⟨hT1, hD1⟩ := row_ST (Sc' := yI (yA Sc 6 0 (upd (Sc.2.1 6 0) n (Int32.ofNat i))) 6 2 (Int32.ofNat (n + 1))) (Sm' := yI (yA Sm 8 58 (upd (Sm.2.1 8 58) n (Int32.ofNat i))) 8 59 (Int32.ofNat (n + 1))) hT hD (FR_trans (FR_A _ _ _ _ (Or.inr (Or.inl rfl))) (FR_I _ _ _ _ (Or.inr (Or.inl rfl)))) (FR_trans (FR_A _ _ _ _ (by unfold pRM; omega)) (FR_I _ _ _ _ (by unfold pRM; omega)))
      have hL1 : NL (n + 1) (yI (yA Sc 6 0 (upd (Sc.2.1 6 0) n (Int32.ofNat i))) 6 2 (Int32.ofNat (n + 1))) (yI (yA Sm 8 58 (upd (Sm.2.1 8 58) n (Int32.ofNat i))) 8 59 (Int32.ofNat (n + 1))) := by
        refine ⟨by rw [yI_1s]; exact nL, by rw [yI_1s, yI_1s], fun j hj => ?_⟩
        rw [yI_2, yI_2, yA_same, yA_same]
        by_cases e : j = n
        · rw [e, upd_s, upd_s]
        · rw [upd_o _ _ e, upd_o _ _ e]
          exact hL.2.2 j (by omega)
      obtain ⟨Sc', Sm', n', a1, a2, a3, a4, a5, a6, a7⟩ := ih (i + 1) m m' (n + 1) _ _ (by omega) (by omega) (by omega) (by omega) hT1 hD1 hL1 (fun j hj => by
        by_cases e : j = n
        · refine ⟨i, ?_, by omega, by rw [yI_1n _ _ (by omega)]; exact q1⟩
          rw [yI_2, yA_same, e, upd_s]
          exact ni
        · obtain ⟨p, b1, b2, b3⟩ := hA j (by omega)
          refine ⟨p, ?_, b2, by rw [yI_1n _ _ (by omega)]; exact b3⟩
          rw [yI_2, yA_same, upd_o _ _ e]
          exact b1)
      refine ⟨Sc', Sm', n', ?_, ?_, a3, a4, a5, FR_trans (FR_trans (FR_A _ _ _ _ ⟨rfl, Or.inl rfl⟩) (FR_I _ _ _ _ ⟨rfl, Or.inr rfl⟩)) a6, FR_trans (FR_trans (FR_A _ _ _ _ ⟨rfl, Or.inl rfl⟩) (FR_I _ _ _ _ ⟨rfl, Or.inr rfl⟩)) a7⟩
      · simp only [if_neg q1, if_neg (show ¬ (1 : Int32) = 0 by decide), if_neg q2, if_neg q1]
        rw [gA_nn hL.1 n8, sq_s, sq_s, yA_1, hL.1.1, e1]
        have a1' : f_X7_listNeeding_7 m N (yI (yA Sc 6 0 (upd (Sc.2.1 6 0) n (Int32.ofNat i))) 6 2 (Int32.ofNat (n + 1))) (Int32.ofNat (i + 1)) = some (Int32.ofNat n', Sc') := a1
        by_cases x : Sc.1 (128 + i) 13 = 0
        · have x' := q3.resolve_left (fun y => y x)
          rw [if_neg (fun y => y x), if_neg x']
          exact a1'
        · rw [if_pos x]
          exact a1'
      · rw [b01_t q, if_pos (show ¬ (1 : Int32) = 0 by decide), hL.2.1, gA_nn hL.1 n8, sq_s, sq_s, yA_1, hL.2.1, hL.1.1, e1]
        exact a2
    · obtain ⟨Sc', Sm', n', a1, a2, a3, a4, a5, a6, a7⟩ := ih (i + 1) m m' n Sc Sm (by omega) (by omega) (by omega) (by omega) hT hD hL hA
      refine ⟨Sc', Sm', n', ?_, ?_, a3, a4, a5, a6, a7⟩
      · by_cases z : Sc.1 (128 + i) 8 = -1
        · rw [if_pos z, if_pos z]
          by_cases x : Sc.1 (128 + i) 13 = 0
          · rw [if_neg (fun y => y x)]
            by_cases v : Sc.1 (128 + i) 5 < Sc.1 (128 + i) 6
            · rw [if_pos v]; exact a1
            · rw [if_neg v]; exact a1
          · rw [if_pos x]; exact a1
        · rw [if_neg z, if_neg z, if_neg (show ¬ (1 : Int32) = 0 by decide), if_pos rfl]
          by_cases y : Sc.1 2 13 < Sc.1 (128 + i) 14
          · rw [if_pos y]
            by_cases x : Sc.1 (128 + i) 13 = 0
            · rw [if_neg (fun y => y x)]
              by_cases v : Sc.1 (128 + i) 5 < Sc.1 (128 + i) 6
              · rw [if_pos v]; exact a1
              · rw [if_neg v]; exact a1
            · rw [if_pos x]; exact a1
          · by_cases x : Sc.1 (128 + i) 13 = 0
            · rw [if_neg (fun y => y x)]
              by_cases v : Sc.1 (128 + i) 5 < Sc.1 (128 + i) 6
              · rw [if_pos v]; exact a1
              · exact absurd ⟨z, y, Or.inr v⟩ q
            · exact absurd ⟨z, y, Or.inl x⟩ q
      · rw [b01_f q, if_neg (show ¬ ¬ (0 : Int32) = 0 from fun w => w rfl)]
        exact a2
theorem list_both {cK : Nat → Nat} {N nf nl np nq nb ng : Nat} {Sc Sm : yS} (hN : 60 < N) (hT : ST cK nf nl np nq nb ng Sc Sm) (hD : DY cK nf nl np nq nb ng Sc Sm) : ∃ Sc' Sm' n', f_X7_listNeeding N Sc = some (Int32.ofNat n', Sc') ∧ f_X12_findNeedy N Sm = some (Int32.ofNat n', Sm') ∧ NL n' Sc' Sm' ∧ n' ≤ np ∧ (∀ j, j < n' → ∃ p, nn (Sc'.2.1 6 0 j) p ∧ p < np ∧ ¬ Sc'.1 (128 + p) 8 = -1) ∧ FR (fun o k => o = 6 ∧ (k = 0 ∨ k = 2)) Sc Sc' ∧ FR (fun o k => o = 8 ∧ (k = 58 ∨ k = 59)) Sm Sm' ∧ ST cK nf nl np nq nb ng Sc' Sm' ∧ DY cK nf nl np nq nb ng Sc' Sm' := by
  have np8 : np ≤ 8 := hT.2.2.2.2.2.2.1.1.2.1
  obtain ⟨hT1, hD1⟩ := row_ST (Sc' := yI Sc 6 2 0) (Sm' := yI Sm 8 59 0) hT hD (FR_I _ _ _ _ (Or.inr (Or.inl rfl))) (FR_I _ _ _ _ (by unfold pRM; omega))
  obtain ⟨Sc', Sm', n', a1, a2, a3, a4, a5, a6, a7⟩ := needs_loop (N := N) np 0 N N 0 (yI Sc 6 2 0) (yI Sm 8 59 0) (by omega) (by omega) (by omega) (by omega) hT1 hD1 ⟨by rw [yI_1s]; exact nn_l 0 (by decide), by rw [yI_1s, yI_1s], fun j hj => by omega⟩ (fun j hj => by omega)
  obtain ⟨hT2, hD2⟩ := row_ST hT1 hD1 (FR_mono a6 (fun o k z => Or.inr (Or.inl z.1))) (FR_mono a7 (fun o k z => by unfold pRM; omega))
  refine ⟨Sc', Sm', n', ?_, ?_, a3, a4, a5, FR_trans (FR_I _ _ _ _ ⟨rfl, Or.inr rfl⟩) a6, FR_trans (FR_I _ _ _ _ ⟨rfl, Or.inr rfl⟩) a7, hT2, hD2⟩
  · unfold f_X7_listNeeding f_X7_listNeeding_0
    rw [sq_s]
    exact a1
  · unfold f_X12_findNeedy f_X12_findNeedy_0
    rw [sq_s]
    exact a2
theorem needs_both {cK : Nat → Nat} {N nf nl np nq nb ng : Nat} {Sc Sm : yS} (hN : 60 < N) (hT : ST cK nf nl np nq nb ng Sc Sm) (hD : DY cK nf nl np nq nb ng Sc Sm) : ∃ v Sc' Sm', f_X11_needs N Sc = some (v, Sc') ∧ f_X12_needs N Sm = some (v, Sm') ∧ ST cK nf nl np nq nb ng Sc' Sm' ∧ DY cK nf nl np nq nb ng Sc' Sm' ∧ FR (fun o k => o = 6 ∧ (k = 0 ∨ k = 2)) Sc Sc' ∧ FR (fun o k => o = 8 ∧ (k = 58 ∨ k = 59 ∨ k = 47)) Sm Sm' := by
  obtain ⟨hT1, hD1⟩ := clear_both hT hD
  obtain ⟨Sc', Sm', n', a1, a2, a3, a4, a5, a6, a7, a8, a9⟩ := list_both (N := N) hN hT1 hD1
  refine ⟨Int32.ofNat n', Sc', Sm', ?_, ?_, a8, a9, a6, FR_trans (FR_I _ _ _ _ ⟨rfl, Or.inr (Or.inr rfl)⟩) (FR_mono a7 (fun o k z => ⟨z.1, by omega⟩))⟩
  · unfold f_X11_needs f_X11_needs_0
    rw [a1, bS_s]
  · unfold f_X12_needs f_X12_needs_0
    rw [sq_s, a2, bS_s]
