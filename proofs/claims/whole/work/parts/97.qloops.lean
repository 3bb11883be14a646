/-! LOOPS OF A QUARTER -/
theorem QF_now {cK : Nat → Nat} {Sc Sm Sc' Sm' : yS} (h : QF cK Sc Sm Sc' Sm') : Sc'.1 2 13 = Sc.1 2 13 := (h.1 2 13 (fun z => by unfold pQC at z; omega)).1
theorem al_c {N p : Nat} {S : yS} : f_X6_isAloft N S (128 + p) = some (b01 (S.1 (128 + p) 8 = -1 ∧ S.1 (128 + p) 12 = 0)) := by
  unfold f_X6_isAloft f_X6_isAloft_0 f_X6_isAloft_19 f_X6_isAloft_20
  by_cases a : S.1 (128 + p) 8 = -1
  · rw [if_neg (fun z => z a)]
    by_cases b : S.1 (128 + p) 12 = 0
    · rw [if_neg (fun z => z b), gP_t (Or.inr rfl), b01_t ⟨a, b⟩]
    · rw [if_pos b, gP_t (Or.inl rfl), b01_f (fun z => b z.2)]
  · rw [if_pos a, gP_t (Or.inl rfl), b01_f (fun z => a z.1)]
theorem al_m {N p : Nat} {S : yS} {pI x y : Int32} (hpI : nn pI p) (hp : p < 8) (h0 : S.2.1 8 48 (19 + 23 * p + 0) = x) (h3 : S.2.1 8 48 (19 + 23 * p + 3) = y) : f_X12_isAloft N S pI = some (b01 (x = -1 ∧ y = 0)) := by
  unfold f_X12_isAloft f_X12_isAloft_0 f_X12_isAloft_23 f_X12_isAloft_24
  rw [em_planeR hpI hp (nn_l 0 (by decide)) (by decide), bV_s, em_planeR hpI hp (nn_l 3 (by decide)) (by decide), bV_s, h0, h3]
  by_cases a : x = -1
  · rw [if_neg (fun z => z a)]
    by_cases b : y = 0
    · rw [if_neg (fun z => z b), gP_t (Or.inr rfl), b01_t ⟨a, b⟩]
    · rw [if_pos b, gP_t (Or.inl rfl), b01_f (fun z => b z.2)]
  · rw [if_pos a, gP_t (Or.inl rfl), b01_f (fun z => a z.1)]
theorem planes_loop {cK : Nat → Nat} {N nf nl np nq nb ng : Nat} {k9 : yS → Int32 → Int32 → Int32 → Option (Int32 × yS)} {l1 l2 l3 : Int32} (hN : 120 < N) : ∀ (d i n n' : Nat) (Sc Sm : yS), i + d = np → d < n → d < n' → ST cK nf nl np nq nb ng Sc Sm → DY cK nf nl np nq nb ng Sc Sm → ∃ Sc' Sm', f_X10_pass_101 n N k9 Sc l1 l2 l3 (Int32.ofNat i) = k9 (yI Sc' 2 13 (Sc'.1 2 13 + 1)) l1 l2 (l3 + 1) ∧ f_X12_goQuarter_149 n' N Sm (Int32.ofNat i) = some (0, yA Sm' 8 48 (upd (Sm'.2.1 8 48) 0 (Sm'.2.1 8 48 0 + 1))) ∧ DY cK nf nl np nq nb ng Sc' Sm' ∧ QF cK Sc Sm Sc' Sm' := by
  intro d
  induction d with
  | zero =>
    intro i n n' Sc Sm hi hn hn' hT hD
    obtain ⟨n, rfl⟩ : ∃ x, n = x + 1 := ⟨n - 1, by omega⟩
    obtain ⟨n', rfl⟩ : ∃ x, n' = x + 1 := ⟨n' - 1, by omega⟩
    obtain ⟨t1, t2, t3, t4, t5, t6, t7, t8, t9, t10, t11, t12, t13, t14⟩ := id hT
    have ni := nn_lit i (by have := t7.1.2.1; omega)
    refine ⟨Sc, Sm, ?_, ?_, hD, QF_refl _ _⟩
    · rw [f_X10_pass_101, if_pos ((nn_le t7.1.1 ni).mpr (by omega)), sq_s]
    · rw [f_X12_goQuarter_149, t7.1.2.2, if_pos ((nn_le t7.1.1 ni).mpr (by omega)), gA_nn (nn_l 0 (by decide)) (by decide), gA_nn (nn_l 0 (by decide)) (by decide), sq_s]
  | succ d ih =>
    intro i n n' Sc Sm hi hn hn' hT hD
    obtain ⟨n, rfl⟩ : ∃ x, n = x + 1 := ⟨n - 1, by omega⟩
    obtain ⟨n', rfl⟩ : ∃ x, n' = x + 1 := ⟨n' - 1, by omega⟩
    obtain ⟨t1, t2, t3, t4, t5, t6, t7, t8, t9, t10, t11, t12, t13, t14⟩ := id hT
    have i8 : i < 8 := by have := t7.1.2.1; omega
    have ni := nn_lit i (by omega)
    have nle : ¬ Sc.1 2 5 ≤ Int32.ofNat i := fun q => by have := (nn_le t7.1.1 ni).mp q; omega
    have u0 : Sm.2.1 8 48 (19 + 23 * i + 0) = Sc.1 (128 + i) 8 := hD.2.2.2.2.1 i (by omega) 0 (by decide)
    have u3 : Sm.2.1 8 48 (19 + 23 * i + 3) = Sc.1 (128 + i) 12 := hD.2.2.2.2.1 i (by omega) 3 (by decide)
    rw [f_X10_pass_101, if_neg nle, gR_nn ni i8 (t8 i (by omega)).1, al_c, bV_s, f_X12_goQuarter_149, t7.1.2.2, if_neg nle, al_m ni i8 u0 u3, bV_s]
    unfold f_X10_pass_129 f_X12_goQuarter_170
    rw [y_int1]
    by_cases c : Sc.1 (128 + i) 8 = -1 ∧ Sc.1 (128 + i) 12 = 0
    · obtain ⟨Sc1, Sm1, a1, a2, a3, a4⟩ := fly_both (N := N) hT hD hN (show i < np by omega) ni c.1 c.2
      rw [b01_t c, if_neg (show ¬ (1 : Int32) = 0 by decide), if_neg (show ¬ (1 : Int32) = 0 by decide), a1, bS_s, a2, bS_s]
      obtain ⟨Sc', Sm', b1, b2, b3, b4⟩ := ih (i + 1) n n' Sc1 Sm1 (by omega) (by omega) (by omega) (ST_QF hT a4) a3
      exact ⟨Sc', Sm', b1, b2, b3, QF_trans a4 b4⟩
    · rw [b01_f c, if_pos rfl, if_pos rfl]
      exact ih (i + 1) n n' Sc Sm (by omega) (by omega) (by omega) hT hD
theorem flights_loop {cK : Nat → Nat} {N nf nl np nq nb ng : Nat} {k9 : yS → Int32 → Int32 → Int32 → Option (Int32 × yS)} {l1 l2 l3 now : Int32} (hN : 120 < N) : ∀ (d i n n' : Nat) (Sc Sm : yS), i + d = ng → d < n → d < n' → now = Sc.1 2 13 → ST cK nf nl np nq nb ng Sc Sm → DY cK nf nl np nq nb ng Sc Sm → ∃ Sc' Sm', f_X10_pass_47 n N k9 Sc l1 l2 l3 (Int32.ofNat i) = f_X10_pass_101 N N k9 Sc' l1 l2 l3 0 ∧ f_X12_goQuarter_76 n' N Sm now (Int32.ofNat i) = f_X12_goQuarter_149 N N Sm' 0 ∧ DY cK nf nl np nq nb ng Sc' Sm' ∧ QF cK Sc Sm Sc' Sm' := by
  intro d
  induction d with
  | zero =>
    intro i n n' Sc Sm hi hn hn' hnow hT hD
    obtain ⟨n, rfl⟩ : ∃ x, n = x + 1 := ⟨n - 1, by omega⟩
    obtain ⟨n', rfl⟩ : ∃ x, n' = x + 1 := ⟨n' - 1, by omega⟩
    obtain ⟨t1, t2, t3, t4, t5, t6, t7, t8, t9, t10, t11, t12, t13, t14⟩ := id hT
    have ni := nn_lit i (by have := t7.2.2.2.2.1; omega)
    refine ⟨Sc, Sm, ?_, ?_, hD, QF_refl _ _⟩
    · rw [f_X10_pass_47, if_pos ((nn_le t7.2.2.2.1 ni).mpr (by omega))]
    · rw [f_X12_goQuarter_76, t7.2.2.2.2.2, if_pos ((nn_le t7.2.2.2.1 ni).mpr (by omega))]
  | succ d ih =>
    intro i n n' Sc Sm hi hn hn' hnow hT hD
    obtain ⟨n, rfl⟩ : ∃ x, n = x + 1 := ⟨n - 1, by omega⟩
    obtain ⟨n', rfl⟩ : ∃ x, n' = x + 1 := ⟨n' - 1, by omega⟩
    obtain ⟨t1, t2, t3, t4, t5, t6, t7, t8, t9, t10, t11, t12, t13, t14⟩ := id hT
    have i24 : i < 24 := by have := t7.2.2.2.2.1; omega
    have ni := nn_lit i (by omega)
    have nle : ¬ Sc.1 2 12 ≤ Int32.ofNat i := fun q => by have := (nn_le t7.2.2.2.1 ni).mp q; omega
    have u0 : Sm.2.1 8 48 (1345 + 5 * i + 0) = Sc.1 (512 + i) 4 := hD.2.2.2.2.2.2.2.1 i (by omega) 0 (by decide)
    obtain ⟨e0, e1, e2, e3, e4, _, _, _, _⟩ := t11 i (by omega)
    have wc : f_X1_waits N Sc (512 + i) = some (b01 (Sc.1 (512 + i) 4 = 0)) := by
      unfold f_X1_waits f_X1_waits_0 f_X1_waits_12
      by_cases a : Sc.1 (512 + i) 4 = 0
      · rw [if_neg (fun z => z a), gP_t (Or.inr rfl), b01_t a]
      · rw [if_pos a, gP_t (Or.inl rfl), b01_f a]
    have wm : f_X12_waits N Sm (Int32.ofNat i) = some (b01 (Sc.1 (512 + i) 4 = 0)) := by
      unfold f_X12_waits f_X12_waits_0 f_X12_waits_27 f_X12_waits_28
      rw [e_in, bV_s, b01_t (nn_idx' (by rw [t7.2.2.2.2.2]; exact t7.2.2.2.1) ni (by omega)), if_neg (show ¬ (1 : Int32) = 0 by decide), em_flR ni i24 (nn_l 0 (by decide)) (by decide), bV_s, u0]
      by_cases a : Sc.1 (512 + i) 4 = 0
      · rw [if_neg (fun z => z a), gP_t (Or.inr rfl), b01_t a]
      · rw [if_pos a, gP_t (Or.inl rfl), b01_f a]
    have c92 : ∀ S : yS, f_X10_pass_92 N k9 (fun S l1 l2 l3 l4 => f_X10_pass_47 n N k9 S l1 l2 l3 l4) S l1 l2 l3 (Int32.ofNat i) = f_X10_pass_47 n N k9 S l1 l2 l3 (Int32.ofNat (i + 1)) := by
      intro S
      unfold f_X10_pass_92
      rw [y_int1]
    have c141 : ∀ S : yS, f_X12_goQuarter_141 N (fun S l1 l2 => f_X12_goQuarter_76 n' N S l1 l2) S now (Int32.ofNat i) = f_X12_goQuarter_76 n' N S now (Int32.ofNat (i + 1)) := by
      intro S
      unfold f_X12_goQuarter_141
      rw [y_int1]
    rw [f_X10_pass_47, if_neg nle, gR_nn ni i24 e0, wc, bV_s, f_X12_goQuarter_76, t7.2.2.2.2.2, if_neg nle, wm, bV_s]
    by_cases c : Sc.1 (512 + i) 4 = 0
    · rw [b01_t c, if_neg (show ¬ (1 : Int32) = 0 by decide), if_neg (show ¬ (1 : Int32) = 0 by decide), gR_nn ni i24 e0, gA_nn ni i24, e4, hnow]
      by_cases h : Sc.1 (512 + i) 3 ≤ Sc.1 2 13
      · obtain ⟨Sc1, Sm1, a1, a2, a3, a4⟩ := try_both (N := N) hT hD hN (show i < ng by omega) ni c h
        rw [if_neg (Int32.not_lt.mpr h), if_pos h, a1, bS_s, c92, gA_nn ni i24, e4]
        have a2' := a2 (fun S => f_X12_goQuarter_141 N (fun S l1 l2 => f_X12_goQuarter_76 n' N S l1 l2) S (Sc.1 2 13) (Int32.ofNat i))
        rw [← hnow] at a2'
        obtain ⟨Sc', Sm', b1, b2, b3, b4⟩ := ih (i + 1) n n' Sc1 Sm1 (by omega) (by omega) (by omega) (hnow.trans (QF_now a4).symm) (ST_QF hT a4) a3
        rw [← hnow]
        refine ⟨Sc', Sm', b1, ?_, b3, QF_trans a4 b4⟩
        refine Eq.trans a2' ?_
        exact (c141 Sm1).trans b2
      · rw [if_pos (Int32.not_le.mp h), if_neg h, c92, ← hnow, c141]
        exact ih (i + 1) n n' Sc Sm (by omega) (by omega) (by omega) hnow hT hD
    · rw [b01_f c, if_pos rfl, if_pos rfl, c92, c141]
      exact ih (i + 1) n n' Sc Sm (by omega) (by omega) (by omega) hnow hT hD
theorem pilots_loop {cK : Nat → Nat} {N nf nl np nq nb ng : Nat} {now : Int32} : ∀ (d i n n' : Nat) (Sc Sm : yS), i + d = nq → d < n → d < n' → ST cK nf nl np nq nb ng Sc Sm → DY cK nf nl np nq nb ng Sc Sm → ∃ Sc' Sm', f_X10_beginQuarter_12 n N Sc (Int32.ofNat i) = f_X10_beginQuarter_36 N Sc' ∧ f_X12_goQuarter_16 n' N Sm now (Int32.ofNat i) = f_X12_goQuarter_37 N Sm' now ∧ DY cK nf nl np nq nb ng Sc' Sm' ∧ QF cK Sc Sm Sc' Sm' := by
  intro d
  induction d with
  | zero =>
    intro i n n' Sc Sm hi hn hn' hT hD
    obtain ⟨n, rfl⟩ : ∃ x, n = x + 1 := ⟨n - 1, by omega⟩
    obtain ⟨n', rfl⟩ : ∃ x, n' = x + 1 := ⟨n' - 1, by omega⟩
    obtain ⟨t1, t2, t3, t4, t5, t6, t7, t8, t9, t10, t11, t12, t13, t14⟩ := id hT
    have ni := nn_lit i (by have := t7.2.1.2.1; omega)
    refine ⟨Sc, Sm, ?_, ?_, hD, QF_refl _ _⟩
    · rw [f_X10_beginQuarter_12, if_pos ((nn_le t7.2.1.1 ni).mpr (by omega))]
    · rw [f_X12_goQuarter_16, t7.2.1.2.2, if_pos ((nn_le t7.2.1.1 ni).mpr (by omega))]
  | succ d ih =>
    intro i n n' Sc Sm hi hn hn' hT hD
    obtain ⟨n, rfl⟩ : ∃ x, n = x + 1 := ⟨n - 1, by omega⟩
    obtain ⟨n', rfl⟩ : ∃ x, n' = x + 1 := ⟨n' - 1, by omega⟩
    obtain ⟨t1, t2, t3, t4, t5, t6, t7, t8, t9, t10, t11, t12, t13, t14⟩ := id hT
    have i8 : i < 8 := by have := t7.2.1.2.1; omega
    have ni := nn_lit i (by omega)
    have nle : ¬ Sc.1 2 7 ≤ Int32.ofNat i := fun q => by have := (nn_le t7.2.1.1 ni).mp q; omega
    have hd := DY_any (o := 256 + i) (k := 2) (i := 203 + 4 * i + 2) (v := 0) hD t7 t2.2.1 (Or.inr (Or.inl ⟨i, by omega, rfl, by decide, rfl⟩))
    have hq : QF cK Sc Sm (yI Sc (256 + i) 2 0) (yA Sm 8 48 (upd (Sm.2.1 8 48) (203 + 4 * i + 2) 0)) := ⟨FR_I _ _ _ _ (by unfold pQC; omega), FR_A _ _ _ _ ⟨rfl, Or.inr (Or.inl rfl)⟩, fun j a b => by rw [yA_same, upd_o _ _ (by omega)]⟩
    have pW : f_X12_setPilot N Sm (Int32.ofNat i) 2 0 = some (0, yA Sm 8 48 (upd (Sm.2.1 8 48) (203 + 4 * i + 2) 0)) := by
      unfold f_X12_setPilot f_X12_setPilot_0
      rw [gA_nn (nn_add (nn_add (nn_l 203 (by decide)) (nn_mul (nn_l 4 (by decide)) ni (by omega)) (by omega)) (nn_l 2 (by decide)) (by omega)) (by omega), sq_s]
    rw [f_X10_beginQuarter_12, if_neg nle, gR_nn ni i8 (t9 i (by omega)), sq_s, y_int1, f_X12_goQuarter_16, t7.2.1.2.2, if_neg nle, pW, bS_s, y_int1]
    obtain ⟨Sc', Sm', b1, b2, b3, b4⟩ := ih (i + 1) n n' _ _ (by omega) (by omega) (by omega) (ST_QF hT hq) hd
    exact ⟨Sc', Sm', b1, b2, b3, QF_trans hq b4⟩
