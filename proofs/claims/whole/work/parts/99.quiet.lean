/-- neither the row of answers nor the signs -/
def kR (Sc Sm Sc' Sm' : yS) : Prop := (∀ k, Sc'.1 0 k = Sc.1 0 k ∧ Sc'.2.1 0 k = Sc.2.1 0 k) ∧ ∀ k, 43 ≤ k → k ≤ 46 → Sm'.1 8 k = Sm.1 8 k ∧ Sm'.2.1 8 k = Sm.2.1 8 k
theorem kR_FR {pc pm : Nat → Nat → Prop} {Sc Sm Sc' Sm' : yS} (F : FR pc Sc Sc') (G : FR pm Sm Sm') (hc : ∀ k, ¬ pc 0 k) (hm : ∀ k, 43 ≤ k → k ≤ 46 → ¬ pm 8 k) : kR Sc Sm Sc' Sm' := ⟨fun k => F 0 k (hc k), fun k a b => G 8 k (hm k a b)⟩
theorem kR_trans {Sc Sm Sc' Sm' Sc'' Sm'' : yS} (h : kR Sc Sm Sc' Sm') (g : kR Sc' Sm' Sc'' Sm'') : kR Sc Sm Sc'' Sm'' := ⟨fun k => ⟨(g.1 k).1.trans (h.1 k).1, (g.1 k).2.trans (h.1 k).2⟩, fun k a b => ⟨(g.2 k a b).1.trans (h.2 k a b).1, (g.2 k a b).2.trans (h.2 k a b).2⟩⟩
theorem kR_cl {Sc Sm : yS} : kR Sc Sm Sc (yI Sm 8 47 0) := kR_FR (FR_refl (fun _ _ => False) _) (FR_I (p := fun o k => o = 8 ∧ k = 47) _ _ _ _ ⟨rfl, rfl⟩) (fun _ h => h) (fun k a b h => by have := h.2; omega)
theorem kR_QF {cK : Nat → Nat} {Sc Sm Sc' Sm' : yS} (h : QF cK Sc Sm Sc' Sm') : kR Sc Sm Sc' Sm' := kR_FR h.1 h.2.1 (fun k z => by unfold pQC at z; omega) (fun k a b z => by unfold pQM at z; omega)
theorem kR_QH {cK : Nat → Nat} {Sc Sm Sc' Sm' : yS} (h : QH cK Sc Sm Sc' Sm') : kR Sc Sm Sc' Sm' := kR_FR h.1 h.2.1 (fun k z => by unfold pQH pQC at z; omega) (fun k a b z => by unfold pQM at z; omega)
/-! QUIET QUARTERS -/
def qB (u : Int32) (np nb ng : Nat) (S : yS) : Prop := ¬ u - u / 96 * 96 = 0 ∧ (∀ p, p < np → ¬ (S.1 (128 + p) 8 = -1 ∧ S.1 (128 + p) 12 = 0)) ∧ (∀ g, g < ng → S.1 (512 + g) 4 = 0 → ¬ S.1 (512 + g) 3 ≤ u) ∧ ∀ b, b < nb → ¬ S.1 (384 + b) 7 = u
theorem quiet_go {cK : Nat → Nat} {N nf nl np nq nb ng : Nat} {Sc Sm : yS} (hN : 120 < N) (hT : ST cK nf nl np nq nb ng Sc Sm) (hD : DY cK nf nl np nq nb ng Sc Sm) (hq : qB (Sc.1 2 13) np nb ng Sc) : f_X12_goQuarter N Sm = some (0, yA Sm 8 48 (upd (Sm.2.1 8 48) 0 (Sc.1 2 13 + 1))) := by
  obtain ⟨t1, t2, t3, t4, t5, t6, t7, t8, t9, t10, t11, t12, t13, t14⟩ := id hT
  obtain ⟨q1, q2, q3, q4⟩ := hq
  have np8 : np ≤ 8 := t7.1.2.1
  have nb30 : nb ≤ 30 := t7.2.2.1.2.1
  have ng24 : ng ≤ 24 := t7.2.2.2.2.1
  have h149 : ∀ (d i n : Nat), i + d = np → d < n → f_X12_goQuarter_149 n N Sm (Int32.ofNat i) = some (0, yA Sm 8 48 (upd (Sm.2.1 8 48) 0 (Sc.1 2 13 + 1))) := by
    intro d
    induction d with
    | zero =>
      intro i n hi hn
      obtain ⟨n, rfl⟩ : ∃ x, n = x + 1 := ⟨n - 1, by omega⟩
      rw [f_X12_goQuarter_149, t7.1.2.2, if_pos ((nn_le t7.1.1 (nn_lit i (by omega))).mpr (by omega)), gA_nn (nn_l 0 (by decide)) (by decide), gA_nn (nn_l 0 (by decide)) (by decide), sq_s, hD.1]
    | succ d ih =>
      intro i n hi hn
      obtain ⟨n, rfl⟩ : ∃ x, n = x + 1 := ⟨n - 1, by omega⟩
      have ni := nn_lit i (by omega)
      have nle : ¬ Sc.1 2 5 ≤ Int32.ofNat i := fun q => by have := (nn_le t7.1.1 ni).mp q; omega
      have u0 : Sm.2.1 8 48 (19 + 23 * i + 0) = Sc.1 (128 + i) 8 := hD.2.2.2.2.1 i (by omega) 0 (by decide)
      have u3 : Sm.2.1 8 48 (19 + 23 * i + 3) = Sc.1 (128 + i) 12 := hD.2.2.2.2.1 i (by omega) 3 (by decide)
      rw [f_X12_goQuarter_149, t7.1.2.2, if_neg nle, al_m ni (by omega) u0 u3, bV_s, b01_f (q2 i (by omega)), if_pos rfl]
      unfold f_X12_goQuarter_170
      rw [y_int1]
      exact ih (i + 1) n (by omega) (by omega)
  have h76 : ∀ (d i n : Nat), i + d = ng → d < n → f_X12_goQuarter_76 n N Sm (Sc.1 2 13) (Int32.ofNat i) = f_X12_goQuarter_149 N N Sm 0 := by
    intro d
    induction d with
    | zero =>
      intro i n hi hn
      obtain ⟨n, rfl⟩ : ∃ x, n = x + 1 := ⟨n - 1, by omega⟩
      rw [f_X12_goQuarter_76, t7.2.2.2.2.2, if_pos ((nn_le t7.2.2.2.1 (nn_lit i (by omega))).mpr (by omega))]
    | succ d ih =>
      intro i n hi hn
      obtain ⟨n, rfl⟩ : ∃ x, n = x + 1 := ⟨n - 1, by omega⟩
      have ni := nn_lit i (by omega)
      have nle : ¬ Sc.1 2 12 ≤ Int32.ofNat i := fun q => by have := (nn_le t7.2.2.2.1 ni).mp q; omega
      have u0 : Sm.2.1 8 48 (1345 + 5 * i + 0) = Sc.1 (512 + i) 4 := hD.2.2.2.2.2.2.2.1 i (by omega) 0 (by decide)
      obtain ⟨e0, e1, e2, e3, e4, _, _, _, _⟩ := t11 i (by omega)
      have wm : f_X12_waits N Sm (Int32.ofNat i) = some (b01 (Sc.1 (512 + i) 4 = 0)) := by
        unfold f_X12_waits f_X12_waits_0 f_X12_waits_27 f_X12_waits_28
        rw [e_in, bV_s, b01_t (nn_idx' (by rw [t7.2.2.2.2.2]; exact t7.2.2.2.1) ni (by omega)), if_neg (show ¬ (1 : Int32) = 0 by decide), em_flR ni (by omega) (nn_l 0 (by decide)) (by decide), bV_s, u0]
        by_cases a : Sc.1 (512 + i) 4 = 0
        · rw [if_neg (fun z => z a), gP_t (Or.inr rfl), b01_t a]
        · rw [if_pos a, gP_t (Or.inl rfl), b01_f a]
      have c141 : f_X12_goQuarter_141 N (fun S l1 l2 => f_X12_goQuarter_76 n N S l1 l2) Sm (Sc.1 2 13) (Int32.ofNat i) = f_X12_goQuarter_76 n N Sm (Sc.1 2 13) (Int32.ofNat (i + 1)) := by
        unfold f_X12_goQuarter_141
        rw [y_int1]
      rw [f_X12_goQuarter_76, t7.2.2.2.2.2, if_neg nle, wm, bV_s]
      by_cases c : Sc.1 (512 + i) 4 = 0
      · rw [b01_t c, if_neg (show ¬ (1 : Int32) = 0 by decide), gA_nn ni (by omega), e4, if_neg (q3 i (by omega) c), c141]
        exact ih (i + 1) n (by omega) (by omega)
      · rw [b01_f c, if_pos rfl, c141]
        exact ih (i + 1) n (by omega) (by omega)
  have h39 : ∀ (d i n : Nat), i + d = nb → d < n → f_X12_goQuarter_39 n N Sm (Sc.1 2 13) (Int32.ofNat i) = f_X12_goQuarter_76 N N Sm (Sc.1 2 13) 0 := by
    intro d
    induction d with
    | zero =>
      intro i n hi hn
      obtain ⟨n, rfl⟩ : ∃ x, n = x + 1 := ⟨n - 1, by omega⟩
      rw [f_X12_goQuarter_39, t7.2.2.1.2.2, if_pos ((nn_le t7.2.2.1.1 (nn_lit i (by omega))).mpr (by omega))]
    | succ d ih =>
      intro i n hi hn
      obtain ⟨n, rfl⟩ : ∃ x, n = x + 1 := ⟨n - 1, by omega⟩
      have ni := nn_lit i (by omega)
      have nle : ¬ Sc.1 2 9 ≤ Int32.ofNat i := fun q => by have := (nn_le t7.2.2.1.1 ni).mp q; omega
      have w1 : Sm.2.1 8 48 (235 + 37 * i + 2) = Sc.1 (384 + i) 7 := (hD.2.2.2.2.2.2.1 i (by omega)).1 2 (by decide)
      rw [f_X12_goQuarter_39, t7.2.2.1.2.2, if_neg nle, em_bagOf ni (by omega) (nn_l 2 (by decide)) (by decide), bV_s, w1, if_pos (q4 i (by omega))]
      unfold f_X12_goQuarter_68
      rw [y_int1]
      exact ih (i + 1) n (by omega) (by omega)
  unfold f_X12_goQuarter f_X12_goQuarter_0 f_X12_goQuarter_37
  rw [gA_nn (nn_l 0 (by decide)) (by decide), hD.1, if_pos q1]
  exact (h39 nb 0 N (by omega) (by omega)).trans ((h76 ng 0 N (by omega) (by omega)).trans (h149 np 0 N (by omega) (by omega)))
theorem busy_bags {N nb : Nat} {S : yS} (hc : nn (S.1 2 9) nb) (nb30 : nb ≤ 30) (hx : ∀ b, b < nb → S.2.1 2 8 b = 1) : ∀ (d i n : Nat) (l2 : Int32), i + d = nb → d < n → ∃ v, f_X10_nextBusy_94 n N S l2 (Int32.ofNat i) = some (if v < S.1 2 13 then S.1 2 13 else v) ∧ v ≤ l2 ∧ ∀ b, i ≤ b → b < nb → S.1 (384 + b) 7 = -1 ∨ v ≤ S.1 (384 + b) 7 := by
  intro d
  induction d with
  | zero =>
    intro i n l2 hi hn
    obtain ⟨n, rfl⟩ : ∃ x, n = x + 1 := ⟨n - 1, by omega⟩
    refine ⟨l2, ?_, Int32.le_refl _, fun b h1 h2 => by omega⟩
    rw [f_X10_nextBusy_94, if_pos ((nn_le hc (nn_lit i (by omega))).mpr (by omega))]
  | succ d ih =>
    intro i n l2 hi hn
    obtain ⟨n, rfl⟩ : ∃ x, n = x + 1 := ⟨n - 1, by omega⟩
    have ni := nn_lit i (by omega)
    have nle : ¬ S.1 2 9 ≤ Int32.ofNat i := fun q => by have := (nn_le hc ni).mp q; omega
    have hi1 := hx i (by omega)
    by_cases c : S.1 (384 + i) 7 = -1
    · obtain ⟨v, v1, v2, v3⟩ := ih (i + 1) n l2 (by omega) (by omega)
      refine ⟨v, ?_, v2, fun b h1 h2 => ?_⟩
      · rw [f_X10_nextBusy_94, if_neg nle, gR_nn ni (by omega) hi1, if_pos c]
        unfold f_X10_nextBusy_129
        rw [y_int1]
        exact v1
      · by_cases e : b = i
        · rw [e]; exact Or.inl c
        · exact v3 b (by omega) h2
    · obtain ⟨v, v1, v2, v3⟩ := ih (i + 1) n (if S.1 (384 + i) 7 < l2 then S.1 (384 + i) 7 else l2) (by omega) (by omega)
      have m1 : (if S.1 (384 + i) 7 < l2 then S.1 (384 + i) 7 else l2) ≤ l2 := by
        by_cases z : S.1 (384 + i) 7 < l2
        · rw [if_pos z]; exact Int32.le_of_lt z
        · rw [if_neg z]; exact Int32.le_refl _
      have m2 : (if S.1 (384 + i) 7 < l2 then S.1 (384 + i) 7 else l2) ≤ S.1 (384 + i) 7 := by
        by_cases z : S.1 (384 + i) 7 < l2
        · rw [if_pos z]; exact Int32.le_refl _
        · rw [if_neg z]; exact Int32.not_lt.mp z
      refine ⟨v, ?_, Int32.le_trans v2 m1, fun b h1 h2 => ?_⟩
      · rw [f_X10_nextBusy_94, if_neg nle, gR_nn ni (by omega) hi1, if_neg c, gR_nn ni (by omega) hi1]
        unfold f_X10_nextBusy_129
        rw [y_int1]
        exact v1
      · by_cases e : b = i
        · rw [e]; exact Or.inr (Int32.le_trans v2 m2)
        · exact v3 b (by omega) h2
theorem busy_flights {N ng : Nat} {S : yS} (hc : nn (S.1 2 12) ng) (ng24 : ng ≤ 24) (hx : ∀ b, b < ng → S.2.1 2 11 b = 1) : ∀ (d i n : Nat) (l2 : Int32), i + d = ng → d < n → ∃ v, f_X10_nextBusy_52 n N S l2 (Int32.ofNat i) = f_X10_nextBusy_94 N N S v 0 ∧ v ≤ l2 ∧ ∀ g, i ≤ g → g < ng → S.1 (512 + g) 4 = 0 → v ≤ S.1 (512 + g) 3 := by
  intro d
  induction d with
  | zero =>
    intro i n l2 hi hn
    obtain ⟨n, rfl⟩ : ∃ x, n = x + 1 := ⟨n - 1, by omega⟩
    refine ⟨l2, ?_, Int32.le_refl _, fun b h1 h2 => by omega⟩
    rw [f_X10_nextBusy_52, if_pos ((nn_le hc (nn_lit i (by omega))).mpr (by omega))]
  | succ d ih =>
    intro i n l2 hi hn
    obtain ⟨n, rfl⟩ : ∃ x, n = x + 1 := ⟨n - 1, by omega⟩
    have ni := nn_lit i (by omega)
    have nle : ¬ S.1 2 12 ≤ Int32.ofNat i := fun q => by have := (nn_le hc ni).mp q; omega
    have hi1 := hx i (by omega)
    have wc : f_X1_waits N S (512 + i) = some (b01 (S.1 (512 + i) 4 = 0)) := by
      unfold f_X1_waits f_X1_waits_0 f_X1_waits_12
      by_cases a : S.1 (512 + i) 4 = 0
      · rw [if_neg (fun z => z a), gP_t (Or.inr rfl), b01_t a]
      · rw [if_pos a, gP_t (Or.inl rfl), b01_f a]
    by_cases c : S.1 (512 + i) 4 = 0
    · obtain ⟨v, v1, v2, v3⟩ := ih (i + 1) n (if S.1 (512 + i) 3 < l2 then S.1 (512 + i) 3 else l2) (by omega) (by omega)
      have m1 : (if S.1 (512 + i) 3 < l2 then S.1 (512 + i) 3 else l2) ≤ l2 := by
        by_cases z : S.1 (512 + i) 3 < l2
        · rw [if_pos z]; exact Int32.le_of_lt z
        · rw [if_neg z]; exact Int32.le_refl _
      have m2 : (if S.1 (512 + i) 3 < l2 then S.1 (512 + i) 3 else l2) ≤ S.1 (512 + i) 3 := by
        by_cases z : S.1 (512 + i) 3 < l2
        · rw [if_pos z]; exact Int32.le_refl _
        · rw [if_neg z]; exact Int32.not_lt.mp z
      refine ⟨v, ?_, Int32.le_trans v2 m1, fun b h1 h2 h3 => ?_⟩
      · rw [f_X10_nextBusy_52, if_neg nle, gR_nn ni (by omega) hi1, wc, bV_s, b01_t c, if_neg (show ¬ (1 : Int32) = 0 by decide), gR_nn ni (by omega) hi1]
        unfold f_X10_nextBusy_86
        rw [y_int1]
        exact v1
      · by_cases e : b = i
        · rw [e]; exact Int32.le_trans v2 m2
        · exact v3 b (by omega) h2 h3
    · obtain ⟨v, v1, v2, v3⟩ := ih (i + 1) n l2 (by omega) (by omega)
      refine ⟨v, ?_, v2, fun b h1 h2 h3 => ?_⟩
      · rw [f_X10_nextBusy_52, if_neg nle, gR_nn ni (by omega) hi1, wc, bV_s, b01_f c, if_pos rfl]
        unfold f_X10_nextBusy_86
        rw [y_int1]
        exact v1
      · by_cases e : b = i
        · rw [e] at h3; exact absurd h3 c
        · exact v3 b (by omega) h2 h3
theorem busy_planes {N np : Nat} {S : yS} (hc : nn (S.1 2 5) np) (np8 : np ≤ 8) (hx : ∀ b, b < np → S.2.1 2 4 b = 1) : ∀ (d i n : Nat) (l2 : Int32), i + d = np → d < n → f_X10_nextBusy_19 n N S l2 (Int32.ofNat i) = some (S.1 2 13) ∨ (f_X10_nextBusy_19 n N S l2 (Int32.ofNat i) = f_X10_nextBusy_52 N N S l2 0 ∧ ∀ p, i ≤ p → p < np → ¬ (S.1 (128 + p) 8 = -1 ∧ S.1 (128 + p) 12 = 0)) := by
  intro d
  induction d with
  | zero =>
    intro i n l2 hi hn
    obtain ⟨n, rfl⟩ : ∃ x, n = x + 1 := ⟨n - 1, by omega⟩
    refine Or.inr ⟨?_, fun b h1 h2 => by omega⟩
    rw [f_X10_nextBusy_19, if_pos ((nn_le hc (nn_lit i (by omega))).mpr (by omega))]
  | succ d ih =>
    intro i n l2 hi hn
    obtain ⟨n, rfl⟩ : ∃ x, n = x + 1 := ⟨n - 1, by omega⟩
    have ni := nn_lit i (by omega)
    have nle : ¬ S.1 2 5 ≤ Int32.ofNat i := fun q => by have := (nn_le hc ni).mp q; omega
    rw [f_X10_nextBusy_19, if_neg nle, gR_nn ni (by omega) (hx i (by omega)), al_c, bV_s]
    by_cases c : S.1 (128 + i) 8 = -1 ∧ S.1 (128 + i) 12 = 0
    · rw [b01_t c, if_neg (show ¬ (1 : Int32) = 0 by decide)]
      exact Or.inl rfl
    · rw [b01_f c, if_pos rfl, y_int1]
      rcases ih (i + 1) n l2 (by omega) (by omega) with h | ⟨h1, h2⟩
      · exact Or.inl h
      · refine Or.inr ⟨h1, fun p a b => ?_⟩
        by_cases e : p = i
        · rw [e]; exact c
        · exact h2 p (by omega) b
