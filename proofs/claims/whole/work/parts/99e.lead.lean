/-! LEAD: what a bag went through, as the row of answers -/
/-- what calls that only ask may change -/
def pRC (o k : Nat) : Prop := o = 0 ∨ o = 6 ∨ o = 7 ∨ o = 9 ∨ (o = 2 ∧ 17 ≤ k ∧ k ≤ 19)
def pRM (o k : Nat) : Prop := (o = 8 ∧ (k = 45 ∨ k = 46 ∨ k = 47 ∨ k = 49 ∨ 58 ≤ k)) ∨ o = 10
theorem row_ST {cK : Nat → Nat} {nf nl np nq nb ng : Nat} {Sc Sm Sc' Sm' : yS} (hT : ST cK nf nl np nq nb ng Sc Sm) (hD : DY cK nf nl np nq nb ng Sc Sm) (hc : FR pRC Sc Sc') (hm : FR pRM Sm Sm') : ST cK nf nl np nq nb ng Sc' Sm' ∧ DY cK nf nl np nq nb ng Sc' Sm' := by
  have nb30 : nb ≤ 30 := hT.2.2.2.2.2.2.1.2.2.1.2.1
  have nl12 : nl ≤ 12 := hT.2.1.2.1
  have w : Sm'.2.1 8 48 = Sm.2.1 8 48 := (hm 8 48 (fun z => by unfold pRM at z; omega)).2
  refine ⟨ST_FW hT (FR_mono hc (fun o k z => Or.inr (Or.inr (Or.inr (Or.inr z))))) (FR_mono hm (fun o k z => ?_)) (fun i a b => by rw [w]), ?_⟩
  · unfold pRM at z
    unfold pQN pQM
    omega
  · obtain ⟨d1, d2, d3, ⟨kw, d4⟩, d5, d6, d7, d8, d9⟩ := hD
    have c : ∀ o k, ((o = 2 ∧ k < 17) ∨ o = 3 ∨ 64 ≤ o) → Sc'.1 o k = Sc.1 o k ∧ Sc'.2.1 o k = Sc.2.1 o k := fun o k z => hc o k (fun y => by unfold pRC at y; omega)
    refine ⟨?_, ?_, ?_, ⟨kw, ?_⟩, ?_, ?_, ?_, ?_, ?_⟩
    · rw [w, (c 2 13 (by omega)).1]; exact d1
    · rw [w, (c 2 14 (by omega)).1]; exact d2
    · rw [(c 2 13 (by omega)).1]; exact d3
    · exact RWk_congr d4 (c 3 0 (by omega)).1 (c 3 1 (by omega)).1 (hm 8 34 (fun z => by unfold pRM at z; omega)).1 (funext fun k => (c 3 k (by omega)).2) (by rw [w]) (fun i _ _ => by rw [w])
    · intro p hp j hj
      rw [w, (c _ _ (by omega)).1]; exact d5 p hp j hj
    · intro q hq j hj
      rw [w, (c _ _ (by omega)).1]; exact d6 q hq j hj
    · exact RBd_fr d7 nb30 (fun b hb k => c _ k (by omega)) (fun i _ _ => by rw [w])
    · intro g hg j hj
      rw [w, (c _ _ (by omega)).1]; exact d8 g hg j hj
    · intro p hp
      refine PI_keep (d9 p hp) (fun k => (c _ k (by omega)).1) (c _ 19 (by omega)).2 (fun j hj => by rw [w]) (fun l hl' => (c _ 2 (by omega)).1) (fun g hg hne => ?_)
      rw [(c _ 7 (by omega)).1, (c _ 4 (by omega)).1, (c _ 1 (by omega)).1, (c _ 2 (by omega)).1]
      exact ⟨rfl, hne, rfl, rfl⟩
theorem lead_loop {N b : Nat} {bI l2 : Int32} {n : Nat} (hb : b < 30) (hbI : nn bI b) (hn : nn l2 n) (h16 : n ≤ 16) : ∀ (d i m : Nat) (S : yS), i + d = 2 * n → d < m → ∃ S', f_X12_lead_24 m N S bI l2 (Int32.ofNat i) = some (l2, S') ∧ FR (fun o k => o = 8 ∧ (k = 45 ∨ k = 46 ∨ k = 47)) S S' ∧ S'.1 8 46 = 2 * l2 ∧ (∀ j, j < i → S'.2.1 8 45 j = S.2.1 8 45 j) ∧ ∀ j, i ≤ j → j < 2 * n → S'.2.1 8 45 j = S.2.1 8 48 (235 + 37 * b + 5 + j) := by
  intro d
  induction d with
  | zero =>
    intro i m S hi hm
    obtain ⟨m, rfl⟩ : ∃ x, m = x + 1 := ⟨m - 1, by omega⟩
    have n2 : nn (2 * l2) (2 * n) := nn_mul (nn_l 2 (by decide)) hn (by omega)
    refine ⟨yI S 8 46 (2 * l2), ?_, FR_I _ _ _ _ ⟨rfl, by omega⟩, yI_1s _ _ _ _, fun j _ => rfl, fun j h1 h2 => by omega⟩
    rw [f_X12_lead_24, if_pos ((nn_le n2 (nn_lit i (by omega))).mpr (by omega)), sq_s]
  | succ d ih =>
    intro i m S hi hm
    obtain ⟨m, rfl⟩ : ∃ x, m = x + 1 := ⟨m - 1, by omega⟩
    have n2 : nn (2 * l2) (2 * n) := nn_mul (nn_l 2 (by decide)) hn (by omega)
    have ni := nn_lit i (by omega)
    obtain ⟨S', a1, a2, a3, a4, a5⟩ := ih (i + 1) m (yA S 8 45 (upd (S.2.1 8 45) i (S.2.1 8 48 (235 + 37 * b + (5 + i))))) (by omega) (by omega)
    refine ⟨S', ?_, FR_trans (FR_A _ _ _ _ ⟨rfl, by omega⟩) a2, a3, fun j hj => ?_, fun j h1 h2 => ?_⟩
    · rw [f_X12_lead_24, if_neg (fun z => by have := (nn_le n2 ni).mp z; omega), em_bagOf hbI hb (nn_add (nn_l 5 (by decide)) ni (by omega)) (by omega), bV_s, gA_nn ni (by omega), sq_s, y_int1]
      exact a1
    · rw [a4 j (by omega), yA_same, upd_o _ _ (by omega)]
    · by_cases e : j = i
      · rw [a4 j (by omega), yA_same, e, upd_s, show 235 + 37 * b + (5 + i) = 235 + 37 * b + 5 + i by omega]
      · rw [a5 j (by omega) h2, yA_2n _ _ (by decide)]
/-- the signs -/
def kX (Sc Sm Sc' Sm' : yS) : Prop := (∀ k, 5 ≤ k → k ≤ 6 → Sc'.1 0 k = Sc.1 0 k ∧ Sc'.2.1 0 k = Sc.2.1 0 k) ∧ ∀ k, 43 ≤ k → k ≤ 44 → Sm'.1 8 k = Sm.1 8 k ∧ Sm'.2.1 8 k = Sm.2.1 8 k
theorem lead_both {cK : Nat → Nat} {N nf nl np nq nb ng r : Nat} {Sc Sm : yS} {bI : Int32} (hN : 120 < N) (hT : ST cK nf nl np nq nb ng Sc Sm) (hD : DY cK nf nl np nq nb ng Sc Sm) (hR : RO r Sc Sm) : ∃ v Sc' Sm' r', f_X11_lead N Sc bI = some (v, Sc') ∧ f_X12_lead N Sm bI = some (v, Sm') ∧ ST cK nf nl np nq nb ng Sc' Sm' ∧ DY cK nf nl np nq nb ng Sc' Sm' ∧ RO r' Sc' Sm' ∧ kX Sc Sm Sc' Sm' := by
  obtain ⟨hT1, hD1⟩ := clear_both hT hD
  obtain ⟨t1, t2, t3, t4, t5, t6, t7, t8, t9, t10, t11, t12, t13, t14⟩ := id hT1
  have nb30 : nb ≤ 30 := t7.2.2.1.2.1
  unfold f_X11_lead f_X11_lead_0 f_X12_lead f_X12_lead_0
  rw [e_isBag, bV_s, sq_s, em_isBag, bV_s, t7.2.2.1.2.2]
  by_cases c : 0 ≤ bI ∧ bI ≤ Sc.1 2 9 - 1
  · obtain ⟨b, b1, b2⟩ := nn_idx t7.2.2.1.1 c
    obtain ⟨x1, ⟨n, n1, n2, n3⟩, x3⟩ := hD1.2.2.2.2.2.2.1 b b2
    have u4 : (yI Sm 8 47 0).2.1 8 48 (235 + 37 * b + 4) = Sc.1 (384 + b) 10 := x1 4 (by decide)
    have nn2 : nn (2 * Sc.1 (384 + b) 10) (2 * n) := nn_mul (nn_l 2 (by decide)) n1 (by omega)
    obtain ⟨S', a1, a2, a3, a4, a5⟩ := lead_loop (N := N) (by omega : b < 30) b1 n1 n2.1 (2 * n) 0 N (yI Sm 8 47 0) (by omega) (by omega)
    have e8 : (yI Sc 0 8 (2 * Sc.1 (384 + b) 10)).1 0 8 = 2 * Sc.1 (384 + b) 10 := yI_1s _ _ _ _
    rw [b01_t c, if_pos (show ¬ (1 : Int32) = 0 by decide), if_pos (show ¬ (1 : Int32) = 0 by decide), gR_nn b1 (by omega) (t10 b b2).1, sq_s, e8, em_bagOf b1 (by omega) (nn_l 4 (by decide)) (by decide), bV_s, u4]
    rw [gP_t (show ¬ (0 : Int32) < 0 ∧ ¬ (0 : Int32) < 0 ∧ ¬ 2 * Sc.1 (384 + b) 10 < 0 ∧ (0 : Int32).toNatClampNeg + (2 * Sc.1 (384 + b) 10).toNatClampNeg ≤ 32 ∧ (0 : Int32).toNatClampNeg + (2 * Sc.1 (384 + b) 10).toNatClampNeg ≤ 32 by
      rw [nn2.nat]
      exact ⟨by decide, by decide, nn2.nneg, by show 0 + 2 * n ≤ 32; omega, by show 0 + 2 * n ≤ 32; omega⟩), sq_s]
    have fc : FR (fun o _ => o = 0) Sc (yA (yI Sc 0 8 (2 * Sc.1 (384 + b) 10)) 0 7 (va_cpy ((yI Sc 0 8 (2 * Sc.1 (384 + b) 10)).2.1 (384 + b) 9) ((yI Sc 0 8 (2 * Sc.1 (384 + b) 10)).2.1 0 7) (0 : Int32).toNatClampNeg (0 : Int32).toNatClampNeg (2 * Sc.1 (384 + b) 10).toNatClampNeg)) := FR_trans (FR_I _ _ _ _ rfl) (FR_A _ _ _ _ rfl)
    obtain ⟨hT2, hD2⟩ := row_ST hT1 hD1 (FR_mono fc (fun o k z => Or.inl z)) (FR_mono a2 (fun o k z => by unfold pRM; omega))
    refine ⟨Sc.1 (384 + b) 10, _, S', 2 * n, ?_, a1, hT2, hD2, ⟨?_, by omega, ?_, fun i hi => ?_⟩, ⟨fun k h1 h2 => ⟨?_, ?_⟩, fun k h1 h2 => ⟨(a2 8 k (fun z => by omega)).1.trans (yI_1n _ _ (by omega)), (a2 8 k (fun z => by omega)).2⟩⟩⟩
    · rw [yA_1, yI_1n _ _ (by omega)]
    · rw [yA_1, yI_1s]; exact nn2
    · rw [a3, yA_1, yI_1s]
    · rw [a5 i (by omega) hi, yA_same, nn2.nat]
      unfold va_cpy
      rw [if_pos (show (0 : Int32).toNatClampNeg ≤ i ∧ i < (0 : Int32).toNatClampNeg + 2 * n from ⟨Nat.zero_le _, by show i < 0 + 2 * n; omega⟩)]
      show (yI Sm 8 47 0).2.1 8 48 (235 + 37 * b + 5 + i) = Sc.2.1 (384 + b) 9 (0 + (i - 0))
      rw [Nat.zero_add, Nat.sub_zero]
      exact n3 i hi
    · rw [yA_1, yI_1n _ _ (by omega)]
    · rw [yA_2n _ _ (by omega), yI_2]
  · rw [b01_f c, if_neg (show ¬ ¬ (0 : Int32) = 0 from fun w => w rfl), if_neg (show ¬ ¬ (0 : Int32) = 0 from fun w => w rfl)]
    exact ⟨-1, _, _, r, rfl, rfl, hT1, hD1, ⟨hR.1, hR.2.1, hR.2.2.1, hR.2.2.2⟩, ⟨fun _ _ _ => ⟨rfl, rfl⟩, fun k h1 h2 => ⟨yI_1n _ _ (by omega), rfl⟩⟩⟩
