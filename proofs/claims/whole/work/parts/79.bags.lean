/-! LOOPS OVER THE BAGS -/
def BI (cK : Nat → Nat) (nf : Nat) (Sc : yS) (b : Nat) : Prop := (Sc.1 (384 + b) 8 = -1 ∨ ∃ t, nn (Sc.1 (384 + b) 8) t ∧ t ≤ 3000) ∧ (Sc.1 (384 + b) 5 = -1 ∨ ∃ f, nn (Sc.1 (384 + b) 5) f ∧ f < nf ∧ cK f = cK (384 + b)) ∧ ∀ p, p < 8 → nn (Sc.1 (384 + b) 6) p → cK (128 + p) = cK (384 + b) ∧ cK (900 + p) = 1
/-- the bags, on both sides -/
def RBd (cK : Nat → Nat) (nf nb : Nat) (Sc Sm : yS) : Prop := ∀ b, b < nb → DB1 b Sc Sm ∧ DS1 cK b Sc Sm ∧ BI cK nf Sc b
/-- what the loops need of what stays -/
def RBs (cK : Nat → Nat) (nf nb : Nat) (Sc Sm : yS) : Prop := nn (Sc.1 2 9) nb ∧ nb ≤ 30 ∧ Sm.1 8 28 = Sc.1 2 9 ∧ (∀ b, b < nb → Sc.2.1 2 8 b = 1 ∧ Sm.2.1 8 24 b = Sc.1 (384 + b) 1 ∧ ∃ a, nn (Sc.1 (384 + b) 1) a ∧ a < nf ∧ cK a = cK (384 + b)) ∧ Sm.2.1 8 48 0 = Sc.1 2 13 ∧ ∃ t, nn (Sc.1 2 13) t ∧ t ≤ 3000
def pBgs (o k : Nat) : Prop := 384 ≤ o ∧ o < 414 ∧ 5 ≤ k ∧ k ≤ 10
theorem RBs_FR {cK : Nat → Nat} {nf nb : Nat} {Sc Sm Sc' Sm' : yS} (h : RBs cK nf nb Sc Sm) (fc : FR pBgs Sc Sc') (fm : wF 235 1345 Sm Sm') : RBs cK nf nb Sc' Sm' := by
  obtain ⟨h1, h2, h3, h4, h5, h6⟩ := h
  have c2 : ∀ k, Sc'.1 2 k = Sc.1 2 k ∧ Sc'.2.1 2 k = Sc.2.1 2 k := fun k => fc 2 k (fun z => by have := z.1; omega)
  refine ⟨by rw [(c2 9).1]; exact h1, h2, by rw [(c2 9).1, wF_1 fm 8 (by decide)]; exact h3, fun b hb => ?_, by rw [(c2 13).1, fm.2 0 (by omega)]; exact h5, by rw [(c2 13).1]; exact h6⟩
  rw [(c2 8).2, (fc (384 + b) 1 (fun z => by have := z.2.2.1; omega)).1, (wF_o fm (o := 8) (k := 24) (by decide)).2]
  exact h4 b hb
theorem RBd_one {cK : Nat → Nat} {nf nb b : Nat} {Sc Sm Sc' Sm' : yS} (h : RBd cK nf nb Sc Sm) (hb : b < nb) (hnb : nb ≤ 30) (h1 : DB1 b Sc' Sm') (h2 : DS1 cK b Sc' Sm') (h3 : BI cK nf Sc' b) (fc : FR (pBg b) Sc Sc') (fm : wF (235 + 37 * b) (272 + 37 * b) Sm Sm') : RBd cK nf nb Sc' Sm' := by
  intro a ha
  by_cases e : a = b
  · subst e
    exact ⟨h1, h2, h3⟩
  · obtain ⟨g1, g2, g3⟩ := h a ha
    have c : ∀ k, Sc'.1 (384 + a) k = Sc.1 (384 + a) k ∧ Sc'.2.1 (384 + a) k = Sc.2.1 (384 + a) k := fun k => fc (384 + a) k (fun z => by have := z.1; omega)
    refine ⟨fun j hj => ?_, ?_, ?_⟩
    · rw [(c _).1, fm.2 _ (by omega)]
      exact g1 j hj
    · obtain ⟨n, n1, n2, n3⟩ := g2
      refine ⟨n, by rw [(c 10).1]; exact n1, ⟨n2.1, n2.2.1, fun j hj => by rw [(c 9).2]; exact n2.2.2 j hj⟩, fun j hj => ?_⟩
      rw [(c 9).2, fm.2 _ (by omega)]
      exact n3 j hj
    · unfold BI
      rw [(c 8).1, (c 5).1, (c 6).1]
      exact g3
theorem pBg_s {b : Nat} {S S' : yS} (h : FR (pBg b) S S') (hb : b < 30) : FR pBgs S S' := FR_mono h (fun o k z => ⟨by have := z.1; omega, by have := z.1; omega, z.2⟩)
theorem BI_arr {cK : Nat → Nat} {nf b : Nat} {Sc Sc' : yS} {f : Int32} {fi : Nat} (hf : nn f fi) (hfi : fi < nf) (hcf : cK fi = cK (384 + b)) (h : BI cK nf Sc b) (ht : ∃ t, nn (Sc.1 2 13) t ∧ t ≤ 3000) (h6 : Sc'.1 (384 + b) 6 = -1) (hc : (f = Sc.1 (384 + b) 1 ∧ Sc'.1 (384 + b) 5 = -1 ∧ Sc'.1 (384 + b) 8 = Sc.1 2 13) ∨ (¬ f = Sc.1 (384 + b) 1 ∧ Sc'.1 (384 + b) 5 = f ∧ Sc'.1 (384 + b) 8 = Sc.1 (384 + b) 8)) : BI cK nf Sc' b := by
  have hn : ∀ p, p < 8 → nn (Sc'.1 (384 + b) 6) p → cK (128 + p) = cK (384 + b) ∧ cK (900 + p) = 1 := fun p _ hp => absurd hp.nneg (by rw [h6]; decide)
  rcases hc with ⟨_, h1, h2⟩ | ⟨_, h1, h2⟩
  · exact ⟨Or.inr (by rw [h2]; exact ht), Or.inl h1, hn⟩
  · exact ⟨by rw [h2]; exact h.1, Or.inr ⟨fi, by rw [h1]; exact hf, hfi, hcf⟩, hn⟩
theorem unload_loop {cK : Nat → Nat} {N nf nb fi : Nat} {pI f : Int32} {pO p : Nat} (hf : nn f fi) (hfi : fi < nf) (hpI : nn pI p) (hp8 : p < 8) (hcf : cK fi = cK (128 + p)) : ∀ (d i m m' : Nat) (Sc Sm : yS), i + d = nb → d < m → d < m' → RBs cK nf nb Sc Sm → RBd cK nf nb Sc Sm → ∃ Sc' Sm', f_X10_unload_44 m N Sc pI f pO (Int32.ofNat i) = (bS (f_X6_putAt N Sc' pO f) fun w1 S1 => some (0, S1)) ∧ f_X12_comeTo_77 m' N Sm pI f (Int32.ofNat i) = some (0, Sm') ∧ RBd cK nf nb Sc' Sm' ∧ FR pBgs Sc Sc' ∧ wF 235 1345 Sm Sm' := by
  intro d
  induction d with
  | zero =>
    intro i m m' Sc Sm hi hm hm' hs hd
    obtain ⟨m, rfl⟩ : ∃ x, m = x + 1 := ⟨m - 1, by omega⟩
    obtain ⟨m', rfl⟩ : ∃ x, m' = x + 1 := ⟨m' - 1, by omega⟩
    obtain ⟨h1, h2, h3, h4, h5, h6⟩ := hs
    have ni := nn_lit i (by omega)
    refine ⟨Sc, Sm, ?_, ?_, hd, FR_refl _ _, wF_refl _ _ _⟩
    · rw [f_X10_unload_44, if_pos ((nn_le h1 ni).mpr (by omega))]
    · rw [f_X12_comeTo_77, h3, if_pos ((nn_le h1 ni).mpr (by omega))]
  | succ d ih =>
    intro i m m' Sc Sm hi hm hm' hs hd
    obtain ⟨m, rfl⟩ : ∃ x, m = x + 1 := ⟨m - 1, by omega⟩
    obtain ⟨m', rfl⟩ : ∃ x, m' = x + 1 := ⟨m' - 1, by omega⟩
    have hs0 := hs
    obtain ⟨h1, h2, h3, h4, h5, h6⟩ := hs
    have ni := nn_lit i (by omega)
    obtain ⟨a1, a2, a3⟩ := h4 i (by omega)
    obtain ⟨g1, g2, g3⟩ := hd i (by omega)
    have w1 : Sm.2.1 8 48 (235 + 37 * i + 1) = Sc.1 (384 + i) 6 := g1 1 (by decide)
    have nle : ¬ Sc.1 2 9 ≤ Int32.ofNat i := fun q => by have := (nn_le h1 ni).mp q; omega
    rw [f_X10_unload_44, if_neg nle, gR_nn ni (by omega) a1, f_X12_comeTo_77, h3, if_neg nle, em_bagOf ni (by omega) (nn_l 1 (by decide)) (by decide), bV_s, w1]
    unfold f_X10_unload_82 f_X12_comeTo_104
    rw [y_int1]
    by_cases c : Sc.1 (384 + i) 6 = pI
    · rw [if_neg (fun q => q c), if_neg (fun q => q c), gR_nn ni (by omega) a1]
      obtain ⟨Sc1, Sm1, e1, e2, e3, e4, e5, e6, e7, e8⟩ := arrive_both (N := N) (f := f) (by omega : i < 30) ni g1 g2 h5 a2
      rw [e1, bS_s, e2, bS_s]
      have fc := pBg_s e5 (by omega)
      have fm : wF 235 1345 Sm Sm1 := wF_mono e6 (by omega) (by omega)
      obtain ⟨Sc', Sm', b1, b2, b3, b4, b5⟩ := ih (i + 1) m m' Sc1 Sm1 (by omega) (by omega) (by omega) (RBs_FR hs0 fc fm) (RBd_one hd (by omega) h2 e3 e4 (BI_arr hf hfi (hcf.trans (g3.2.2 p hp8 (by rw [c]; exact hpI)).1) g3 h6 e7 e8) e5 e6)
      exact ⟨Sc', Sm', b1, b2, b3, FR_trans fc b4, wF_trans fm b5⟩
    · rw [if_pos c, if_pos c]
      exact ih (i + 1) m m' Sc Sm (by omega) (by omega) (by omega) hs0 hd
theorem train_loop {cK : Nat → Nat} {N nf nb : Nat} {now : Int32} : ∀ (d i m m' : Nat) (Sc Sm : yS), i + d = nb → d < m → d < m' → now = Sc.1 2 13 → RBs cK nf nb Sc Sm → RBd cK nf nb Sc Sm → ∃ Sc' Sm', f_X10_beginQuarter_38 m N Sc (Int32.ofNat i) = some (0, Sc') ∧ f_X12_goQuarter_39 m' N Sm now (Int32.ofNat i) = f_X12_goQuarter_76 N N Sm' now 0 ∧ RBd cK nf nb Sc' Sm' ∧ FR pBgs Sc Sc' ∧ wF 235 1345 Sm Sm' := by
  intro d
  induction d with
  | zero =>
    intro i m m' Sc Sm hi hm hm' hnow hs hd
    obtain ⟨m, rfl⟩ : ∃ x, m = x + 1 := ⟨m - 1, by omega⟩
    obtain ⟨m', rfl⟩ : ∃ x, m' = x + 1 := ⟨m' - 1, by omega⟩
    obtain ⟨h1, h2, h3, h4, h5, h6⟩ := hs
    have ni := nn_lit i (by omega)
    refine ⟨Sc, Sm, ?_, ?_, hd, FR_refl _ _, wF_refl _ _ _⟩
    · rw [f_X10_beginQuarter_38, if_pos ((nn_le h1 ni).mpr (by omega))]
    · rw [f_X12_goQuarter_39, h3, if_pos ((nn_le h1 ni).mpr (by omega))]
  | succ d ih =>
    intro i m m' Sc Sm hi hm hm' hnow hs hd
    obtain ⟨m, rfl⟩ : ∃ x, m = x + 1 := ⟨m - 1, by omega⟩
    obtain ⟨m', rfl⟩ : ∃ x, m' = x + 1 := ⟨m' - 1, by omega⟩
    have hs0 := hs
    obtain ⟨h1, h2, h3, h4, h5, h6⟩ := hs
    have ni := nn_lit i (by omega)
    obtain ⟨a1, a2, a3⟩ := h4 i (by omega)
    obtain ⟨fi, f1, f2, f3⟩ := a3
    obtain ⟨g1, g2, g3⟩ := hd i (by omega)
    have w1 : Sm.2.1 8 48 (235 + 37 * i + 2) = Sc.1 (384 + i) 7 := g1 2 (by decide)
    have nle : ¬ Sc.1 2 9 ≤ Int32.ofNat i := fun q => by have := (nn_le h1 ni).mp q; omega
    rw [f_X10_beginQuarter_38, if_neg nle, gR_nn ni (by omega) a1, f_X12_goQuarter_39, h3, if_neg nle, em_bagOf ni (by omega) (nn_l 2 (by decide)) (by decide), bV_s, w1, ← hnow]
    unfold f_X10_beginQuarter_84 f_X12_goQuarter_68
    rw [y_int1]
    by_cases c : Sc.1 (384 + i) 7 = now
    · rw [if_neg (fun q => q c), if_neg (fun q => q c), gR_nn ni (by omega) a1, gR_nn ni (by omega) a1, gA_nn ni (by omega), a2, hnow]
      obtain ⟨Sc1, Sm1, e1, e2, e3, e4, e5, e6, e7, e8⟩ := arrive_both (N := N) (f := Sc.1 (384 + i) 1) (by omega : i < 30) ni g1 g2 h5 a2
      rw [e1, bS_s, e2, bS_s]
      have fc := pBg_s e5 (by omega)
      have fm : wF 235 1345 Sm Sm1 := wF_mono e6 (by omega) (by omega)
      have hn1 : Sc1.1 2 13 = Sc.1 2 13 := (fc 2 13 (fun z => by have := z.1; omega)).1
      obtain ⟨Sc', Sm', b1, b2, b3, b4, b5⟩ := ih (i + 1) m m' Sc1 Sm1 (by omega) (by omega) (by omega) (hnow.trans hn1.symm) (RBs_FR hs0 fc fm) (RBd_one hd (by omega) h2 e3 e4 (BI_arr f1 f2 f3 g3 h6 e7 e8) e5 e6)
      rw [← hnow]
      exact ⟨Sc', Sm', b1, b2, b3, FR_trans fc b4, wF_trans fm b5⟩
    · rw [if_pos c, if_pos c]
      exact ih (i + 1) m m' Sc Sm (by omega) (by omega) (by omega) hnow hs0 hd
