/-! A PLANE COMES TO A FIELD, with pilot and bags -/
def pUn (p q o k : Nat) : Prop := pBgs o k ∨ (o = 128 + p ∧ (k = 8 ∨ k = 9 ∨ k = 10 ∨ k = 12 ∨ k = 15 ∨ k = 16)) ∨ (o = 256 + q ∧ k ≤ 1)
theorem unload_both {cK : Nat → Nat} {N nf nb p q fi : Nat} {Sc Sm : yS} {pI f : Int32} (hN : 60 < N) (hp : p < 8) (hpI : nn pI p) (hq : q < 8) (hf : nn f fi) (hfi : fi < nf) (hcf : cK fi = cK (128 + p)) (x1 : Sc.2.1 2 4 p = 1) (x2 : nn (Sc.1 (128 + p) 16) q) (x3 : Sc.2.1 2 6 q = 1) (x4 : Sm.2.1 8 48 (19 + 23 * p + 11) = Sc.1 (128 + p) 16) (hs : RBs cK nf nb Sc Sm) (hd : RBd cK nf nb Sc Sm) : ∃ Sc' Sm', f_X10_unload N Sc pI f = some (0, Sc') ∧ f_X12_comeTo N Sm pI f = some (0, Sm') ∧ RBd cK nf nb Sc' Sm' ∧ FR (pUn p q) Sc Sc' ∧ (Sc'.1 (128 + p) 8 = f ∧ Sc'.1 (128 + p) 9 = -1 ∧ Sc'.1 (128 + p) 10 = -1 ∧ Sc'.1 (128 + p) 12 = 0 ∧ Sc'.1 (128 + p) 15 = 0 ∧ Sc'.1 (128 + p) 16 = -1 ∧ Sc'.1 (256 + q) 0 = f ∧ Sc'.1 (256 + q) 1 = -1) ∧ FR (fun o k => o = 8 ∧ k = 48) Sm Sm' ∧ (Sm'.2.1 8 48 (19 + 23 * p + 0) = f ∧ Sm'.2.1 8 48 (19 + 23 * p + 1) = -1 ∧ Sm'.2.1 8 48 (19 + 23 * p + 2) = -1 ∧ Sm'.2.1 8 48 (19 + 23 * p + 3) = 0 ∧ Sm'.2.1 8 48 (19 + 23 * p + 8) = 0 ∧ Sm'.2.1 8 48 (19 + 23 * p + 11) = -1 ∧ Sm'.2.1 8 48 (203 + 4 * q + 0) = f ∧ Sm'.2.1 8 48 (203 + 4 * q + 1) = -1) ∧ ∀ i, (i < 235 ∨ 1345 ≤ i) → i ≠ 19 + 23 * p + 0 → i ≠ 19 + 23 * p + 1 → i ≠ 19 + 23 * p + 2 → i ≠ 19 + 23 * p + 3 → i ≠ 19 + 23 * p + 8 → i ≠ 19 + 23 * p + 11 → i ≠ 19 + 23 * p + 12 → i ≠ 203 + 4 * q + 0 → i ≠ 203 + 4 * q + 1 → Sm'.2.1 8 48 i = Sm.2.1 8 48 i := by
  have hb := hs.2.1
  have ne16 : ¬ Sc.1 (128 + p) 16 = -1 := fun z => x2.nneg (by rw [z]; decide)
  have nq : nn (Sm.2.1 8 48 (19 + 23 * p + 11)) q := by rw [x4]; exact x2
  -- the class: the pilot first
  have ec : f_X10_unload N Sc pI f = f_X10_unload_44 N N (yI (yI Sc (256 + q) 0 f) (256 + q) 1 (-1)) pI f (128 + p) (Int32.ofNat 0) := by
    unfold f_X10_unload f_X10_unload_0
    rw [gR_nn hpI hp x1, if_neg ne16, gR_nn x2 hq x3, sq_s]
    have e1 : (yI Sc (256 + q) 0 f).1 (128 + p) 16 = Sc.1 (128 + p) 16 := yI_1n _ _ (by omega)
    rw [e1, yI_2, gR_nn x2 hq x3, sq_s]
    rfl
  -- the reference: plane and pilot first
  have em : ∃ A, f_X12_comeTo N Sm pI f = f_X12_comeTo_77 N N (yA Sm 8 48 A) pI f (Int32.ofNat 0) ∧ (A (19 + 23 * p + 0) = f ∧ A (19 + 23 * p + 1) = -1 ∧ A (19 + 23 * p + 2) = -1 ∧ A (19 + 23 * p + 3) = 0 ∧ A (19 + 23 * p + 8) = 0 ∧ A (19 + 23 * p + 11) = -1 ∧ A (203 + 4 * q + 0) = f ∧ A (203 + 4 * q + 1) = -1) ∧ ∀ i, i ≠ 19 + 23 * p + 0 → i ≠ 19 + 23 * p + 1 → i ≠ 19 + 23 * p + 2 → i ≠ 19 + 23 * p + 3 → i ≠ 19 + 23 * p + 8 → i ≠ 19 + 23 * p + 11 → i ≠ 19 + 23 * p + 12 → i ≠ 203 + 4 * q + 0 → i ≠ 203 + 4 * q + 1 → A i = Sm.2.1 8 48 i := by
    refine ⟨upd (upd (upd (upd (upd (upd (upd (upd (upd (Sm.2.1 8 48) (19 + 23 * p + 0) f) (19 + 23 * p + 1) (-1)) (19 + 23 * p + 2) (-1)) (19 + 23 * p + 3) 0) (19 + 23 * p + 8) 0) (19 + 23 * p + 11) (-1)) (19 + 23 * p + 12) (-1)) (203 + 4 * q + 0) f) (203 + 4 * q + 1) (-1), ?_, ⟨?_, ?_, ?_, ?_, ?_, ?_, ?_, ?_⟩, ?_⟩
    · unfold f_X12_comeTo f_X12_comeTo_0
      rw [em_planeR hpI hp (nn_l 11 (by decide)) (by decide), bV_s, em_planeW hpI hp (nn_l 0 (by decide)) (by decide), bS_s, em_planeW hpI hp (nn_l 1 (by decide)) (by decide), bS_s, em_planeW hpI hp (nn_l 2 (by decide)) (by decide), bS_s, em_planeW hpI hp (nn_l 3 (by decide)) (by decide), bS_s, em_planeW hpI hp (nn_l 8 (by decide)) (by decide), bS_s, em_planeW hpI hp (nn_l 11 (by decide)) (by decide), bS_s, em_planeW hpI hp (nn_l 12 (by decide)) (by decide), bS_s, em_setPilot nq (nn_l 0 (by decide)) hq (by decide), bS_s, em_setPilot nq (nn_l 1 (by decide)) hq (by decide), bS_s]
      simp only [yA_yA, yA_same]
      rfl
    · rw [upd_o _ _ (by omega), upd_o _ _ (by omega), upd_o _ _ (by omega), upd_o _ _ (by omega), upd_o _ _ (by omega), upd_o _ _ (by omega), upd_o _ _ (by omega), upd_o _ _ (by omega), upd_s]
    · rw [upd_o _ _ (by omega), upd_o _ _ (by omega), upd_o _ _ (by omega), upd_o _ _ (by omega), upd_o _ _ (by omega), upd_o _ _ (by omega), upd_o _ _ (by omega), upd_s]
    · rw [upd_o _ _ (by omega), upd_o _ _ (by omega), upd_o _ _ (by omega), upd_o _ _ (by omega), upd_o _ _ (by omega), upd_o _ _ (by omega), upd_s]
    · rw [upd_o _ _ (by omega), upd_o _ _ (by omega), upd_o _ _ (by omega), upd_o _ _ (by omega), upd_o _ _ (by omega), upd_s]
    · rw [upd_o _ _ (by omega), upd_o _ _ (by omega), upd_o _ _ (by omega), upd_o _ _ (by omega), upd_s]
    · rw [upd_o _ _ (by omega), upd_o _ _ (by omega), upd_o _ _ (by omega), upd_s]
    · rw [upd_o _ _ (by omega), upd_s]
    · rw [upd_s]
    · intro i h0 h1 h2 h3 h8 h11 h12 h13 h14
      rw [upd_o _ _ h14, upd_o _ _ h13, upd_o _ _ h12, upd_o _ _ h11, upd_o _ _ h8, upd_o _ _ h3, upd_o _ _ h2, upd_o _ _ h1, upd_o _ _ h0]
  obtain ⟨A, em1, em2, em3⟩ := em
  have F1 : FR (pUn p q) Sc (yI (yI Sc (256 + q) 0 f) (256 + q) 1 (-1)) := FR_trans (FR_I _ _ _ _ (Or.inr (Or.inr ⟨rfl, by decide⟩))) (FR_I _ _ _ _ (Or.inr (Or.inr ⟨rfl, by decide⟩)))
  have cI : ∀ o k, o ≠ 256 + q → (yI (yI Sc (256 + q) 0 f) (256 + q) 1 (-1)).1 o k = Sc.1 o k := fun o k h => by rw [yI_1n _ _ (fun z => h z.1), yI_1n _ _ (fun z => h z.1)]
  have mA : ∀ k, k ≠ 48 → (yA Sm 8 48 A).2.1 8 k = Sm.2.1 8 k := fun k h => yA_2n _ _ (fun z => h z.2)
  have hs1 : RBs cK nf nb (yI (yI Sc (256 + q) 0 f) (256 + q) 1 (-1)) (yA Sm 8 48 A) := by
    obtain ⟨h1, h2, h3, h4, h5, h6⟩ := hs
    refine ⟨by rw [cI _ _ (by omega)]; exact h1, h2, by rw [cI _ _ (by omega)]; exact h3, fun b hb => ?_, ?_, by rw [cI _ _ (by omega)]; exact h6⟩
    · rw [cI _ _ (by omega), mA 24 (by decide)]
      exact h4 b hb
    · rw [cI _ _ (by omega), yA_same, em3 0 (by omega) (by omega) (by omega) (by omega) (by omega) (by omega) (by omega) (by omega) (by omega)]
      exact h5
  have hd1 : RBd cK nf nb (yI (yI Sc (256 + q) 0 f) (256 + q) 1 (-1)) (yA Sm 8 48 A) := by
    intro b hb
    obtain ⟨g1, g2, g3⟩ := hd b hb
    refine ⟨fun j hj => ?_, ?_, ?_⟩
    · rw [cI _ _ (by omega), yA_same, em3 _ (by omega) (by omega) (by omega) (by omega) (by omega) (by omega) (by omega) (by omega) (by omega)]
      exact g1 j hj
    · obtain ⟨n, n1, n2, n3⟩ := g2
      refine ⟨n, by rw [cI _ _ (by omega)]; exact n1, n2, fun j hj => ?_⟩
      rw [yA_same, em3 _ (by omega) (by omega) (by omega) (by omega) (by omega) (by omega) (by omega) (by omega) (by omega)]
      exact n3 j hj
    · unfold BI
      rw [cI _ _ (by omega), cI _ _ (by omega), cI _ _ (by omega)]
      exact g3
  obtain ⟨Sc2, Sm', b1, b2, b3, b4, b5⟩ := unload_loop (N := N) (pI := pI) (pO := 128 + p) hf hfi hpI hp hcf nb 0 N N _ _ (by omega) (by omega) (by omega) hs1 hd1
  have eP : f_X6_putAt N Sc2 (128 + p) f = some (0, yI (yI (yI (yI (yI (yI Sc2 (128 + p) 8 f) (128 + p) 9 (-1)) (128 + p) 10 (-1)) (128 + p) 12 0) (128 + p) 15 0) (128 + p) 16 (-1)) := rfl
  have FP : FR (fun o k => o = 128 + p ∧ (k = 8 ∨ k = 9 ∨ k = 10 ∨ k = 12 ∨ k = 15 ∨ k = 16)) Sc2 (yI (yI (yI (yI (yI (yI Sc2 (128 + p) 8 f) (128 + p) 9 (-1)) (128 + p) 10 (-1)) (128 + p) 12 0) (128 + p) 15 0) (128 + p) 16 (-1)) := FR_trans (FR_I _ _ _ _ ⟨rfl, by omega⟩) (FR_trans (FR_I _ _ _ _ ⟨rfl, by omega⟩) (FR_trans (FR_I _ _ _ _ ⟨rfl, by omega⟩) (FR_trans (FR_I _ _ _ _ ⟨rfl, by omega⟩) (FR_trans (FR_I _ _ _ _ ⟨rfl, by omega⟩) (FR_I _ _ _ _ ⟨rfl, by omega⟩)))))
  have cQ : ∀ k, Sc2.1 (256 + q) k = (yI (yI Sc (256 + q) 0 f) (256 + q) 1 (-1)).1 (256 + q) k := fun k => (b4 (256 + q) k (fun z => by have := z.1; have := z.2.1; omega)).1
  refine ⟨_, Sm', by rw [ec, b1, eP, bS_s], by rw [em1, b2], ?_, FR_trans F1 (FR_trans (FR_mono b4 (fun o k z => Or.inl z)) (FR_mono FP (fun o k z => Or.inr (Or.inl z)))), ⟨?_, ?_, ?_, ?_, ?_, ?_, ?_, ?_⟩, FR_trans (FR_A _ _ _ _ ⟨rfl, rfl⟩) b5.1, ⟨?_, ?_, ?_, ?_, ?_, ?_, ?_, ?_⟩, fun i hi h0 h1 h2 h3 h8 h11 h12 h13 h14 => ?_⟩
  · intro b hb
    obtain ⟨g1, g2, g3⟩ := b3 b hb
    have c : ∀ k, (yI (yI (yI (yI (yI (yI Sc2 (128 + p) 8 f) (128 + p) 9 (-1)) (128 + p) 10 (-1)) (128 + p) 12 0) (128 + p) 15 0) (128 + p) 16 (-1)).1 (384 + b) k = Sc2.1 (384 + b) k := fun k => (FP (384 + b) k (fun z => by have := z.1; omega)).1
    refine ⟨fun j hj => by rw [c]; exact g1 j hj, ?_, by unfold BI; rw [c, c, c]; exact g3⟩
    obtain ⟨n, n1, n2, n3⟩ := g2
    exact ⟨n, by rw [c]; exact n1, n2, n3⟩
  · rw [yI_1n _ _ (by omega), yI_1n _ _ (by omega), yI_1n _ _ (by omega), yI_1n _ _ (by omega), yI_1n _ _ (by omega), yI_1s]
  · rw [yI_1n _ _ (by omega), yI_1n _ _ (by omega), yI_1n _ _ (by omega), yI_1n _ _ (by omega), yI_1s]
  · rw [yI_1n _ _ (by omega), yI_1n _ _ (by omega), yI_1n _ _ (by omega), yI_1s]
  · rw [yI_1n _ _ (by omega), yI_1n _ _ (by omega), yI_1s]
  · rw [yI_1n _ _ (by omega), yI_1s]
  · rw [yI_1s]
  · rw [(FP (256 + q) 0 (fun z => by have := z.1; omega)).1, cQ, yI_1n _ _ (by omega), yI_1s]
  · rw [(FP (256 + q) 1 (fun z => by have := z.1; omega)).1, cQ, yI_1s]
  · rw [b5.2 _ (by omega), yA_same]; exact em2.1
  · rw [b5.2 _ (by omega), yA_same]; exact em2.2.1
  · rw [b5.2 _ (by omega), yA_same]; exact em2.2.2.1
  · rw [b5.2 _ (by omega), yA_same]; exact em2.2.2.2.1
  · rw [b5.2 _ (by omega), yA_same]; exact em2.2.2.2.2.1
  · rw [b5.2 _ (by omega), yA_same]; exact em2.2.2.2.2.2.1
  · rw [b5.2 _ (by omega), yA_same]; exact em2.2.2.2.2.2.2.1
  · rw [b5.2 _ (by omega), yA_same]; exact em2.2.2.2.2.2.2.2
  · rw [b5.2 i (by omega), yA_same]
    exact em3 i h0 h1 h2 h3 h8 h11 h12 h13 h14
