/-! WHAT A CALL LEAVES AS IT IS, piece by piece -/
def sm (S S' : yS) (o k : Nat) : Prop := S'.1 o k = S.1 o k ∧ S'.2.1 o k = S.2.1 o k
theorem K_RF {nf : Nat} {Sc Sm Sc' Sm' : yS} (h : RF nf Sc Sm) (c : ∀ k, k ≤ 3 → sm Sc Sc' 1 k) (m : ∀ k, k ≤ 1 → sm Sm Sm' 8 k) (w : ∀ i, 3 ≤ i → i < 19 → Sm'.2.1 8 48 i = Sm.2.1 8 48 i) : RF nf Sc' Sm' := RF_congr h (c 3 (by decide)).1 (m 1 (by decide)).1 (c 0 (by decide)).2 (c 1 (by decide)).2 (c 2 (by decide)).2 (m 0 (by decide)).2 w
theorem K_RG {nl : Nat} {Sc Sm Sc' Sm' : yS} (h : RG nl Sc Sm) (c : ∀ k, 4 ≤ k → k ≤ 5 → sm Sc Sc' 1 k) (cL : ∀ l k, l < 12 → sm Sc Sc' (64 + l) k) (m : ∀ k, 2 ≤ k → k ≤ 9 → sm Sm Sm' 8 k) : RG nl Sc' Sm' := RG_congr h (c 5 (by decide) (by decide)).1 (m 9 (by decide) (by decide)).1 (c 4 (by decide) (by decide)).2 (fun i hi => ⟨funext fun k => (cL i k hi).1, funext fun k => (cL i k hi).2⟩) (fun s a b => (m s a (by omega)).2)
theorem K_cE {cK : Nat → Nat} {nl np nb : Nat} {Sc Sc' : yS} (h : cE cK nl np nb Sc) (hl : nl ≤ 12) (hb : nb ≤ 30) (cL : ∀ l k, l < 12 → k ≤ 1 → sm Sc Sc' (64 + l) k) (cb : ∀ b k, b < 30 → k ≤ 1 → sm Sc Sc' (384 + b) k) : cE cK nl np nb Sc' := by
  refine ⟨fun l hl' a ha => ?_, fun b hb' a ha => ?_, h.2.2⟩
  · rw [(cL l 0 (by omega) (by decide)).1, (cL l 1 (by omega) (by decide)).1] at ha
    exact h.1 l hl' a ha
  · rw [(cb b 0 (by omega) (by decide)).1, (cb b 1 (by omega) (by decide)).1] at ha
    exact h.2.1 b hb' a ha
theorem K_RD {cK : Nat → Nat} {Sc Sm Sc' Sm' : yS} (h : RDc cK (Sm.2.1 8 10) (Sc.2.1 1 7)) (c : sm Sc Sc' 1 7) (m : sm Sm Sm' 8 10) : RDc cK (Sm'.2.1 8 10) (Sc'.2.1 1 7) := by rw [c.2, m.2]; exact h
theorem K_RT {Sc Sm Sc' Sm' : yS} (h : ∃ k, RT k Sc Sm ∧ wBd k Sc) (c : ∀ k, 6 ≤ k → k ≤ 11 → k ≠ 7 → sm Sc Sc' 1 k) (m : ∀ k, 11 ≤ k → k ≤ 15 → sm Sm Sm' 8 k) : ∃ k, RT k Sc' Sm' ∧ wBd k Sc' := by
  obtain ⟨k, h1, h2⟩ := h
  refine ⟨k, RT_congr h1 (c 6 (by decide) (by decide) (by decide)).1 (m 15 (by decide) (by decide)).1 (c 8 (by decide) (by decide) (by decide)).2 (c 9 (by decide) (by decide) (by decide)).2 (c 10 (by decide) (by decide) (by decide)).2 (c 11 (by decide) (by decide) (by decide)).2 (m 11 (by decide) (by decide)).2 (m 12 (by decide) (by decide)).2 (m 13 (by decide) (by decide)).2 (m 14 (by decide) (by decide)).2, fun i hi => ?_⟩
  rw [(c 11 (by decide) (by decide) (by decide)).2]
  exact h2 i hi
theorem K_RR {Sc Sm Sc' Sm' : yS} (h : ∃ a b, RR a b Sc Sm ∧ RK a b Sc Sm) (c : ∀ k, (k = 0 ∨ (3 ≤ k ∧ k ≤ 6)) → sm Sc Sc' 4 k ∧ sm Sc Sc' 5 k) (m : ∀ k, 37 ≤ k → k ≤ 42 → sm Sm Sm' 8 k) : ∃ a b, RR a b Sc' Sm' ∧ RK a b Sc' Sm' := by
  obtain ⟨a, b, h1, h2⟩ := h
  exact ⟨a, b, RR_congr h1 (c 0 (by decide)).1.1 (c 0 (by decide)).2.1 (m 41 (by decide) (by decide)).1 (m 42 (by decide) (by decide)).1 (c 3 (by decide)).1.2 (c 4 (by decide)).1.2 (c 3 (by decide)).2.2 (c 4 (by decide)).2.2 (m 39 (by decide) (by decide)).2 (m 40 (by decide) (by decide)).2, RK_congr h2 (c 3 (by decide)).1.2 (c 5 (by decide)).1.2 (c 6 (by decide)).1.2 (c 5 (by decide)).2.2 (c 6 (by decide)).2.2 (m 37 (by decide) (by decide)).2 (m 38 (by decide) (by decide)).2⟩
theorem K_RS {Sc Sm Sc' Sm' : yS} (h : RS Sc Sm) (c1 : sm Sc Sc' 3 0) (c2 : sm Sc Sc' 2 15) (c3 : sm Sc Sc' 2 16) (m : ∀ k, 34 ≤ k → k ≤ 36 → sm Sm Sm' 8 k) : RS Sc' Sm' := RS_congr h c1.1 c2.1 c3.1 (m 34 (by decide) (by decide)).1 (m 35 (by decide) (by decide)).1 (m 36 (by decide) (by decide)).1
theorem K_oC {np nq nb ng : Nat} {Sc Sm Sc' Sm' : yS} (h : oC np nq nb ng Sc Sm) (c : ∀ k, (k = 5 ∨ k = 7 ∨ k = 9 ∨ k = 12) → sm Sc Sc' 2 k) (m : ∀ k, (k = 21 ∨ k = 22 ∨ k = 28 ∨ k = 33) → sm Sm Sm' 8 k) : oC np nq nb ng Sc' Sm' := by
  unfold oC at h ⊢
  rw [(c 5 (by decide)).1, (c 7 (by decide)).1, (c 9 (by decide)).1, (c 12 (by decide)).1, (m 21 (by decide)).1, (m 22 (by decide)).1, (m 28 (by decide)).1, (m 33 (by decide)).1]
  exact h
theorem K_P0 {p : Nat} {Sc Sm Sc' Sm' : yS} (h : P0 Sc Sm p) (c : Sc'.2.1 2 4 p = Sc.2.1 2 4 p) (cp : ∀ k, k < 5 → Sc'.1 (128 + p) k = Sc.1 (128 + p) k) (m : ∀ k, 16 ≤ k → k ≤ 20 → Sm'.2.1 8 k p = Sm.2.1 8 k p) : P0 Sc' Sm' p := by
  unfold P0 at h ⊢
  rw [c, m 16 (by decide) (by decide), m 17 (by decide) (by decide), m 18 (by decide) (by decide), m 19 (by decide) (by decide), m 20 (by decide) (by decide), cp 0 (by decide), cp 1 (by decide), cp 2 (by decide), cp 3 (by decide), cp 4 (by decide)]
  exact h
theorem K_B0 {nf nf' b : Nat} {Sc Sm Sc' Sm' : yS} (h : B0 nf Sc Sm b) (hn : nf ≤ nf') (c : Sc'.2.1 2 8 b = Sc.2.1 2 8 b) (cp : ∀ k, k < 5 → Sc'.1 (384 + b) k = Sc.1 (384 + b) k) (m : ∀ k, 23 ≤ k → k ≤ 27 → Sm'.2.1 8 k b = Sm.2.1 8 k b) : B0 nf' Sc' Sm' b := by
  unfold B0 at h ⊢
  rw [c, m 23 (by decide) (by decide), m 24 (by decide) (by decide), m 25 (by decide) (by decide), m 26 (by decide) (by decide), m 27 (by decide) (by decide), cp 0 (by decide), cp 1 (by decide), cp 2 (by decide), cp 3 (by decide), cp 4 (by decide)]
  obtain ⟨h1, h2, h3, h4, h5, h6, ⟨a, a1, a2⟩, ⟨d, d1, d2⟩, h9⟩ := h
  exact ⟨h1, h2, h3, h4, h5, h6, ⟨a, a1, by omega⟩, ⟨d, d1, by omega⟩, h9⟩
theorem K_L0 {nl np nq nl' np' nq' g : Nat} {Sc Sm Sc' Sm' : yS} (h : L0 nl np nq Sc Sm g) (h1 : nl ≤ nl') (h2 : np ≤ np') (h3 : nq ≤ nq') (c : Sc'.2.1 2 11 g = Sc.2.1 2 11 g) (cp : ∀ k, k < 4 → Sc'.1 (512 + g) k = Sc.1 (512 + g) k) (m : ∀ k, 29 ≤ k → k ≤ 32 → Sm'.2.1 8 k g = Sm.2.1 8 k g) : L0 nl' np' nq' Sc' Sm' g := by
  unfold L0 at h ⊢
  rw [c, m 29 (by decide) (by decide), m 30 (by decide) (by decide), m 31 (by decide) (by decide), m 32 (by decide) (by decide), cp 0 (by decide), cp 1 (by decide), cp 2 (by decide), cp 3 (by decide)]
  obtain ⟨x1, x2, x3, x4, x5, ⟨a, a1, a2⟩, ⟨b, b1, b2⟩, ⟨d, d1, d2⟩, x9⟩ := h
  exact ⟨x1, x2, x3, x4, x5, ⟨a, a1, by omega⟩, ⟨b, b1, by omega⟩, ⟨d, d1, by omega⟩, x9⟩
theorem K_oR {nb : Nat} {Sc Sc' : yS} (h : oR nb Sc) (hb : nb ≤ 30) (c : sm Sc Sc' 2 10) (cb : ∀ b k, b < 30 → (k = 3 ∨ k = 4) → sm Sc Sc' (384 + b) k) : oR nb Sc' := by
  obtain ⟨o, w1, w2, w3⟩ := h
  refine ⟨o, fun i hi => by rw [c.2]; exact w1 i hi, fun i j hi hj => ?_, w3⟩
  have a1 : o i < 30 := by have := (w1 i (by omega)).2; omega
  have a2 : o j < 30 := by have := (w1 j hj).2; omega
  unfold oB
  rw [(cb _ 3 a1 (Or.inl rfl)).1, (cb _ 3 a2 (Or.inl rfl)).1, (cb _ 4 a1 (Or.inr rfl)).1, (cb _ 4 a2 (Or.inr rfl)).1]
  exact w2 i j hi hj
theorem K_oN {np nq nb ng np' nq' nb' ng' : Nat} {Sc Sc' : yS} (h : oN np nq nb ng Sc) (h1 : np ≤ np') (h2 : nq ≤ nq') (h3 : nb ≤ nb') (h4 : ng ≤ ng') (c1 : ∀ p, np' ≤ p → p < 8 → Sc'.2.1 2 4 p = Sc.2.1 2 4 p ∧ Sc'.1 (128 + p) 20 = Sc.1 (128 + p) 20) (c2 : ∀ p, nq' ≤ p → p < 8 → Sc'.2.1 2 6 p = Sc.2.1 2 6 p ∧ Sc'.1 (256 + p) 4 = Sc.1 (256 + p) 4) (c3 : ∀ p, nb' ≤ p → p < 30 → Sc'.2.1 2 8 p = Sc.2.1 2 8 p ∧ Sc'.1 (384 + p) 11 = Sc.1 (384 + p) 11) (c4 : ∀ p, ng' ≤ p → p < 24 → Sc'.2.1 2 11 p = Sc.2.1 2 11 p ∧ Sc'.1 (512 + p) 10 = Sc.1 (512 + p) 10) (c5 : ∀ o k, 192 ≤ o → o < 256 ∨ (320 ≤ o ∧ o < 384) ∨ (448 ≤ o ∧ o < 512) ∨ 576 ≤ o → Sc'.1 o k = Sc.1 o k) : oN np' nq' nb' ng' Sc' := by
  obtain ⟨n1, n2, n3, n4, n5, n6, n7, n8⟩ := h
  refine ⟨fun p a b => ?_, fun p a b => ?_, fun p a b => ?_, fun p a b => ?_, fun p a => ?_, fun p a => ?_, fun p a => ?_, fun p a => ?_⟩
  · rw [(c1 p a b).1, (c1 p a b).2]; exact n1 p (by omega) b
  · rw [(c2 p a b).1, (c2 p a b).2]; exact n2 p (by omega) b
  · rw [(c3 p a b).1, (c3 p a b).2]; exact n3 p (by omega) b
  · rw [(c4 p a b).1, (c4 p a b).2]; exact n4 p (by omega) b
  · rw [c5 _ _ (by omega) (by omega)]; exact n5 p a
  · rw [c5 _ _ (by omega) (by omega)]; exact n6 p a
  · rw [c5 _ _ (by omega) (by omega)]; exact n7 p a
  · rw [c5 _ _ (by omega) (by omega)]; exact n8 p a
theorem K_gB {nf nf' nl : Nat} {Sc Sc' : yS} (h : gBd nf nl Sc) (hl : nl ≤ 12) (hn : nf ≤ nf') (cL : ∀ l k, l < 12 → sm Sc Sc' (64 + l) k) : gBd nf' nl Sc' := by
  intro l hl'
  obtain ⟨k, M, a1, a2, a3, a4, ⟨a, b1, b2⟩, d, d1, d2⟩ := h l hl'
  have c := fun k => cL l k (by omega)
  refine ⟨k, M, by rw [(c 4).1]; exact a1, a2, by rw [(c 2).1]; exact a3, fun j hj => ?_, ⟨a, by rw [(c 0).1]; exact b1, by omega⟩, d, by rw [(c 1).1]; exact d1, by omega⟩
  rw [(c 5).2, (c 6).2]
  exact a4 j hj
/-- the labels may be joined -/
def cU (nf nl np nb x : Nat) : Prop := x < nf ∨ (64 ≤ x ∧ x < 64 + nl) ∨ (128 ≤ x ∧ x < 128 + np) ∨ (384 ≤ x ∧ x < 384 + nb)
def cM (nf nl np nb : Nat) (cK cK' : Nat → Nat) : Prop := (∀ x y, cU nf nl np nb x → cU nf nl np nb y → cK x = cK y → cK' x = cK' y) ∧ (∀ x, 1000 ≤ x → cK' x = cK x) ∧ ∀ p, p < np → cK' (900 + p) = 1
theorem cM_refl {cK : Nat → Nat} {nf nl np nb : Nat} (h : ∀ p, p < 8 → (cK (900 + p) = 1 ↔ p < np)) (h8 : np ≤ 8) : cM nf nl np nb cK cK := ⟨fun _ _ _ _ h => h, fun _ _ => rfl, fun p hp => (h p (by omega)).mpr hp⟩
/-- all that goes on, where a call leaves what is there as it is -/
theorem K_DY {cK cK' : Nat → Nat} {nf nf' nl nl' np nq nb ng : Nat} {Sc Sm Sc' Sm' : yS} (h : DY cK nf nl np nq nb ng Sc Sm) (hK : cM nf nl np nb cK cK') (hFl : ∀ p, p < 8 → (cK (900 + p) = 1 ↔ p < np)) (hf : nf ≤ nf') (hf8 : nf' ≤ 8) (hl : nl ≤ nl') (hl12 : nl ≤ 12) (hp : np ≤ 8) (hq : nq ≤ 8) (hb : nb ≤ 30) (hg : ng ≤ 24) (c2 : ∀ k, 13 ≤ k → k ≤ 14 → sm Sc Sc' 2 k) (c3 : ∀ k, sm Sc Sc' 3 k) (cL : ∀ l, l < nl → Sc'.1 (64 + l) 2 = Sc.1 (64 + l) 2) (cp : ∀ p k, p < np → 5 ≤ k → k ≤ 19 → sm Sc Sc' (128 + p) k) (cq : ∀ p k, p < nq → k < 4 → sm Sc Sc' (256 + p) k) (cb : ∀ p k, p < nb → 5 ≤ k → k ≤ 10 → sm Sc Sc' (384 + p) k) (cg : ∀ p k, p < ng → k < 10 → sm Sc Sc' (512 + p) k) (m : Sm'.1 8 34 = Sm.1 8 34) (w : ∀ i, (i < 3 ∨ (19 ≤ i ∧ i < 19 + 23 * np) ∨ (203 ≤ i ∧ i < 203 + 4 * nq) ∨ (235 ≤ i ∧ i < 235 + 37 * nb) ∨ (1345 ≤ i ∧ i < 1345 + 5 * ng) ∨ 1465 ≤ i) → Sm'.2.1 8 48 i = Sm.2.1 8 48 i) : DY cK' nf' nl' np nq nb ng Sc' Sm' := by
  obtain ⟨d1, d2, d3, ⟨kw, d4, d4', d4''⟩, d5, d6, d7, d8, d9⟩ := h
  have k0 : cK' 1000 = cK 1000 := hK.2.1 1000 (by decide)
  refine ⟨?_, ?_, ?_, ⟨kw, ?_, ?_, ?_⟩, ?_, ?_, ?_, ?_, ?_⟩
  · rw [w 0 (by omega), (c2 13 (by decide) (by decide)).1]; exact d1
  · rw [w 1 (by omega), (c2 14 (by decide) (by decide)).1]; exact d2
  · rw [(c2 13 (by decide) (by decide)).1]; exact d3
  · exact RW_congr d4 (c3 0).1 (c3 1).1 m (funext fun k => (c3 k).2) (w 2 (by omega)) (fun i a b => w i (by omega))
  · rw [k0]; exact d4'
  · intro j i a b e
    rw [k0] at e
    rw [(c3 j).2, hK.2.1 _ (by omega)]
    exact d4'' j i a b e
  · intro p hp' j hj
    have e : pS j ≤ 19 ∧ 5 ≤ pS j := by
      rcases (show j = 0 ∨ j = 1 ∨ j = 2 ∨ j = 3 ∨ j = 4 ∨ j = 5 ∨ j = 6 ∨ j = 7 ∨ j = 8 ∨ j = 9 ∨ j = 10 ∨ j = 11 by omega) with rfl | rfl | rfl | rfl | rfl | rfl | rfl | rfl | rfl | rfl | rfl | rfl <;> decide
    rw [w _ (by omega), (cp p _ hp' e.2 e.1).1]; exact d5 p hp' j hj
  · intro q hq' j hj
    rw [w _ (by omega), (cq q j hq' hj).1]; exact d6 q hq' j hj
  · intro b hb'
    obtain ⟨x1, ⟨n, n1, ⟨n2, n4, n5⟩, n3⟩, x3, x4, x5⟩ := d7 b hb'
    have kb : cK' (1001 + b) = cK (1001 + b) := hK.2.1 _ (by omega)
    refine ⟨fun j hj => ?_, ⟨n, by rw [(cb b 10 hb' (by decide) (by decide)).1]; exact n1, ⟨n2, by rw [kb]; exact n4, fun j hj => ?_⟩, fun j hj => ?_⟩, ?_, ?_, ?_⟩
    · have e : bSl j ≤ 10 ∧ 5 ≤ bSl j := by
        rcases (show j = 0 ∨ j = 1 ∨ j = 2 ∨ j = 3 ∨ j = 4 by omega) with rfl | rfl | rfl | rfl | rfl <;> decide
      rw [w _ (by omega), (cb b _ hb' e.2 e.1).1]; exact x1 j hj
    · rw [kb] at hj
      rw [(cb b 9 hb' (by decide) (by decide)).2, hK.2.1 _ (by omega)]
      exact n5 j hj
    · rw [w _ (by omega), (cb b 9 hb' (by decide) (by decide)).2]; exact n3 j hj
    · rw [(cb b 8 hb' (by decide) (by decide)).1]; exact x3
    · rw [(cb b 5 hb' (by decide) (by decide)).1]
      rcases x4 with z | ⟨f, f1, f2, f3⟩
      · exact Or.inl z
      · exact Or.inr ⟨f, f1, by omega, hK.1 f (384 + b) (Or.inl f2) (Or.inr (Or.inr (Or.inr ⟨by omega, by omega⟩))) f3⟩
    · intro p hp8 hp'
      rw [(cb b 6 hb' (by decide) (by decide)).1] at hp'
      obtain ⟨e1, e2⟩ := x5 p hp8 hp'
      have pp := (hFl p hp8).mp e2
      exact ⟨hK.1 _ _ (Or.inr (Or.inr (Or.inl ⟨by omega, by omega⟩))) (Or.inr (Or.inr (Or.inr ⟨by omega, by omega⟩))) e1, hK.2.2 p pp⟩
  · intro g hg' j hj
    have e : fSl j < 10 := by
      rcases (show j = 0 ∨ j = 1 ∨ j = 2 ∨ j = 3 ∨ j = 4 by omega) with rfl | rfl | rfl | rfl | rfl <;> decide
    rw [w _ (by omega), (cg g _ hg' e).1]; exact d8 g hg' j hj
  · intro p hp'
    have c := fun k h1 h2 => (cp p k hp' h1 h2).1
    obtain ⟨h1, h2, h3, h4, h5, h6⟩ := d9 p hp'
    refine ⟨by rw [c 13 (by decide) (by decide)]; exact h1, by rw [c 7 (by decide) (by decide)]; exact h2, by rw [c 11 (by decide) (by decide)]; exact h3, ?_, by rw [c 12 (by decide) (by decide), c 18 (by decide) (by decide)]; exact h5, fun z => ?_⟩
    · rcases h4 with ⟨⟨f, f1, f2, f3⟩, z⟩ | ⟨z1, z2, ⟨l, mm, M, a1, a2, a3, a4, a5⟩, ⟨q, b1, b2⟩, g, g1, g2, g3, g4, g5, g6, g7⟩
      · exact Or.inl ⟨⟨f, by rw [c 8 (by decide) (by decide)]; exact f1, by omega, hK.1 f (128 + p) (Or.inl f2) (Or.inr (Or.inr (Or.inl ⟨by omega, by omega⟩))) f3⟩, by rw [c 12 (by decide) (by decide)]; exact z⟩
      · exact Or.inr ⟨by rw [c 8 (by decide) (by decide)]; exact z1, by rw [c 12 (by decide) (by decide)]; exact z2, ⟨l, mm, M, by rw [c 9 (by decide) (by decide)]; exact a1, by omega, by rw [c 10 (by decide) (by decide)]; exact a3, by rw [cL l a2]; exact a4, a5.1, hK.1 _ _ (Or.inr (Or.inl ⟨by omega, by omega⟩)) (Or.inr (Or.inr (Or.inl ⟨by omega, by omega⟩))) a5.2⟩, ⟨q, by rw [c 16 (by decide) (by decide)]; exact b1, b2⟩, g, by rw [c 17 (by decide) (by decide)]; exact g1, g2, by rw [(cg g 4 g2 (by decide)).1]; exact g3, by rw [w _ (by omega), c 17 (by decide) (by decide)]; exact g4, by rw [w _ (by omega), (cg g 7 g2 (by decide)).1]; exact g5, by rw [(cg g 1 g2 (by decide)).1, c 16 (by decide) (by decide)]; exact g6, by rw [(cg g 2 g2 (by decide)).1, c 9 (by decide) (by decide)]; exact g7⟩
    · rw [c 12 (by decide) (by decide)] at z
      obtain ⟨n, n1, n2, n3, n4⟩ := h6 z
      refine ⟨n, by rw [c 18 (by decide) (by decide)]; exact n1, ⟨n2.1, fun j hj => by rw [(cp p 19 hp' (by decide) (by decide)).2]; exact n2.2 j hj⟩, by rw [w _ (by omega), c 18 (by decide) (by decide)]; exact n3, fun i hi => by rw [w _ (by omega), (cp p 19 hp' (by decide) (by decide)).2]; exact n4 i hi⟩
