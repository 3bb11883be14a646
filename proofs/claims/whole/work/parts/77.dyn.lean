/-! PLANES, PILOTS, BAGS, FLIGHTS: what class and reference hold of them -/
def pS (j : Nat) : Nat := ([8, 9, 10, 12, 13, 5, 6, 7, 15, 14, 11, 16] : List Nat).getD j 0
def bSl (j : Nat) : Nat := ([5, 6, 7, 8, 10] : List Nat).getD j 0
def fSl (j : Nat) : Nat := ([4, 5, 6, 8, 9] : List Nat).getD j 0
def DP (np : Nat) (Sc Sm : yS) : Prop := ∀ p, p < np → ∀ j, j < 12 → Sm.2.1 8 48 (19 + 23 * p + j) = Sc.1 (128 + p) (pS j)
def DQ (nq : Nat) (Sc Sm : yS) : Prop := ∀ q, q < nq → ∀ j, j < 4 → Sm.2.1 8 48 (203 + 4 * q + j) = Sc.1 (256 + q) j
def DB (nb : Nat) (Sc Sm : yS) : Prop := ∀ b, b < nb → ∀ j, j < 5 → Sm.2.1 8 48 (235 + 37 * b + j) = Sc.1 (384 + b) (bSl j)
def DS (nb : Nat) (Sc Sm : yS) : Prop := ∀ b, b < nb → ∃ n, nn (Sc.1 (384 + b) 10) n ∧ n ≤ 16 ∧ ∀ j, j < 2 * n → Sm.2.1 8 48 (235 + 37 * b + 5 + j) = Sc.2.1 (384 + b) 9 j
def DL (ng : Nat) (Sc Sm : yS) : Prop := ∀ g, g < ng → ∀ j, j < 5 → Sm.2.1 8 48 (1345 + 5 * g + j) = Sc.1 (512 + g) (fSl j)
/-- what of one plane never changes -/
def P0 (Sc Sm : yS) (p : Nat) : Prop := Sc.2.1 2 4 p = 1 ∧ Sm.2.1 8 16 p = Sc.1 (128 + p) 0 ∧ Sm.2.1 8 17 p = Sc.1 (128 + p) 1 ∧ Sm.2.1 8 18 p = Sc.1 (128 + p) 2 ∧ Sm.2.1 8 19 p = Sc.1 (128 + p) 3 ∧ Sm.2.1 8 20 p = Sc.1 (128 + p) 4 ∧ (∃ s, nn (Sc.1 (128 + p) 0) s ∧ 5 ≤ s ∧ s ≤ 60) ∧ (∃ s, nn (Sc.1 (128 + p) 3) s ∧ 1 ≤ s ∧ s ≤ 60 ∧ (Sc.1 (128 + p) 4 = 0 ∨ Sc.1 (128 + p) 4 = 1))
def B0 (nf : Nat) (Sc Sm : yS) (b : Nat) : Prop := Sc.2.1 2 8 b = 1 ∧ Sm.2.1 8 23 b = Sc.1 (384 + b) 0 ∧ Sm.2.1 8 24 b = Sc.1 (384 + b) 1 ∧ Sm.2.1 8 25 b = Sc.1 (384 + b) 2 ∧ Sm.2.1 8 26 b = Sc.1 (384 + b) 3 ∧ Sm.2.1 8 27 b = Sc.1 (384 + b) 4 ∧ (∃ a, nn (Sc.1 (384 + b) 0) a ∧ a < nf) ∧ (∃ a, nn (Sc.1 (384 + b) 1) a ∧ a < nf) ∧ (∃ d, nn (Sc.1 (384 + b) 4) d ∧ d ≤ 3000)
def L0 (nl np nq : Nat) (Sc Sm : yS) (g : Nat) : Prop := Sc.2.1 2 11 g = 1 ∧ Sm.2.1 8 29 g = Sc.1 (512 + g) 0 ∧ Sm.2.1 8 30 g = Sc.1 (512 + g) 1 ∧ Sm.2.1 8 31 g = Sc.1 (512 + g) 2 ∧ Sm.2.1 8 32 g = Sc.1 (512 + g) 3 ∧ (∃ a, nn (Sc.1 (512 + g) 0) a ∧ a < np) ∧ (∃ a, nn (Sc.1 (512 + g) 1) a ∧ a < nq) ∧ (∃ a, nn (Sc.1 (512 + g) 2) a ∧ a < nl) ∧ (∃ a, nn (Sc.1 (512 + g) 3) a ∧ a ≤ 3000)
/-- bag a goes ahead of bag b -/
def oB (Sc : yS) (a b : Nat) : Prop := Sc.1 (384 + a) 3 < Sc.1 (384 + b) 3 ∨ (Sc.1 (384 + a) 3 = Sc.1 (384 + b) 3 ∧ (Sc.1 (384 + a) 4 < Sc.1 (384 + b) 4 ∨ (Sc.1 (384 + a) 4 = Sc.1 (384 + b) 4 ∧ a < b)))
def oR (nb : Nat) (Sc : yS) : Prop := ∃ o : Nat → Nat, (∀ i, i < nb → nn (Sc.2.1 2 10 i) (o i) ∧ o i < nb) ∧ (∀ i j, i < j → j < nb → oB Sc (o i) (o j)) ∧ ∀ b, b < nb → ∃ i, i < nb ∧ o i = b
/-- no object where none is yet -/
def oN (np nq nb ng : Nat) (Sc : yS) : Prop := (∀ p, np ≤ p → p < 8 → ¬ Sc.2.1 2 4 p = 1 ∧ ¬ Sc.1 (128 + p) 20 = 1) ∧ (∀ p, nq ≤ p → p < 8 → ¬ Sc.2.1 2 6 p = 1 ∧ ¬ Sc.1 (256 + p) 4 = 1) ∧ (∀ p, nb ≤ p → p < 30 → ¬ Sc.2.1 2 8 p = 1 ∧ ¬ Sc.1 (384 + p) 11 = 1) ∧ (∀ p, ng ≤ p → p < 24 → ¬ Sc.2.1 2 11 p = 1 ∧ ¬ Sc.1 (512 + p) 10 = 1) ∧ (∀ p, p < 8 → ¬ Sc.1 (192 + p) 20 = 1) ∧ (∀ p, p < 8 → ¬ Sc.1 (320 + p) 4 = 1) ∧ (∀ p, p < 30 → ¬ Sc.1 (448 + p) 11 = 1) ∧ ∀ p, p < 24 → ¬ Sc.1 (576 + p) 10 = 1
/-- how many there are -/
def oC (np nq nb ng : Nat) (Sc Sm : yS) : Prop := (nn (Sc.1 2 5) np ∧ np ≤ 8 ∧ Sm.1 8 21 = Sc.1 2 5) ∧ (nn (Sc.1 2 7) nq ∧ nq ≤ 8 ∧ Sm.1 8 22 = Sc.1 2 7) ∧ (nn (Sc.1 2 9) nb ∧ nb ≤ 30 ∧ Sm.1 8 28 = Sc.1 2 9) ∧ (nn (Sc.1 2 12) ng ∧ ng ≤ 24 ∧ Sm.1 8 33 = Sc.1 2 12)
/-- grounds lie on their leg -/
def gBd (nf nl : Nat) (Sc : yS) : Prop := ∀ l, l < nl → ∃ k M, nn (Sc.1 (64 + l) 4) k ∧ k ≤ 4 ∧ nn (Sc.1 (64 + l) 2) M ∧ (∀ j, j < k → ((∃ m, nn (Sc.2.1 (64 + l) 5 j) m ∧ m ≤ M) ∧ ∃ r, nn (Sc.2.1 (64 + l) 6 j) r ∧ r ≤ 3)) ∧ (∃ a, nn (Sc.1 (64 + l) 0) a ∧ a < nf) ∧ ∃ a, nn (Sc.1 (64 + l) 1) a ∧ a < nf
/-- winds that were told -/
def wBd (k : Nat) (Sc : yS) : Prop := ∀ i, i < k → -9 ≤ Sc.2.1 1 11 i ∧ Sc.2.1 1 11 i ≤ 9
/-- one label holds what one way of legs holds together: fields, legs (64), planes (128), bags (384) -/
def cE (cK : Nat → Nat) (nl np nb : Nat) (Sc : yS) : Prop := (∀ l, l < nl → ∀ a, (nn (Sc.1 (64 + l) 0) a ∨ nn (Sc.1 (64 + l) 1) a) → cK a = cK (64 + l)) ∧ (∀ b, b < nb → ∀ a, (nn (Sc.1 (384 + b) 0) a ∨ nn (Sc.1 (384 + b) 1) a) → cK a = cK (384 + b)) ∧ ∀ p, p < 8 → (cK (900 + p) = 1 ↔ p < np)
/-- all that a quarter leaves as it is -/
def ST (cK : Nat → Nat) (nf nl np nq nb ng : Nat) (Sc Sm : yS) : Prop := RF nf Sc Sm ∧ RG nl Sc Sm ∧ (RDc cK (Sm.2.1 8 10) (Sc.2.1 1 7) ∧ cE cK nl np nb Sc) ∧ (∃ k, RT k Sc Sm ∧ wBd k Sc) ∧ (∃ a b, RR a b Sc Sm ∧ RK a b Sc Sm) ∧ RS Sc Sm ∧ oC np nq nb ng Sc Sm ∧ (∀ p, p < np → P0 Sc Sm p) ∧ (∀ q, q < nq → Sc.2.1 2 6 q = 1) ∧ (∀ b, b < nb → B0 nf Sc Sm b) ∧ (∀ g, g < ng → L0 nl np nq Sc Sm g) ∧ oR nb Sc ∧ oN np nq nb ng Sc ∧ gBd nf nl Sc
def pQC (o k : Nat) : Prop := (o = 2 ∧ k = 14) ∨ (o = 3 ∧ k ≠ 0) ∨ (o = 4 ∧ (k = 1 ∨ k = 2 ∨ k = 7)) ∨ (o = 5 ∧ (k = 1 ∨ k = 2 ∨ k = 7)) ∨ (128 ≤ o ∧ o < 136 ∧ 5 ≤ k ∧ k ≤ 17 ∧ k ≠ 6) ∨ (256 ≤ o ∧ o < 264 ∧ k ≤ 2) ∨ (384 ≤ o ∧ o < 414 ∧ 5 ≤ k ∧ k ≤ 10) ∨ (512 ≤ o ∧ o < 536 ∧ 4 ≤ k ∧ k ≤ 9)
/-- and the hour -/
def pQW (o k : Nat) : Prop := pQC o k ∨ (o = 2 ∧ k = 13) ∨ (256 ≤ o ∧ o < 264 ∧ k = 3) ∨ (128 ≤ o ∧ o < 136 ∧ (k = 6 ∨ (18 ≤ k ∧ k ≤ 19))) ∨ (o = 0 ∨ o = 6 ∨ o = 7 ∨ o = 9 ∨ (o = 2 ∧ 17 ≤ k ∧ k ≤ 19))
/-- and what is kept for a trial -/
def pQX (o k : Nat) : Prop := pQW o k ∨ (192 ≤ o ∧ o < 200) ∨ (320 ≤ o ∧ o < 328) ∨ (448 ≤ o ∧ o < 478) ∨ (576 ≤ o ∧ o < 600) ∨ (128 ≤ o ∧ o < 136 ∧ k = 20) ∨ (256 ≤ o ∧ o < 264 ∧ k = 4) ∨ (384 ≤ o ∧ o < 414 ∧ k = 11) ∨ (512 ≤ o ∧ o < 536 ∧ k = 10)
def pQM (o k : Nat) : Prop := o = 8 ∧ (k = 47 ∨ k = 48 ∨ (50 ≤ k ∧ k ≤ 57))
/-- and the row of answers -/
def pQN (o k : Nat) : Prop := pQM o k ∨ (o = 8 ∧ (k = 45 ∨ k = 46 ∨ k = 49 ∨ 58 ≤ k)) ∨ o = 10
theorem FR_fun {p : Nat → Nat → Prop} {S S' : yS} {o : Nat} (h : FR p S S') (ho : ∀ k, ¬ p o k) : S'.1 o = S.1 o ∧ S'.2.1 o = S.2.1 o := ⟨funext fun k => (h o k (ho k)).1, funext fun k => (h o k (ho k)).2⟩
theorem RS_congr {Sc Sm Sc' Sm' : yS} (h : RS Sc Sm) (e1 : Sc'.1 3 0 = Sc.1 3 0) (e2 : Sc'.1 2 15 = Sc.1 2 15) (e3 : Sc'.1 2 16 = Sc.1 2 16) (m1 : Sm'.1 8 34 = Sm.1 8 34) (m2 : Sm'.1 8 35 = Sm.1 8 35) (m3 : Sm'.1 8 36 = Sm.1 8 36) : RS Sc' Sm' := by
  unfold RS at h ⊢
  rw [e1, e2, e3, m1, m2, m3]
  exact h
theorem ST_FX {cK : Nat → Nat} {nf nl np nq nb ng : Nat} {Sc Sm Sc' Sm' : yS} (h : ST cK nf nl np nq nb ng Sc Sm) (fc : FR pQX Sc Sc') (fm : FR pQN Sm Sm') (fw : ∀ i, 3 ≤ i → i < 19 → Sm'.2.1 8 48 i = Sm.2.1 8 48 i) (hN : oN np nq nb ng Sc') : ST cK nf nl np nq nb ng Sc' Sm' := by
  obtain ⟨h1, h2, ⟨h3, h3'⟩, ⟨k, h4, h4'⟩, ⟨a, b, h5, h6⟩, h7, h8, h9, h10, h11, h12, h13, h14, h15⟩ := h
  have c1 : Sc'.1 1 = Sc.1 1 ∧ Sc'.2.1 1 = Sc.2.1 1 := FR_fun fc (fun k z => by unfold pQX pQW pQC at z; omega)
  have cL : ∀ i, i < 12 → Sc'.1 (64 + i) = Sc.1 (64 + i) ∧ Sc'.2.1 (64 + i) = Sc.2.1 (64 + i) := fun i hi => FR_fun fc (fun k z => by unfold pQX pQW pQC at z; omega)
  have c2 : ∀ k, k ≠ 13 → k ≠ 14 → k < 17 → Sc'.1 2 k = Sc.1 2 k ∧ Sc'.2.1 2 k = Sc.2.1 2 k := fun k a b c => fc 2 k (fun z => by unfold pQX pQW pQC at z; omega)
  have c4 : ∀ k, k ≠ 1 → k ≠ 2 → k ≠ 7 → (Sc'.1 4 k = Sc.1 4 k ∧ Sc'.2.1 4 k = Sc.2.1 4 k) ∧ Sc'.1 5 k = Sc.1 5 k ∧ Sc'.2.1 5 k = Sc.2.1 5 k := fun k a b c => ⟨fc 4 k (fun z => by unfold pQX pQW pQC at z; omega), fc 5 k (fun z => by unfold pQX pQW pQC at z; omega)⟩
  have mm : ∀ k, k ≠ 47 → k ≠ 48 → k < 45 → Sm'.1 8 k = Sm.1 8 k ∧ Sm'.2.1 8 k = Sm.2.1 8 k := fun k a b c => fm 8 k (fun z => by unfold pQN pQM at z; omega)
  have cp : ∀ p k, p < 8 → k < 5 → Sc'.1 (128 + p) k = Sc.1 (128 + p) k := fun p k a b => (fc (128 + p) k (fun z => by unfold pQX pQW pQC at z; omega)).1
  have cb : ∀ p k, p < 30 → k < 5 → Sc'.1 (384 + p) k = Sc.1 (384 + p) k := fun p k a b => (fc (384 + p) k (fun z => by unfold pQX pQW pQC at z; omega)).1
  have cg : ∀ p k, p < 24 → k < 4 → Sc'.1 (512 + p) k = Sc.1 (512 + p) k := fun p k a b => (fc (512 + p) k (fun z => by unfold pQX pQW pQC at z; omega)).1
  obtain ⟨⟨o1, o2, o3⟩, ⟨o4, o5, o6⟩, ⟨o7, o8, o9⟩, o10, o11, o12⟩ := h8
  refine ⟨?_, ?_, ⟨?_, ?_⟩, ⟨k, ?_, ?_⟩, ⟨a, b, ?_, ?_⟩, ?_, ?_, ?_, ?_, ?_, ?_, ?_, ?_, ?_⟩
  · exact RF_congr h1 (by rw [c1.1]) (mm 1 (by decide) (by decide) (by decide)).1 (by rw [c1.2]) (by rw [c1.2]) (by rw [c1.2]) (mm 0 (by decide) (by decide) (by decide)).2 fw
  · exact RG_congr h2 (by rw [c1.1]) (mm 9 (by decide) (by decide) (by decide)).1 (by rw [c1.2]) cL (fun s a b => (mm s (by omega) (by omega) (by omega)).2)
  · rw [c1.2, (mm 10 (by decide) (by decide) (by decide)).2]
    exact h3
  · refine ⟨fun l hl a ha => ?_, fun b hb a ha => ?_, h3'.2.2⟩
    · rw [(cL l (by have := h2.2.1; omega)).1] at ha
      exact h3'.1 l hl a ha
    · rw [cb b 0 (by omega) (by decide), cb b 1 (by omega) (by decide)] at ha
      exact h3'.2.1 b hb a ha
  · exact RT_congr h4 (by rw [c1.1]) (mm 15 (by decide) (by decide) (by decide)).1 (by rw [c1.2]) (by rw [c1.2]) (by rw [c1.2]) (by rw [c1.2]) (mm 11 (by decide) (by decide) (by decide)).2 (mm 12 (by decide) (by decide) (by decide)).2 (mm 13 (by decide) (by decide) (by decide)).2 (mm 14 (by decide) (by decide) (by decide)).2
  · intro i hi
    rw [c1.2]
    exact h4' i hi
  · exact RR_congr h5 (c4 0 (by decide) (by decide) (by decide)).1.1 (c4 0 (by decide) (by decide) (by decide)).2.1 (mm 41 (by decide) (by decide) (by decide)).1 (mm 42 (by decide) (by decide) (by decide)).1 (c4 3 (by decide) (by decide) (by decide)).1.2 (c4 4 (by decide) (by decide) (by decide)).1.2 (c4 3 (by decide) (by decide) (by decide)).2.2 (c4 4 (by decide) (by decide) (by decide)).2.2 (mm 39 (by decide) (by decide) (by decide)).2 (mm 40 (by decide) (by decide) (by decide)).2
  · exact RK_congr h6 (c4 3 (by decide) (by decide) (by decide)).1.2 (c4 5 (by decide) (by decide) (by decide)).1.2 (c4 6 (by decide) (by decide) (by decide)).1.2 (c4 5 (by decide) (by decide) (by decide)).2.2 (c4 6 (by decide) (by decide) (by decide)).2.2 (mm 37 (by decide) (by decide) (by decide)).2 (mm 38 (by decide) (by decide) (by decide)).2
  · exact RS_congr h7 (fc 3 0 (fun z => by unfold pQX pQW pQC at z; omega)).1 (c2 15 (by decide) (by decide) (by decide)).1 (c2 16 (by decide) (by decide) (by decide)).1 (mm 34 (by decide) (by decide) (by decide)).1 (mm 35 (by decide) (by decide) (by decide)).1 (mm 36 (by decide) (by decide) (by decide)).1
  · unfold oC
    rw [(c2 5 (by decide) (by decide) (by decide)).1, (c2 7 (by decide) (by decide) (by decide)).1, (c2 9 (by decide) (by decide) (by decide)).1, (c2 12 (by decide) (by decide) (by decide)).1, (mm 21 (by decide) (by decide) (by decide)).1, (mm 22 (by decide) (by decide) (by decide)).1, (mm 28 (by decide) (by decide) (by decide)).1, (mm 33 (by decide) (by decide) (by decide)).1]
    exact ⟨⟨o1, o2, o3⟩, ⟨o4, o5, o6⟩, ⟨o7, o8, o9⟩, o10, o11, o12⟩
  · intro p hp
    have hp8 : p < 8 := by omega
    unfold P0
    rw [(c2 4 (by decide) (by decide) (by decide)).2, (mm 16 (by decide) (by decide) (by decide)).2, (mm 17 (by decide) (by decide) (by decide)).2, (mm 18 (by decide) (by decide) (by decide)).2, (mm 19 (by decide) (by decide) (by decide)).2, (mm 20 (by decide) (by decide) (by decide)).2, cp p 0 hp8 (by decide), cp p 1 hp8 (by decide), cp p 2 hp8 (by decide), cp p 3 hp8 (by decide), cp p 4 hp8 (by decide)]
    exact h9 p hp
  · intro q hq
    rw [(c2 6 (by decide) (by decide) (by decide)).2]
    exact h10 q hq
  · intro b hb
    have hb8 : b < 30 := by omega
    unfold B0
    rw [(c2 8 (by decide) (by decide) (by decide)).2, (mm 23 (by decide) (by decide) (by decide)).2, (mm 24 (by decide) (by decide) (by decide)).2, (mm 25 (by decide) (by decide) (by decide)).2, (mm 26 (by decide) (by decide) (by decide)).2, (mm 27 (by decide) (by decide) (by decide)).2, cb b 0 hb8 (by decide), cb b 1 hb8 (by decide), cb b 2 hb8 (by decide), cb b 3 hb8 (by decide), cb b 4 hb8 (by decide)]
    exact h11 b hb
  · intro g hg
    have hg8 : g < 24 := by omega
    unfold L0
    rw [(c2 11 (by decide) (by decide) (by decide)).2, (mm 29 (by decide) (by decide) (by decide)).2, (mm 30 (by decide) (by decide) (by decide)).2, (mm 31 (by decide) (by decide) (by decide)).2, (mm 32 (by decide) (by decide) (by decide)).2, cg g 0 hg8 (by decide), cg g 1 hg8 (by decide), cg g 2 hg8 (by decide), cg g 3 hg8 (by decide)]
    exact h12 g hg
  · obtain ⟨o, w1, w2, w3⟩ := h13
    refine ⟨o, fun i hi => by rw [(c2 10 (by decide) (by decide) (by decide)).2]; exact w1 i hi, fun i j hi hj => ?_, w3⟩
    have a1 : o i < 30 := by have := (w1 i (by omega)).2; omega
    have a2 : o j < 30 := by have := (w1 j hj).2; omega
    unfold oB
    rw [cb _ 3 a1 (by decide), cb _ 3 a2 (by decide), cb _ 4 a1 (by decide), cb _ 4 a2 (by decide)]
    exact w2 i j hi hj
  · exact hN
  · intro l hl
    have hl12 : l < 12 := by have := h2.2.1; omega
    rw [(cL l hl12).1, (cL l hl12).2]
    exact h15 l hl
theorem oN_FW {np nq nb ng : Nat} {Sc Sc' : yS} (h14 : oN np nq nb ng Sc) (fc : FR pQW Sc Sc') : oN np nq nb ng Sc' := by
  have c2 : ∀ k, k ≠ 13 → k ≠ 14 → k < 17 → Sc'.1 2 k = Sc.1 2 k ∧ Sc'.2.1 2 k = Sc.2.1 2 k := fun k a b c => fc 2 k (fun z => by unfold pQW pQC at z; omega)
  have cp : ∀ p k, p < 8 → (k < 5 ∨ 19 < k) → Sc'.1 (128 + p) k = Sc.1 (128 + p) k := fun p k a b => (fc (128 + p) k (fun z => by unfold pQW pQC at z; omega)).1
  have cb : ∀ p k, p < 30 → (k < 5 ∨ 10 < k) → Sc'.1 (384 + p) k = Sc.1 (384 + p) k := fun p k a b => (fc (384 + p) k (fun z => by unfold pQW pQC at z; omega)).1
  have cg : ∀ p k, p < 24 → (k < 4 ∨ 9 < k) → Sc'.1 (512 + p) k = Sc.1 (512 + p) k := fun p k a b => (fc (512 + p) k (fun z => by unfold pQW pQC at z; omega)).1
  have cq : ∀ p k, p < 8 → 4 ≤ k → Sc'.1 (256 + p) k = Sc.1 (256 + p) k := fun p k a b => (fc (256 + p) k (fun z => by unfold pQW pQC at z; omega)).1
  obtain ⟨n1, n2, n3, n4, n5, n6, n7, n8⟩ := h14
  refine ⟨fun p a b => ?_, fun p a b => ?_, fun p a b => ?_, fun p a b => ?_, fun p a => ?_, fun p a => ?_, fun p a => ?_, fun p a => ?_⟩
  · rw [(c2 4 (by decide) (by decide) (by decide)).2, cp p 20 b (by decide)]
    exact n1 p a b
  · rw [(c2 6 (by decide) (by decide) (by decide)).2, cq p 4 b (by decide)]
    exact n2 p a b
  · rw [(c2 8 (by decide) (by decide) (by decide)).2, cb p 11 b (by decide)]
    exact n3 p a b
  · rw [(c2 11 (by decide) (by decide) (by decide)).2, cg p 10 b (by decide)]
    exact n4 p a b
  · rw [(fc (192 + p) 20 (fun z => by unfold pQW pQC at z; omega)).1]
    exact n5 p a
  · rw [(fc (320 + p) 4 (fun z => by unfold pQW pQC at z; omega)).1]
    exact n6 p a
  · rw [(fc (448 + p) 11 (fun z => by unfold pQW pQC at z; omega)).1]
    exact n7 p a
  · rw [(fc (576 + p) 10 (fun z => by unfold pQW pQC at z; omega)).1]
    exact n8 p a
theorem ST_FW {cK : Nat → Nat} {nf nl np nq nb ng : Nat} {Sc Sm Sc' Sm' : yS} (h : ST cK nf nl np nq nb ng Sc Sm) (fc : FR pQW Sc Sc') (fm : FR pQN Sm Sm') (fw : ∀ i, 3 ≤ i → i < 19 → Sm'.2.1 8 48 i = Sm.2.1 8 48 i) : ST cK nf nl np nq nb ng Sc' Sm' := ST_FX h (FR_mono fc (fun o k z => Or.inl z)) fm fw (oN_FW h.2.2.2.2.2.2.2.2.2.2.2.2.1 fc)
theorem ST_FR {cK : Nat → Nat} {nf nl np nq nb ng : Nat} {Sc Sm Sc' Sm' : yS} (h : ST cK nf nl np nq nb ng Sc Sm) (fc : FR pQC Sc Sc') (fm : FR pQM Sm Sm') (fw : ∀ i, 3 ≤ i → i < 19 → Sm'.2.1 8 48 i = Sm.2.1 8 48 i) : ST cK nf nl np nq nb ng Sc' Sm' := ST_FW h (FR_mono fc (fun o k z => Or.inl z)) (FR_mono fm (fun o k z => Or.inl z)) fw
