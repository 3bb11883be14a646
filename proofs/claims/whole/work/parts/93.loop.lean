/-! THE BAGS THAT A PLANE TAKES -/
theorem far_same {c : Nat → Nat} {f g : Nat → Int32} {x a t m : Nat} {mI : Int32} (h : RDc c f g) (hx : x < 8) (ha : a < 8) (ht : t < 8) (hm : nn mI m) (m1 : 10 ≤ m) (m2 : m ≤ 400) : mI + f (8 * x + t) = f (8 * a + t) ↔ g (8 * x + t) + mI = g (8 * a + t) := by
  obtain ⟨p, q, p1, q1, e1, e2⟩ := h x t hx ht
  obtain ⟨p', q', p1', q1', e1', e2'⟩ := h a t ha ht
  have s1 := cntR_le c (c x) 8
  have s2 := cntR_le c (c a) 8
  by_cases c1 : c x = c t
  · obtain ⟨r1, r2⟩ := e1 c1
    by_cases c2 : c a = c t
    · obtain ⟨r1', r2'⟩ := e1' c2
      rw [nn_eq (nn_add hm p1 (by omega)) p1', nn_eq (nn_add q1 hm (by omega)) q1']
      omega
    · obtain ⟨r1', r2'⟩ := e2' c2
      rw [nn_eq (nn_add hm p1 (by omega)) p1', nn_eq (nn_add q1 hm (by omega)) q1']
      omega
  · obtain ⟨r1, r2⟩ := e2 c1
    by_cases c2 : c a = c t
    · obtain ⟨r1', r2'⟩ := e1' c2
      rw [nn_eq (nn_add hm p1 (by omega)) p1', nn_eq (nn_add q1 hm (by omega)) q1']
      omega
    · obtain ⟨r1', r2'⟩ := e2' c2
      rw [nn_eq (nn_add hm p1 (by omega)) p1', nn_eq (nn_add q1 hm (by omega)) q1']
      omega
def gO (Sc : yS) (l x a t : Nat) : Prop := x = t ∨ Sc.2.1 1 7 (8 * x + t) + Sc.1 (64 + l) 2 = Sc.2.1 1 7 (8 * a + t)
theorem goes_c {N b l x a t : Nat} {Sc : yS} {xI : Int32} (hx : nn xI x) (x8 : x < 8) (ha : nn (Sc.1 (384 + b) 5) a) (a8 : a < 8) (ht : nn (Sc.1 (384 + b) 1) t) (t8 : t < 8) : (gO Sc l x a t → f_X10_goesBy N Sc (384 + b) (64 + l) xI = some 1) ∧ (¬ gO Sc l x a t → f_X10_goesBy N Sc (384 + b) (64 + l) xI = some 0) := by
  have i1 : nn (xI * 8 + Sc.1 (384 + b) 1) (8 * x + t) := by
    rw [Nat.mul_comm 8 x]
    exact nn_add (nn_mul hx (nn_l 8 (by decide)) (by omega)) ht (by omega)
  have i2 : nn (Sc.1 (384 + b) 5 * 8 + Sc.1 (384 + b) 1) (8 * a + t) := by
    rw [Nat.mul_comm 8 a]
    exact nn_add (nn_mul ha (nn_l 8 (by decide)) (by omega)) ht (by omega)
  have e0 : xI = Sc.1 (384 + b) 1 ↔ x = t := nn_eq hx ht
  unfold f_X10_goesBy f_X10_goesBy_0 f_X2_milesBetween f_X2_milesBetween_0 gO
  rw [gA_nn i1 (by omega), bV_s, gA_nn i2 (by omega), bV_s]
  constructor
  · intro h
    by_cases c : x = t
    · rw [if_pos (e0.mpr c)]
      unfold f_X10_goesBy_47 f_X10_goesBy_52
      rw [gP_t (Or.inr rfl)]
    · rw [if_neg (fun z => c (e0.mp z))]
      rcases h with h | h
      · exact absurd h c
      · rw [if_neg (fun z => z h)]
        unfold f_X10_goesBy_47 f_X10_goesBy_52
        rw [gP_t (Or.inr rfl)]
  · intro h
    rw [if_neg (fun z => h (Or.inl (e0.mp z))), if_pos (fun z => h (Or.inr z))]
    unfold f_X10_goesBy_52
    rw [gP_t (Or.inl rfl)]
theorem chF_b {N b l x a t m : Nat} {c : Nat → Nat} {Sc Sm : yS} {l2 lI aI l6 xI l8 : Int32} {k214 : yS → Int32 → Int32 → Int32 → Int32 → Int32 → Int32 → Option (Int32 × yS)} (hb : b < 30) (hl : nn lI l) (l12 : l < 12) (hR : RDc c (Sm.2.1 8 10) (Sc.2.1 1 7)) (hm : nn (Sc.1 (64 + l) 2) m) (m1 : 10 ≤ m) (m2 : m ≤ 400) (he : Sm.2.1 8 4 l = Sc.1 (64 + l) 2) (hx : nn xI x) (x8 : x < 8) (ha : nn aI a) (a8 : a < 8) (ht : nn (Sc.1 (384 + b) 1) t) (t8 : t < 8) (h24 : Sm.2.1 8 24 b = Sc.1 (384 + b) 1) : (gO Sc l x a t → chF N k214 Sm l2 lI aI l6 xI l8 (encN (some b)) = f_X12_start_397 N k214 Sm l2 lI aI l6 xI (l8 ||| (1 <<< (encN (some b) &&& 31))) (encN (some b))) ∧ (¬ gO Sc l x a t → chF N k214 Sm l2 lI aI l6 xI l8 (encN (some b)) = f_X12_start_402 N k214 Sm l2 lI aI l6 xI (l8 ||| (1 <<< (encN (some b) &&& 31))) (encN (some b)) 0) := by
  have nb : nn (encN (some b)) b := nn_lit b (by omega)
  have i1 : nn (8 * xI + Sc.1 (384 + b) 1) (8 * x + t) := nn_add (nn_mul (nn_l 8 (by decide)) hx (by omega)) ht (by omega)
  have i2 : nn (8 * aI + Sc.1 (384 + b) 1) (8 * a + t) := nn_add (nn_mul (nn_l 8 (by decide)) ha (by omega)) ht (by omega)
  have e0 : Sc.1 (384 + b) 1 = xI ↔ t = x := nn_eq ht hx
  have e1 := far_same hR x8 a8 t8 hm m1 m2
  unfold chF
  rw [if_pos (encN_ne b (by omega)), gA_nn nb hb, h24, gA_nn hl l12, gA_nn nb hb, h24, gA_nn i1 (by omega), gA_nn nb hb, h24, gA_nn i2 (by omega), he]
  constructor
  · intro h
    by_cases c : x = t
    · rw [if_pos (e0.mpr c.symm)]
    · rw [if_neg (fun z => c (e0.mp z).symm)]
      rcases h with h | h
      · exact absurd h c
      · rw [if_neg (fun z => z (e1.mpr h))]
  · intro h
    rw [if_neg (fun z => h (Or.inl (e0.mp z).symm)), if_pos (fun z => h (Or.inr (e1.mp z)))]
def TKs (cK : Nat → Nat) (nf nb l m : Nat) (o c : Nat → Nat) (Sc Sm : yS) : Prop := RBs cK nf nb Sc Sm ∧ (∀ i, i < nb → nn (Sc.2.1 2 10 i) (o i) ∧ o i < nb) ∧ (∀ i j, i < j → j < nb → oB Sc (o i) (o j)) ∧ (∀ b, b < nb → ∃ i, i < nb ∧ o i = b) ∧ (∀ b, b < nb → Sm.2.1 8 25 b = Sc.1 (384 + b) 2 ∧ Sm.2.1 8 26 b = Sc.1 (384 + b) 3 ∧ Sm.2.1 8 27 b = Sc.1 (384 + b) 4) ∧ RDc c (Sm.2.1 8 10) (Sc.2.1 1 7) ∧ nn (Sc.1 (64 + l) 2) m ∧ 10 ≤ m ∧ m ≤ 400 ∧ Sm.2.1 8 4 l = Sc.1 (64 + l) 2 ∧ nf ≤ 8 ∧ l < 12
theorem TKs_FR {cK : Nat → Nat} {nf nb l m : Nat} {o c : Nat → Nat} {Sc Sm Sc' Sm' : yS} (h : TKs cK nf nb l m o c Sc Sm) (fc : FR pBgs Sc Sc') (fm : wF 235 1345 Sm Sm') : TKs cK nf nb l m o c Sc' Sm' := by
  obtain ⟨h1, h2, h3, h4, h5, h6, h7, h8, h9, h10, h11, h12⟩ := h
  have nb30 : nb ≤ 30 := h1.2.1
  have cc : ∀ o k, (o < 384 ∨ k < 5) → Sc'.1 o k = Sc.1 o k ∧ Sc'.2.1 o k = Sc.2.1 o k := fun o k w => fc o k (fun z => by unfold pBgs at z; omega)
  have mm : ∀ k, k ≠ 48 → Sm'.2.1 8 k = Sm.2.1 8 k := fun k w => (wF_o fm (o := 8) (k := k) (fun z => w z.2)).2
  refine ⟨RBs_FR h1 fc fm, fun i hi => ?_, fun i j hi hj => ?_, h4, fun b hb => ?_, ?_, ?_, h8, h9, ?_, h11, h12⟩
  · rw [(cc 2 10 (by omega)).2]; exact h2 i hi
  · unfold oB
    rw [(cc _ 3 (by omega)).1, (cc _ 3 (by omega)).1, (cc _ 4 (by omega)).1, (cc _ 4 (by omega)).1]
    exact h3 i j hi hj
  · rw [(cc _ 2 (by omega)).1, (cc _ 3 (by omega)).1, (cc _ 4 (by omega)).1, mm 25 (by decide), mm 26 (by decide), mm 27 (by decide)]
    exact h5 b hb
  · rw [(cc 1 7 (by omega)).2, mm 10 (by decide)]; exact h6
  · rw [(cc _ 2 (by omega)).1]; exact h7
  · rw [(cc _ 2 (by omega)).1, mm 4 (by decide)]; exact h10
theorem take_loop {cK : Nat → Nat} {N nf nb l m x a pO : Nat} {o c : Nat → Nat} {pI lI aI xI : Int32} (hN : 30 < N) (hl : nn lI l) (hx : nn xI x) (x8 : x < 8) (ha : nn aI a) (a8 : a < 8) (hpO : pO < 384) {pp : Nat} (hpp : nn pI pp) (hfl : cK (900 + pp) = 1) (hcf : cK a = cK (128 + pp)) : ∀ (d i n n' : Nat) (mask room : Int32) (Sc Sm : yS), i + d = nb → d < n → d < n' → TKs cK nf nb l m o c Sc Sm → RBd cK nf nb Sc Sm → Sc.1 pO 8 = aI → (∀ k, k < 30 → tb mask k = true → ∃ j, j < i ∧ o j = k) → (∀ j, j < i → tb mask (o j) = true ∨ ¬ Sc.1 (384 + o j) 5 = aI) → ∃ Sc' Sm', f_X10_takeBags_40 n N Sc pI (64 + l) pO xI room (Int32.ofNat i) = some (0, Sc') ∧ f_X12_start_214 n' N Sm pI lI aI room xI mask = some (0, Sm') ∧ RBd cK nf nb Sc' Sm' ∧ FR pBgs Sc Sc' ∧ wF 235 1345 Sm Sm' := by
  intro d
  induction d with
  | zero =>
    intro i n n' mask room Sc Sm hi hn hn' hT hd hp hm1 hm2
    obtain ⟨n, rfl⟩ : ∃ x, n = x + 1 := ⟨n - 1, by omega⟩
    obtain ⟨n', rfl⟩ : ∃ x, n' = x + 1 := ⟨n' - 1, by omega⟩
    obtain ⟨h1, h2, h3, h4, h5, h6, h7, h8, h9, h10, h11, h12⟩ := hT
    have nb30 : nb ≤ 30 := h1.2.1
    have ni := nn_lit i (by omega)
    refine ⟨Sc, Sm, ?_, ?_, hd, FR_refl _ _, wF_refl _ _ _⟩
    · rw [f_X10_takeBags_40, if_pos ((nn_le h1.1 ni).mpr (by omega))]
    · obtain ⟨best, b1, b2⟩ := choose_loop (N := N) (Sc := Sc) (Sm := Sm) (l2 := pI) (l4 := lI) (l5 := aI) (l6 := room) (l7 := xI) (l8 := mask) (k214 := fun S l2 l4 l5 l6 l7 l8 => f_X12_start_214 n' N S l2 l4 l5 l6 l7 l8) (by rw [h1.2.2.1]; exact h1.1) nb30 (fun b hb => (hd b hb).1) (fun b hb => (h5 b hb).2) nb 0 N none (by omega) (by omega) (fun a ha => by omega)
      rw [f_X12_start_214]
      refine Eq.trans b2 ?_
      cases best with
      | none =>
        unfold chF
        rw [if_neg (fun z => z rfl)]
      | some b =>
        obtain ⟨g1, g2, g3⟩ := b1
        obtain ⟨j, j1, j2⟩ := h4 b g1
        have := hm2 j (by omega)
        rw [j2] at this
        rcases this with z | z
        · exact absurd z g2.1
        · exact absurd g2.2 z
  | succ d ih =>
    intro i n n' mask room Sc Sm hi hn hn' hT hd hp hm1 hm2
    obtain ⟨n, rfl⟩ : ∃ x, n = x + 1 := ⟨n - 1, by omega⟩
    have hT0 := hT
    obtain ⟨h1, h2, h3, h4, h5, h6, h7, h8, h9, h10, h11, h12⟩ := hT
    have nb30 : nb ≤ 30 := h1.2.1
    have ni := nn_lit i (by omega)
    obtain ⟨i1, i2⟩ := h2 i (by omega)
    obtain ⟨a1, a2, t, a3, a4⟩ := h1.2.2.2.1 (o i) i2
    obtain ⟨g1, g2, g3⟩ := hd (o i) i2
    obtain ⟨s1, s2, s3⟩ := h5 (o i) i2
    have nle : ¬ Sc.1 2 9 ≤ Int32.ofNat i := fun q => by have := (nn_le h1.1 ni).mp q; omega
    have e117 : ∀ (S : yS) (r : Int32), f_X10_takeBags_117 N (fun S l1 p2 p3 l4 l5 l6 => f_X10_takeBags_40 n N S l1 p2 p3 l4 l5 l6) S pI (64 + l) pO xI r (Int32.ofNat i) = f_X10_takeBags_40 n N S pI (64 + l) pO xI r (Int32.ofNat (i + 1)) := by
      intro S r
      unfold f_X10_takeBags_117
      rw [y_int1]
    rw [f_X10_takeBags_40, if_neg nle, gA_nn ni (by omega), gR_nn i1 (by omega) a1]
    by_cases cf : Sc.1 (384 + o i) 5 = aI
    · obtain ⟨n', rfl⟩ : ∃ x, n' = x + 1 := ⟨n' - 1, by omega⟩
      have ob : ∀ j, j < i → o j ≠ o i := by
        intro j hj e
        have := h3 j i hj (by omega)
        rw [e] at this
        exact oB_asym this this
      have ut : ¬ tb mask (o i) = true := by
        intro z
        obtain ⟨j, j1, j2⟩ := hm1 (o i) (by omega) z
        exact ob j j1 j2
      obtain ⟨best, b1, b2⟩ := choose_loop (N := N) (Sc := Sc) (Sm := Sm) (l2 := pI) (l4 := lI) (l5 := aI) (l6 := room) (l7 := xI) (l8 := mask) (k214 := fun S l2 l4 l5 l6 l7 l8 => f_X12_start_214 n' N S l2 l4 l5 l6 l7 l8) (by rw [h1.2.2.1]; exact h1.1) nb30 (fun b hb => (hd b hb).1) (fun b hb => (h5 b hb).2) nb 0 N none (by omega) (by omega) (fun a ha => by omega)
      have eb : best = some (o i) := by
        cases best with
        | none => exact absurd ⟨ut, cf⟩ (b1 (o i) i2)
        | some b =>
          obtain ⟨z1, z2, z3⟩ := b1
          obtain ⟨j, j1, j2⟩ := h4 b z1
          rcases Nat.lt_trichotomy j i with w | w | w
          · have := hm2 j w
            rw [j2] at this
            rcases this with v | v
            · exact absurd v z2.1
            · exact absurd z2.2 v
          · rw [← j2, w]
          · have w1 := h3 i j w j1
            rcases z3 (o i) i2 ⟨ut, cf⟩ with v | v
            · rw [v]
            · rw [← j2] at v
              exact absurd v (oB_asym w1)
      subst eb
      have e214 : f_X12_start_214 (n' + 1) N Sm pI lI aI room xI mask = chF N (fun S l2 l4 l5 l6 l7 l8 => f_X12_start_214 n' N S l2 l4 l5 l6 l7 l8) Sm pI lI aI room xI mask (encN (some (o i))) := by
        rw [f_X12_start_214]
        exact b2
      have hcA : cK a = cK (384 + o i) := by
        rcases g3.2.1 with z | ⟨f, z1, z2, z3⟩
        · exact absurd ha.nneg (by rw [← cf, z]; decide)
        · rw [nn_inj ha (by rw [← cf]; exact z1)]; exact z3
      obtain ⟨y1, y2⟩ := goes_c (N := N) (b := o i) (l := l) (Sc := Sc) hx x8 (by rw [cf]; exact ha) a8 a3 (by omega)
      obtain ⟨q1, q2⟩ := chF_b (N := N) (b := o i) (l2 := pI) (l6 := room) (l8 := mask) (k214 := fun S l2 l4 l5 l6 l7 l8 => f_X12_start_214 n' N S l2 l4 l5 l6 l7 l8) (by omega) hl h12 h6 h7 h8 h9 h10 hx x8 ha a8 a3 (by omega) a2
      have nbI : nn (encN (some (o i))) (o i) := nn_lit _ (by omega)
      have M1 : ∀ k, k < 30 → tb (mask ||| (1 <<< (encN (some (o i)) &&& 31))) k = true → ∃ j, j < i + 1 ∧ o j = k := by
        intro k hk z
        rw [tb_set nbI (by omega) hk] at z
        by_cases e : k = o i
        · exact ⟨i, by omega, e.symm⟩
        · rw [decide_eq_false e, Bool.or_false] at z
          obtain ⟨j, j1, j2⟩ := hm1 k hk z
          exact ⟨j, by omega, j2⟩
      have M2 : ∀ j, j < i + 1 → tb (mask ||| (1 <<< (encN (some (o i)) &&& 31))) (o j) = true ∨ ¬ Sc.1 (384 + o j) 5 = aI := by
        intro j hj
        rw [tb_set nbI (by omega) (by have := (h2 j (by omega)).2; omega)]
        by_cases e : o j = o i
        · left
          rw [decide_eq_true e, Bool.or_true]
        · have jj : j < i := by
            rcases Nat.lt_or_ge j i with w | w
            · exact w
            · exact absurd (by rw [show j = i by omega]) e
          rcases hm2 j jj with w | w
          · left
            rw [w, Bool.true_or]
          · exact Or.inr w
      have on : ∃ Sc' Sm', f_X10_takeBags_40 n N Sc pI (64 + l) pO xI room (Int32.ofNat (i + 1)) = some (0, Sc') ∧ f_X12_start_214 n' N Sm pI lI aI room xI (mask ||| (1 <<< (encN (some (o i)) &&& 31))) = some (0, Sm') ∧ RBd cK nf nb Sc' Sm' ∧ FR pBgs Sc Sc' ∧ wF 235 1345 Sm Sm' := ih (i + 1) n n' _ room Sc Sm (by omega) (by omega) (by omega) hT0 hd hp M1 M2
      rw [if_neg (fun z => z (cf.trans hp.symm)), e214]
      by_cases cg : gO Sc l x a t
      · rw [q1 cg]
        unfold f_X12_start_397 f_X12_start_402
        rw [if_neg (show ¬ (1 : Int32) = 0 by decide), gA_nn nbI (by omega), s1]
        by_cases cw : room < Sc.1 (384 + o i) 2
        · rw [if_pos cw, e117, if_neg (fun z => Int32.not_lt.mpr z cw)]
          exact on
        · obtain ⟨Sc1, Sm1, e1, e2, e3, e4, e5, e6, e7, e8, e9⟩ := embark_both (N := N) (b := o i) (bI := encN (some (o i))) (pI := pI) (by omega) nbI g1 g2 h1.2.2.2.2.1
          rw [if_neg cw, y1 cg, bV_s, if_neg (show ¬ (1 : Int32) = 0 by decide), e1, bS_s, e117, if_pos (Int32.not_lt.mp cw), gA_nn nbI (by omega), e2]
          have fc := pBg_s e5 (by omega)
          have fm : wF 235 1345 Sm Sm1 := wF_mono e6 (by omega) (by omega)
          have w2 : Sc1.1 (384 + o i) 2 = Sc.1 (384 + o i) 2 := (fc (384 + o i) 2 (fun z => by have := z.2.2.1; omega)).1
          rw [w2, s1]
          have nA : ¬ (-1 : Int32) = aI := fun z => ha.nneg (by rw [← z]; decide)
          obtain ⟨Sc', Sm', v1, v2, v3, v4, v5⟩ := ih (i + 1) n n' (mask ||| (1 <<< (encN (some (o i)) &&& 31))) (room - Sc.1 (384 + o i) 2) Sc1 Sm1 (by omega) (by omega) (by omega) (TKs_FR hT0 fc fm) (RBd_one hd i2 nb30 e3 e4 ⟨by rw [e8]; exact g3.1, Or.inl e7, fun p' _ hp' => by rw [e9] at hp'; rw [nn_inj hp' hpp]; exact ⟨hcf.symm.trans hcA, hfl⟩⟩ e5 e6) (by rw [(fc pO 8 (fun z => by have := z.1; omega)).1]; exact hp) M1 (by
            intro j hj
            by_cases e : o j = o i
            · right
              rw [e, e7]
              exact nA
            · have := M2 j hj
              rw [(e5 (384 + o j) 5 (fun z => by have := z.1; omega)).1]
              exact this)
          exact ⟨Sc', Sm', v1, v2, v3, FR_trans fc v4, wF_trans fm v5⟩
      · rw [q2 cg]
        unfold f_X12_start_402
        rw [if_pos rfl]
        by_cases cw : room < Sc.1 (384 + o i) 2
        · rw [if_pos cw, e117]
          exact on
        · rw [if_neg cw, y2 cg, bV_s, if_pos rfl, e117]
          exact on
    · rw [if_pos (fun z => cf (z.trans hp)), e117]
      exact ih (i + 1) n n' mask room Sc Sm (by omega) (by omega) (by omega) hT0 hd hp (fun k hk z => by
        obtain ⟨j, j1, j2⟩ := hm1 k hk z
        exact ⟨j, by omega, j2⟩) (fun j hj => by
        rcases Nat.lt_or_ge j i with w | w
        · exact hm2 j w
        · rw [show j = i by omega]
          exact Or.inr cf)
