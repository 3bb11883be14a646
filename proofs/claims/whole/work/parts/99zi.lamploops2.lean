/-! LAMPS: the loops over the sets -/
theorem pw_0 : ∀ m, m < 256 → 1 ≤ m → pcB m ≠ 0 := by decide +kernel
theorem pw_1 : ∀ a, a < 8 → ∀ m, m < 256 → 2 ^ (7 - a) < m → m < 2 ^ (8 - a) → pcB m ≠ 1 := by decide +kernel
theorem pw_2' : ∀ m, m < 256 → ∀ a, a < 8 → ∀ b, b < 8 → (¬ (a < b ∧ 2 ^ (7 - a) + 2 ^ (7 - b) < m ∧ m < 2 ^ (7 - a) + 2 ^ (8 - b)) ∨ pcB m ≠ 2) := by decide +kernel
theorem pw_2 : ∀ a, a < 8 → ∀ b, b < 8 → a < b → ∀ m, m < 256 → 2 ^ (7 - a) + 2 ^ (7 - b) < m → m < 2 ^ (7 - a) + 2 ^ (8 - b) → pcB m ≠ 2 := fun a ha b hb ab m hm x y => (pw_2' m hm a ha b hb).resolve_left (fun z => z ⟨ab, x, y⟩)
theorem pw_3 : ∀ f, f < 9 → ∀ m, m < 256 → m < 2 ^ (8 - f) → (∀ i, i < 8 → mB m i = true → i < f) → pcB m = 0 := by decide +kernel
def hiB (m f : Nat) : Nat := m % 2 ^ (8 - f)
theorem pw_4a : ∀ f, f < 9 → ∀ m, m < 256 → (∀ i, i < 8 → mB m i = true → i < f) → hiB m f = 0 := by decide +kernel
def ck4 (m a f : Nat) : Bool := if a < f ∧ 2 ^ (7 - a) ≤ m ∧ m < 2 ^ (7 - a) + 2 ^ (8 - f) ∧ hiB m f = 0 then !(pcB m == 2) else true
theorem pw_4' : ∀ m, m < 256 → ∀ a, a < 8 → ∀ f, f < 9 → ck4 m a f = true := by decide +kernel
theorem pw_4 : ∀ a, a < 8 → ∀ f, f < 9 → a < f → ∀ m, m < 256 → 2 ^ (7 - a) ≤ m → m < 2 ^ (7 - a) + 2 ^ (8 - f) → (∀ i, i < 8 → mB m i = true → i < f) → pcB m ≠ 2 := fun a ha f hf af m hm x y z w => by
  have := pw_4' m hm a ha f hf
  unfold ck4 at this
  rw [if_pos ⟨af, x, y, pw_4a f hf m hm z⟩, w] at this
  exact absurd this (by decide)
theorem pw_5 : ∀ a, a < 8 → 2 ^ (7 - a) < 256 ∧ pcB (2 ^ (7 - a)) = 1 ∧ cntB (2 ^ (7 - a)) a = 0 ∧ ∀ i, i < 8 → (mB (2 ^ (7 - a)) i = true ↔ i = a) := by decide +kernel
theorem pw_6' : ∀ a, a < 8 → ∀ b, b < 8 → (¬ a < b ∨ (2 ^ (7 - a) + 2 ^ (7 - b) < 256 ∧ pcB (2 ^ (7 - a) + 2 ^ (7 - b)) = 2 ∧ cntB (2 ^ (7 - a) + 2 ^ (7 - b)) a = 0 ∧ cntB (2 ^ (7 - a) + 2 ^ (7 - b)) b = 1 ∧ ∀ i, i < 8 → (mB (2 ^ (7 - a) + 2 ^ (7 - b)) i = true ↔ i = a ∨ i = b))) := by decide +kernel
theorem pw_6 : ∀ a, a < 8 → ∀ b, b < 8 → a < b → 2 ^ (7 - a) + 2 ^ (7 - b) < 256 ∧ pcB (2 ^ (7 - a) + 2 ^ (7 - b)) = 2 ∧ cntB (2 ^ (7 - a) + 2 ^ (7 - b)) a = 0 ∧ cntB (2 ^ (7 - a) + 2 ^ (7 - b)) b = 1 ∧ ∀ i, i < 8 → (mB (2 ^ (7 - a) + 2 ^ (7 - b)) i = true ↔ i = a ∨ i = b) := fun a ha b hb ab => (pw_6' a ha b hb).resolve_left (fun z => z ab)
theorem pw_7 : ∀ a, a < 8 → 2 ^ (8 - a) = 2 ^ (7 - a) + 2 ^ (7 - a) ∧ 1 ≤ 2 ^ (7 - a) := by decide
theorem lit_D {cK : Nat → Nat} {nf nl np nq nb ng D i : Nat} {O OM S M : yS} (hS : TS cK nf nl np nq nb ng O OM S M) (hD : ∀ j, j < 8 → (mB D j = true ↔ j < nf ∧ O.2.1 1 1 j = 0)) (hi : i < nf) : M.2.1 8 48 (3 + 2 * i) = 1 ↔ ¬ mB D i = true := by
  obtain ⟨hT, hD', F, G⟩ := hS
  have nf8 : nf ≤ 8 := hT.1.2.1
  have rowS : S.2.1 1 1 = O.2.1 1 1 := (F 1 1 (by unfold pKT pQH pQC; omega)).2
  obtain ⟨y1, y2, y3, y4, _⟩ := hT.1.2.2.2 i (by omega)
  rw [hD i (by omega), ← rowS, y2]
  constructor
  · intro z w
    rw [z] at w
    exact absurd w.2 (by decide)
  · intro z
    rcases y4 with w | w
    · exact absurd ⟨hi, w⟩ z
    · exact w
/-- the state on the way -/
def EN (cK : Nat → Nat) (N kw nf nl np nq nb ng t q D k : Nat) (O OM : yS) (l1 l2 : Int32) : Prop := 2400 < N ∧ TB cK kw nf nl np nq nb ng O OM ∧ nn (O.1 2 13) t ∧ nn l2 q ∧ q ≤ 200 ∧ t + q ≤ 3000 ∧ nn l1 k ∧ (∀ j, j < 8 → (mB D j = true ↔ j < nf ∧ O.2.1 1 1 j = 0)) ∧ nf ≤ 8
/-- from place p to p', from x to y in the reference -/
def lmP (cK : Nat → Nat) (N n0 nf nl np nq nb ng D k : Nat) (O OM : yS) (l1 l2 : Int32) (p p' : Nat) (S : yS) (l4 l5 l6 : Int32) (x : Option (Int32 × yS)) (y : yS → Int32 → Int32 → Option (Int32 × yS)) : Prop := ∃ S' M' l4' l5' l6' r4' r5', lmC N n0 p D l1 l2 S l4 l5 l6 = lmC N n0 p' D l1 l2 S' l4' l5' l6' ∧ x = y M' r4' r5' ∧ JL cK nf nl np nq nb ng D k O OM p' S' M' l4' l5' l6' r4' r5'
theorem lmP_skip {cK : Nat → Nat} {N n0 nf nl np nq nb ng D k : Nat} {O OM : yS} {l1 l2 : Int32} {d p : Nat} {S M : yS} {l4 l5 l6 r4 r5 : Int32} {y : yS → Int32 → Int32 → Option (Int32 × yS)} (hk : nn l1 k) (hp : p + d ≤ 256) (h : JL cK nf nl np nq nb ng D k O OM (p + d) S M l4 l5 l6 r4 r5) (hq : ∀ m, p ≤ m → m < p + d → ¬ qD D k m) : lmP cK N n0 nf nl np nq nb ng D k O OM l1 l2 (p + d) p S l4 l5 l6 (y M r4 r5) y := ⟨S, M, l4, l5, l6, r4, r5, skip_c hk d p hp hq, rfl, JL_down h hq⟩
theorem lmP_of {cK : Nat → Nat} {N n0 nf nl np nq nb ng D k : Nat} {O OM : yS} {l1 l2 : Int32} {p p1 p2 : Nat} {S : yS} {l4 l5 l6 : Int32} {x : Option (Int32 × yS)} {y z : yS → Int32 → Int32 → Option (Int32 × yS)} (h : lmP cK N n0 nf nl np nq nb ng D k O OM l1 l2 p p1 S l4 l5 l6 x y) (g : ∀ S' M' l4' l5' l6' r4' r5', JL cK nf nl np nq nb ng D k O OM p1 S' M' l4' l5' l6' r4' r5' → lmP cK N n0 nf nl np nq nb ng D k O OM l1 l2 p1 p2 S' l4' l5' l6' (y M' r4' r5') z) : lmP cK N n0 nf nl np nq nb ng D k O OM l1 l2 p p2 S l4 l5 l6 x z := by
  obtain ⟨S', M', l4', l5', l6', r4', r5', a, b, c⟩ := h
  obtain ⟨S2, M2, m4, m5, m6, s4, s5, a2, b2, c2⟩ := g _ _ _ _ _ _ _ c
  exact ⟨S2, M2, m4, m5, m6, s4, s5, a.trans a2, b.trans b2, c2⟩
def endM (l1 : Int32) (M : yS) (r4 _r5 : Int32) : Option (Int32 × yS) := some (r4, yI M 8 46 l1)
theorem lp_0 {cK : Nat → Nat} {N n0 kw nf nl np nq nb ng t q D : Nat} {O OM S M : yS} {l1 l2 l4 l5 l6 r4 r5 : Int32} (h : EN cK N kw nf nl np nq nb ng t q D 0 O OM l1 l2) (hJ : JL cK nf nl np nq nb ng D 0 O OM 256 S M l4 l5 l6 r4 r5) : lmP cK N n0 nf nl np nq nb ng D 0 O OM l1 l2 256 0 S l4 l5 l6 (f_X12_lamps_82 N N M l1 l2 r4 r5 (-1)) (endM l1) := by
  obtain ⟨hN, hB, ht, hq, q2, h3, hk, hD, nf8⟩ := h
  refine lmP_of (p1 := 1) (lmP_skip (d := 255) (p := 1) (y := fun M r4 r5 => f_X12_lamps_82 N N M l1 l2 r4 r5 (-1)) hk (by decide) hJ (fun m a b z => pw_0 m (by omega) a z.1)) (fun S M l4 l5 l6 r4 r5 hJ => ?_)
  have e1 : l1 = 0 := hk.1
  subst e1
  obtain ⟨n, rfl⟩ : ∃ x, N = x + 3 := ⟨N - 3, by omega⟩
  show lmP _ _ _ _ _ _ _ _ _ _ _ _ _ _ _ _ _ _ _ _ _ (f_X12_lamps_82 (n + 2 + 1) (n + 3) M 0 l2 r4 r5 (-1)) _
  have z8 : ∀ i, i < 8 → mB 0 i = false := by decide
  have qm : qD D 0 0 := ⟨by decide, fun i hi e => by rw [z8 i hi] at e; cases e⟩
  obtain ⟨S', M', l4', l5', l6', r4', r5', a, b, c⟩ := set_step (N := n + 3) (n0 := n0) (x6 := -1) (x7 := -1) (W := M.2.1 8 48) (k82 := fun S l1 l2 l4 l5 l6 => f_X12_lamps_82 (n + 2) (n + 3) S l1 l2 l4 l5 l6) (k114 := fun S l1 l2 l4 l5 l6 l7 => f_X12_lamps_114 (n + 2) (n + 3) (fun S l1 l2 l4 l5 l6 => f_X12_lamps_82 (n + 2) (n + 3) S l1 l2 l4 l5 l6) S l1 l2 l4 l5 l6 l7) hN hB ht hq q2 h3 hk hD hJ (by decide) qm (fun i hi => by rw [z8 i hi]; rfl) (fun _ _ => rfl) (fun R j hj e => by rw [z8 j hj] at e; cases e)
  refine ⟨S', M', l4', l5', l6', r4', r5', a, ?_, c⟩
  rw [f_X12_lamps_82, if_pos (show (0 : Int32) ≤ 0 by decide)]
  unfold f_X12_lamps_96
  rw [if_neg (show ¬ (0 : Int32) ≤ -1 by decide), if_pos (show (0 : Int32) ≤ 1 by decide)]
  unfold f_X12_lamps_112
  rw [f_X12_lamps_114, if_pos (show (0 : Int32) ≤ 1 by decide)]
  unfold f_X12_lamps_129
  rw [if_neg (show ¬ (0 : Int32) ≤ -1 by decide), if_pos rfl]
  unfold f_X12_lamps_147
  rw [if_pos rfl]
  unfold f_X12_lamps_165
  rw [if_pos rfl]
  unfold f_X12_lamps_185
  rw [if_pos rfl]
  rw [yA_self] at b
  rw [b]
  show f_X12_lamps_114 (n + 1 + 1) (n + 3) _ M' 0 l2 r4' r5' (-1) 0 = _
  rw [f_X12_lamps_114, if_pos (show (0 : Int32) ≤ 1 by decide)]
  unfold f_X12_lamps_129
  rw [if_pos (show (0 : Int32) ≤ 0 by decide)]
  show f_X12_lamps_82 (n + 1 + 1) (n + 3) M' 0 l2 r4' r5' 0 = _
  rw [f_X12_lamps_82, if_pos (show (0 : Int32) ≤ 0 by decide)]
  unfold f_X12_lamps_96
  rw [if_pos (show (0 : Int32) ≤ 0 by decide), sq_s]
  rfl
theorem lp_1 {cK : Nat → Nat} {N n0 kw nf nl np nq nb ng t q D : Nat} {O OM : yS} {l1 l2 : Int32} (h : EN cK N kw nf nl np nq nb ng t q D 1 O OM l1 l2) : ∀ (d a m : Nat) (S M : yS) (l4 l5 l6 r4 r5 : Int32), a + d = nf → d < m → JL cK nf nl np nq nb ng D 1 O OM (2 ^ (8 - a)) S M l4 l5 l6 r4 r5 → lmP cK N n0 nf nl np nq nb ng D 1 O OM l1 l2 (2 ^ (8 - a)) 0 S l4 l5 l6 (f_X12_lamps_82 m N M l1 l2 r4 r5 (Int32.ofNat a)) (endM l1) := by
  obtain ⟨hN, hB, ht, hq, q2, h3, hk, hD, nf8⟩ := h
  intro d
  induction d with
  | zero =>
    intro a m S M l4 l5 l6 r4 r5 ha hm hJ
    obtain ⟨m, rfl⟩ : ∃ x, m = x + 1 := ⟨m - 1, by omega⟩
    have e : a = nf := by omega
    subst e
    have hT := hJ.1.1
    have na := nn_lit a (by omega)
    have m1 : nn (M.1 8 1) a := by rw [hT.1.2.2.1]; exact hT.1.1
    have p2 : 2 ^ (8 - a) ≤ 256 := Nat.pow_le_pow_right (n := 2) (by decide) (show 8 - a ≤ 8 by omega)
    have u := lmP_skip (N := N) (n0 := n0) (l2 := l2) (d := 2 ^ (8 - a)) (p := 0) (y := endM l1) hk (by omega) (by rw [Nat.zero_add]; exact hJ) (fun m _ b z => by
      have := pw_3 a (by omega) m (by omega) (by omega) (fun i i1 i3 => ((hD i i1).mp (z.2 i i1 i3)).1)
      rw [z.1] at this
      exact absurd this (by decide))
    rw [Nat.zero_add] at u
    rw [f_X12_lamps_82, if_neg (show ¬ l1 ≤ 0 from fun z => by have := (nn_le hk (nn_l 0 (by decide))).mp z; omega)]
    unfold f_X12_lamps_96
    rw [if_pos ((nn_le m1 na).mpr (Nat.le_refl _)), sq_s]
    exact u
  | succ d ih =>
    intro a m S M l4 l5 l6 r4 r5 ha hm hJ
    obtain ⟨m, rfl⟩ : ∃ x, m = x + 1 := ⟨m - 1, by omega⟩
    have hT := hJ.1.1
    have na := nn_lit a (by omega)
    have m1 : nn (M.1 8 1) nf := by rw [hT.1.2.2.1]; exact hT.1.1
    obtain ⟨p1, p2, p3, p4⟩ := pw_5 a (by omega)
    obtain ⟨p5, p6⟩ := pw_7 a (by omega)
    have i1 : ¬ l1 ≤ 0 := fun z => by have := (nn_le hk (nn_l 0 (by decide))).mp z; omega
    have i2 : l1 ≤ 1 := (nn_le hk (nn_l 1 (by decide))).mpr (Nat.le_refl _)
    have i3 : ¬ Int32.ofNat a = -1 := fun z => na.nneg (by rw [z]; decide)
    obtain ⟨n, rfl⟩ : ∃ x, N = x + 2 := ⟨N - 2, by omega⟩
    have fin : ∀ n' S M l4 l5 l6 r4 r5, JL cK nf nl np nq nb ng D 1 O OM (2 ^ (7 - a)) S M l4 l5 l6 r4 r5 → lmP cK (n + 2) n0 nf nl np nq nb ng D 1 O OM l1 l2 (2 ^ (7 - a)) 0 S l4 l5 l6 (f_X12_lamps_114 (n' + 1) (n + 2) (fun S l1 l2 l4 l5 l6 => f_X12_lamps_82 m (n + 2) S l1 l2 l4 l5 l6) M l1 l2 r4 r5 (Int32.ofNat a) 0) (endM l1) := by
      intro n' S M l4 l5 l6 r4 r5 hJ
      rw [f_X12_lamps_114, if_pos i2]
      unfold f_X12_lamps_129
      rw [if_pos (show (0 : Int32) ≤ 0 by decide), y_int1]
      have := ih (a + 1) m S M l4 l5 l6 r4 r5 (by omega) (by omega) (by rw [show 8 - (a + 1) = 7 - a by omega]; exact hJ)
      rw [show 8 - (a + 1) = 7 - a by omega] at this
      exact this
    have sp : 2 ^ (8 - a) = (2 ^ (7 - a) + 1) + (2 ^ (7 - a) - 1) := by omega
    have w8 : 2 ^ (8 - a) ≤ 256 := Nat.pow_le_pow_right (n := 2) (by decide) (show 8 - a ≤ 8 by omega)
    rw [sp] at hJ
    rw [sp]
    refine lmP_of (p1 := 2 ^ (7 - a) + 1) (lmP_skip (y := fun M r4 r5 => f_X12_lamps_82 (m + 1) (n + 2) M l1 l2 r4 r5 (Int32.ofNat a)) hk (by omega) hJ (fun m x y z => pw_1 a (by omega) m (by omega) (by omega) (by omega) z.1)) (fun S M l4 l5 l6 r4 r5 hJ => ?_)
    have hT := hJ.1.1
    have m1 : nn (M.1 8 1) nf := by rw [hT.1.2.2.1]; exact hT.1.1
    have L := lit_D hJ.1 hD (i := a) (by omega)
    show lmP _ _ _ _ _ _ _ _ _ _ _ _ _ _ _ _ _ _ _ _ _ (f_X12_lamps_82 (m + 1) (n + 2) M l1 l2 r4 r5 (Int32.ofNat a)) _
    rw [f_X12_lamps_82, if_neg i1]
    unfold f_X12_lamps_96
    rw [if_neg (show ¬ M.1 8 1 ≤ Int32.ofNat a from fun z => by have := (nn_le m1 na).mp z; omega), if_pos i2]
    unfold f_X12_lamps_112
    rw [f_X12_lamps_114, if_pos i2]
    unfold f_X12_lamps_129
    rw [if_neg (show ¬ (0 : Int32) ≤ -1 by decide), if_neg i3, em_lamp na (by omega), bV_s]
    by_cases c : M.2.1 8 48 (3 + 2 * a) = 1
    · rw [b01_t c, if_pos (show ¬ (1 : Int32) = 0 by decide)]
      unfold f_X12_lamps_280
      refine lmP_of (p1 := 2 ^ (7 - a)) (lmP_skip (d := 1) (y := fun M r4 r5 => f_X12_lamps_114 (n + 1) (n + 2) (fun S l1 l2 l4 l5 l6 => f_X12_lamps_82 m (n + 2) S l1 l2 l4 l5 l6) M l1 l2 r4 r5 (Int32.ofNat a) 0) hk (by omega) hJ (fun m x y z => ?_)) (fun S M l4 l5 l6 r4 r5 hJ => fin n S M l4 l5 l6 r4 r5 hJ)
      have e : m = 2 ^ (7 - a) := by omega
      subst e
      exact (L.mp c) (z.2 a (by omega) ((p4 a (by omega)).mpr rfl))
    · rw [b01_f c, if_neg (show ¬ ¬ (0 : Int32) = 0 from fun w => w rfl)]
      unfold f_X12_lamps_147
      rw [if_pos rfl]
      unfold f_X12_lamps_165
      rw [if_neg i3, show (3 + 2 * Int32.ofNat a) + 0 = Int32.ofNat (3 + 2 * a) from (nn_add (nn_add (nn_l 3 (by decide)) (nn_mul (nn_l 2 (by decide)) na (by omega)) (by omega)) (nn_l 0 (by decide)) (by omega)).1, gA_nn (nn_lit (3 + 2 * a) (by omega)) (by omega), sq_s]
      unfold f_X12_lamps_185
      rw [if_pos rfl]
      have qm : qD D 1 (2 ^ (7 - a)) := ⟨p2, fun i hi e => by
        rw [(p4 i hi).mp e]
        by_cases z : mB D a = true
        · exact z
        · exact absurd (L.mpr z) c⟩
      refine lmP_of (p1 := 2 ^ (7 - a)) (y := fun M' r4' r5' => f_X12_lamps_114 (n + 1) (n + 2) (fun S l1 l2 l4 l5 l6 => f_X12_lamps_82 m (n + 2) S l1 l2 l4 l5 l6) M' l1 l2 r4' r5' (Int32.ofNat a) 0) (set_step hN hB ht hq q2 h3 hk hD hJ p1 qm (fun i hi => ?_) (fun j hj => upd_o _ _ (hj a (by omega))) (fun R j hj e => ?_)) (fun S M l4 l5 l6 r4 r5 hJ => fin n S M l4 l5 l6 r4 r5 hJ)
      · by_cases z : i = a
        · rw [z, upd_s, if_pos ((p4 a (by omega)).mpr rfl)]
        · rw [upd_o _ _ (by omega), if_neg (fun y => z ((p4 i hi).mp y))]
      · rw [(p4 j hj).mp e, p3, upd_o _ _ (by decide), upd_s]
theorem in_2 {cK : Nat → Nat} {N n0 kw nf nl np nq nb ng t q D a : Nat} {O OM : yS} {l1 l2 : Int32} {k82 : yS → Int32 → Int32 → Int32 → Int32 → Int32 → Option (Int32 × yS)} (h : EN cK N kw nf nl np nq nb ng t q D 2 O OM l1 l2) (haf : a < nf) : ∀ (d b m : Nat) (S M : yS) (l4 l5 l6 r4 r5 : Int32), b + d = nf → a < b → d < m → JL cK nf nl np nq nb ng D 2 O OM (2 ^ (7 - a) + 2 ^ (8 - b)) S M l4 l5 l6 r4 r5 → lmP cK N n0 nf nl np nq nb ng D 2 O OM l1 l2 (2 ^ (7 - a) + 2 ^ (8 - b)) (2 ^ (7 - a)) S l4 l5 l6 (f_X12_lamps_114 m N k82 M l1 l2 r4 r5 (Int32.ofNat a) (Int32.ofNat b)) (fun M r4 r5 => k82 M l1 l2 r4 r5 (Int32.ofNat (a + 1))) := by
  obtain ⟨hN, hB, ht, hq, q2, h3, hk, hD, nf8⟩ := h
  have na := nn_lit a (by omega)
  have i2 : ¬ l1 ≤ 1 := fun z => by have := (nn_le hk (nn_l 1 (by decide))).mp z; omega
  have i3 : ¬ Int32.ofNat a = -1 := fun z => na.nneg (by rw [z]; decide)
  obtain ⟨p5, p6⟩ := pw_7 a (by omega)
  have w8 : 2 ^ (8 - a) ≤ 256 := Nat.pow_le_pow_right (n := 2) (by decide) (show 8 - a ≤ 8 by omega)
  intro d
  induction d with
  | zero =>
    intro b m S M l4 l5 l6 r4 r5 hb hab hm hJ
    obtain ⟨m, rfl⟩ : ∃ x, m = x + 1 := ⟨m - 1, by omega⟩
    have e : b = nf := by omega
    subst e
    have hT := hJ.1.1
    have nb' := nn_lit b (by omega)
    have m1 : nn (M.1 8 1) b := by rw [hT.1.2.2.1]; exact hT.1.1
    have g8 : 2 ^ (8 - b) ≤ 2 ^ (7 - a) := Nat.pow_le_pow_right (by decide) (by omega)
    rw [f_X12_lamps_114, if_neg i2]
    unfold f_X12_lamps_129
    rw [if_pos ((nn_le m1 nb').mpr (Nat.le_refl _)), y_int1]
    exact lmP_skip (y := fun M r4 r5 => k82 M l1 l2 r4 r5 (Int32.ofNat (a + 1))) hk (by omega) hJ (fun m x y z => by
      exact pw_4 a (by omega) b (by omega) hab m (by omega) x y (fun i i1 i3 => ((hD i i1).mp (z.2 i i1 i3)).1) z.1)
  | succ d ih =>
    intro b m S M l4 l5 l6 r4 r5 hb hab hm hJ
    obtain ⟨m, rfl⟩ : ∃ x, m = x + 1 := ⟨m - 1, by omega⟩
    have nb' := nn_lit b (by omega)
    obtain ⟨p1, p2, p3, p3', p4⟩ := pw_6 a (by omega) b (by omega) hab
    obtain ⟨p7, p8⟩ := pw_7 b (by omega)
    have i4 : ¬ Int32.ofNat b = -1 := fun z => nb'.nneg (by rw [z]; decide)
    have g8 : 2 ^ (8 - b) ≤ 2 ^ (7 - a) := Nat.pow_le_pow_right (by decide) (by omega)
    have fin : ∀ S M l4 l5 l6 r4 r5, JL cK nf nl np nq nb ng D 2 O OM (2 ^ (7 - a) + 2 ^ (7 - b)) S M l4 l5 l6 r4 r5 → lmP cK N n0 nf nl np nq nb ng D 2 O OM l1 l2 (2 ^ (7 - a) + 2 ^ (7 - b)) (2 ^ (7 - a)) S l4 l5 l6 (f_X12_lamps_114 m N k82 M l1 l2 r4 r5 (Int32.ofNat a) (Int32.ofNat b + 1)) (fun M r4 r5 => k82 M l1 l2 r4 r5 (Int32.ofNat (a + 1))) := by
      intro S M l4 l5 l6 r4 r5 hJ
      have := ih (b + 1) m S M l4 l5 l6 r4 r5 (by omega) (by omega) (by omega) (by rw [show 8 - (b + 1) = 7 - b by omega]; exact hJ)
      rw [show 8 - (b + 1) = 7 - b by omega] at this
      rw [y_int1]
      exact this
    have sp : 2 ^ (7 - a) + 2 ^ (8 - b) = (2 ^ (7 - a) + 2 ^ (7 - b) + 1) + (2 ^ (7 - b) - 1) := by omega
    rw [sp] at hJ
    rw [sp]
    refine lmP_of (p1 := 2 ^ (7 - a) + 2 ^ (7 - b) + 1) (lmP_skip (y := fun M r4 r5 => f_X12_lamps_114 (m + 1) N k82 M l1 l2 r4 r5 (Int32.ofNat a) (Int32.ofNat b)) hk (by omega) hJ (fun m x y z => pw_2 a (by omega) b (by omega) hab m (by omega) (by omega) (by omega) z.1)) (fun S M l4 l5 l6 r4 r5 hJ => ?_)
    have hT := hJ.1.1
    have m1 : nn (M.1 8 1) nf := by rw [hT.1.2.2.1]; exact hT.1.1
    have La := lit_D hJ.1 hD (i := a) (by omega)
    have Lb := lit_D hJ.1 hD (i := b) (by omega)
    have skip1 : (¬ mB D a = true ∨ ¬ mB D b = true) → lmP cK N n0 nf nl np nq nb ng D 2 O OM l1 l2 (2 ^ (7 - a) + 2 ^ (7 - b) + 1) (2 ^ (7 - a)) S l4 l5 l6 (f_X12_lamps_114 m N k82 M l1 l2 r4 r5 (Int32.ofNat a) (Int32.ofNat b + 1)) (fun M r4 r5 => k82 M l1 l2 r4 r5 (Int32.ofNat (a + 1))) := fun no =>
      lmP_of (p1 := 2 ^ (7 - a) + 2 ^ (7 - b)) (lmP_skip (d := 1) (y := fun M r4 r5 => f_X12_lamps_114 m N k82 M l1 l2 r4 r5 (Int32.ofNat a) (Int32.ofNat b + 1)) hk (by omega) hJ (fun m x y z => by
        have e : m = 2 ^ (7 - a) + 2 ^ (7 - b) := by omega
        subst e
        rcases no with w | w
        · exact w (z.2 a (by omega) ((p4 a (by omega)).mpr (Or.inl rfl)))
        · exact w (z.2 b (by omega) ((p4 b (by omega)).mpr (Or.inr rfl))))) (fun S M l4 l5 l6 r4 r5 hJ => fin S M l4 l5 l6 r4 r5 hJ)
    show lmP _ _ _ _ _ _ _ _ _ _ _ _ _ _ _ _ _ _ _ _ _ (f_X12_lamps_114 (m + 1) N k82 M l1 l2 r4 r5 (Int32.ofNat a) (Int32.ofNat b)) _
    rw [f_X12_lamps_114, if_neg i2]
    unfold f_X12_lamps_129
    rw [if_neg (show ¬ M.1 8 1 ≤ Int32.ofNat b from fun z => by have := (nn_le m1 nb').mp z; omega), if_neg i3, em_lamp na (by omega), bV_s]
    unfold f_X12_lamps_280
    by_cases c : M.2.1 8 48 (3 + 2 * a) = 1
    · rw [b01_t c, if_pos (show ¬ (1 : Int32) = 0 by decide)]
      exact skip1 (Or.inl (La.mp c))
    · rw [b01_f c, if_neg (show ¬ ¬ (0 : Int32) = 0 from fun w => w rfl)]
      unfold f_X12_lamps_147
      rw [if_neg i4, em_lamp nb' (by omega), bV_s]
      unfold f_X12_lamps_280
      by_cases c2 : M.2.1 8 48 (3 + 2 * b) = 1
      · rw [b01_t c2, if_neg (show ¬ (1 : Int32) = 0 by decide)]
        exact skip1 (Or.inr (Lb.mp c2))
      · rw [b01_f c2, if_pos rfl]
        unfold f_X12_lamps_165
        rw [if_neg i3, show (3 + 2 * Int32.ofNat a) + 0 = Int32.ofNat (3 + 2 * a) from (nn_add (nn_add (nn_l 3 (by decide)) (nn_mul (nn_l 2 (by decide)) na (by omega)) (by omega)) (nn_l 0 (by decide)) (by omega)).1, gA_nn (nn_lit (3 + 2 * a) (by omega)) (by omega), sq_s]
        unfold f_X12_lamps_185
        rw [if_neg i4, show (3 + 2 * Int32.ofNat b) + 0 = Int32.ofNat (3 + 2 * b) from (nn_add (nn_add (nn_l 3 (by decide)) (nn_mul (nn_l 2 (by decide)) nb' (by omega)) (by omega)) (nn_l 0 (by decide)) (by omega)).1, gA_nn (nn_lit (3 + 2 * b) (by omega)) (by omega), sq_s, yA_yA, yA_same]
        have qm : qD D 2 (2 ^ (7 - a) + 2 ^ (7 - b)) := ⟨p2, fun i hi e => by
          rcases (p4 i hi).mp e with z | z
          · rw [z]
            by_cases z : mB D a = true
            · exact z
            · exact absurd (La.mpr z) c
          · rw [z]
            by_cases z : mB D b = true
            · exact z
            · exact absurd (Lb.mpr z) c2⟩
        refine lmP_of (p1 := 2 ^ (7 - a) + 2 ^ (7 - b)) (y := fun M' r4' r5' => f_X12_lamps_114 m N k82 M' l1 l2 r4' r5' (Int32.ofNat a) (Int32.ofNat b + 1)) (set_step (k82 := k82) (k114 := fun S l1 l2 l4 l5 l6 l7 => f_X12_lamps_114 m N k82 S l1 l2 l4 l5 l6 l7) hN hB ht hq q2 h3 hk hD hJ p1 qm (fun i hi => ?_) (fun j hj => (upd_o _ _ (hj b (by omega))).trans (upd_o _ _ (hj a (by omega)))) (fun R j hj e => ?_)) (fun S M l4 l5 l6 r4 r5 hJ => fin S M l4 l5 l6 r4 r5 hJ)
        · by_cases z : i = b
          · rw [z, upd_s, if_pos ((p4 b (by omega)).mpr (Or.inr rfl))]
          · rw [upd_o _ _ (by omega)]
            by_cases y : i = a
            · rw [y, upd_s, if_pos ((p4 a (by omega)).mpr (Or.inl rfl))]
            · rw [upd_o _ _ (by omega), if_neg (fun x => ((p4 i hi).mp x).elim y z)]
        · rcases (p4 j hj).mp e with z | z
          · rw [z, p3, upd_o _ _ (by decide), upd_s]
          · rw [z, p3', upd_s]
