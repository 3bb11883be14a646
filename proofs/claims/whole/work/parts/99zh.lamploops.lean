/-! LAMPS: the two loops -/
/-- m is a set of k dark fields -/
def qD (D k m : Nat) : Prop := pcB m = k ∧ ∀ i, i < 8 → mB m i = true → mB D i = true
/-- the class's loop at place p -/
def lmC (N n0 p : Nat) (D : Nat) (l1 l2 : Int32) (S : yS) (l4 l5 l6 : Int32) : Option (Int32 × yS) := f_X11_lamps_56 (n0 + p) N S l1 l2 (Int32.ofNat D) l4 l5 l6 (Int32.ofNat p - 1)
theorem pos_1 (p : Nat) (h : p < 2147483647) : Int32.ofNat (p + 1) - 1 = Int32.ofNat p := (nn_sub (nn_lit (p + 1) (by omega)) (nn_l 1 (by decide)) (by omega)).1
theorem skip_c {N n0 D k : Nat} {l1 l2 l4 l5 l6 : Int32} {S : yS} (hk : nn l1 k) : ∀ (d p : Nat), p + d ≤ 256 → (∀ m, p ≤ m → m < p + d → ¬ qD D k m) → lmC N n0 (p + d) D l1 l2 S l4 l5 l6 = lmC N n0 p D l1 l2 S l4 l5 l6 := by
  intro d
  induction d with
  | zero => intro p _ _; rfl
  | succ d ih =>
    intro p hp hq
    rw [← ih p (by omega) (fun m a b => hq m a (by omega))]
    unfold lmC
    have nd := nn_lit (p + d) (by omega)
    show f_X11_lamps_56 (n0 + (p + d) + 1) N S l1 l2 _ l4 l5 l6 (Int32.ofNat (p + d + 1) - 1) = _
    have u := hq (p + d) (by omega) (by omega)
    have p8 := pc_8 (p + d) (by omega)
    rw [pos_1 _ (by omega), f_X11_lamps_56, if_neg (fun z => by have := (nn_lt nd (nn_l 0 (by decide))).mp z; omega), bc_n (by omega), bV_s]
    unfold f_X11_lamps_166
    rw [show Int32.ofNat (p + d) + (-1) = Int32.ofNat (p + d) - 1 from (Int32.sub_eq_add_neg _ _).symm]
    by_cases c : Int32.ofNat (pcB (p + d)) = l1
    · rw [if_neg (fun z => z c), if_pos]
      intro z
      exact u ⟨(nn_eq (nn_lit _ (by omega)) hk).mp c, (sub_b (by omega)).mp z⟩
    · rw [if_pos c]
/-- what both have found so far -/
def BRl (D k p : Nat) (l4 l5 l6 r4 r5 : Int32) (R : Nat → Int32) : Prop := (l4 = 0 ∧ l5 = -1 ∧ l6 = 0 ∧ r4 = -1 ∧ r5 = 0 ∧ ∀ m, p ≤ m → m < 256 → ¬ qD D k m) ∨ (∃ bm, bm < 256 ∧ qD D k bm ∧ l4 = Int32.ofNat bm ∧ l5 = r4 ∧ ¬ r4 = -1 ∧ l6 = r5 ∧ ∀ j, j < 8 → mB bm j = true → R (cntB bm j) = Int32.ofNat j)
def kS (Sc Sm Sc' Sm' : yS) : Prop := (∀ k, Sc'.1 0 k = Sc.1 0 k ∧ Sc'.2.1 0 k = Sc.2.1 0 k) ∧ ∀ k, k = 43 ∨ k = 44 → Sm'.1 8 k = Sm.1 8 k ∧ Sm'.2.1 8 k = Sm.2.1 8 k
theorem kS_of {a b c d : yS} (h : kR a b c d) : kS a b c d := ⟨h.1, fun k z => h.2 k (by omega) (by omega)⟩
theorem kS_trans {Sc Sm Sc' Sm' Sc'' Sm'' : yS} (h : kS Sc Sm Sc' Sm') (g : kS Sc' Sm' Sc'' Sm'') : kS Sc Sm Sc'' Sm'' := ⟨fun k => ⟨(g.1 k).1.trans (h.1 k).1, (g.1 k).2.trans (h.1 k).2⟩, fun k z => ⟨(g.2 k z).1.trans (h.2 k z).1, (g.2 k z).2.trans (h.2 k z).2⟩⟩
def JL (cK : Nat → Nat) (nf nl np nq nb ng D k : Nat) (O OM : yS) (p : Nat) (S M : yS) (l4 l5 l6 r4 r5 : Int32) : Prop := TS cK nf nl np nq nb ng O OM S M ∧ (kS O OM S M ∧ RSd np nq nb ng O S) ∧ BRl D k p l4 l5 l6 r4 r5 (M.2.1 8 45)
theorem JL_down {cK : Nat → Nat} {nf nl np nq nb ng D k : Nat} {O OM : yS} {d p : Nat} {S M : yS} {l4 l5 l6 r4 r5 : Int32} (h : JL cK nf nl np nq nb ng D k O OM (p + d) S M l4 l5 l6 r4 r5) (hq : ∀ m, p ≤ m → m < p + d → ¬ qD D k m) : JL cK nf nl np nq nb ng D k O OM p S M l4 l5 l6 r4 r5 := by
  refine ⟨h.1, h.2.1, ?_⟩
  rcases h.2.2 with ⟨a, b, c, d1, e, f⟩ | z
  · exact Or.inl ⟨a, b, c, d1, e, fun m x y => if w : m < p + d then hq m x w else f m (by omega) y⟩
  · exact Or.inr z
/-- one set tried on both sides -/
theorem set_step {cK : Nat → Nat} {N n0 kw nf nl np nq nb ng t q m D k : Nat} {O OM S M : yS} {l1 l2 l4 l5 l6 r4 r5 x6 x7 : Int32} {W : Nat → Int32} {k82 : yS → Int32 → Int32 → Int32 → Int32 → Int32 → Option (Int32 × yS)} {k114 : yS → Int32 → Int32 → Int32 → Int32 → Int32 → Int32 → Option (Int32 × yS)} (hN : 2400 < N) (hB : TB cK kw nf nl np nq nb ng O OM) (ht : nn (O.1 2 13) t) (hq : nn l2 q) (q2 : q ≤ 200) (h3 : t + q ≤ 3000) (hk : nn l1 k) (hD : ∀ j, j < 8 → (mB D j = true ↔ j < nf ∧ O.2.1 1 1 j = 0)) (hJ : JL cK nf nl np nq nb ng D k O OM (m + 1) S M l4 l5 l6 r4 r5) (hm : m < 256) (qm : qD D k m) (w1 : ∀ i, i < 8 → W (3 + 2 * i) = if mB m i = true then 1 else M.2.1 8 48 (3 + 2 * i)) (w2 : ∀ j, (∀ i, i < 8 → j ≠ 3 + 2 * i) → W j = M.2.1 8 48 j) (hx : ∀ (R : Nat → Int32) j, j < 8 → mB m j = true → upd (upd R 0 x6) 1 x7 (cntB m j) = Int32.ofNat j) : ∃ S' M' l4' l5' l6' r4' r5', lmC N n0 (m + 1) D l1 l2 S l4 l5 l6 = lmC N n0 m D l1 l2 S' l4' l5' l6' ∧ f_X12_lamps_205 N k82 k114 (yA M 8 48 W) l1 l2 r4 r5 x6 x7 = k114 M' l1 l2 r4' r5' x6 (x7 + 1) ∧ JL cK nf nl np nq nb ng D k O OM m S' M' l4' l5' l6' r4' r5' := by
  obtain ⟨hS, ⟨hkk, hR0⟩, hBR⟩ := hJ
  have hS0 := hS
  obtain ⟨sT, sD, sF, sG⟩ := hS
  have st : nn (S.1 2 13) t := by rw [hR0.1]; exact ht
  obtain ⟨w5, w6, S1, S2, S3, S4, S5, M2, M3, M4, a1, a2, a3, a4, a5, a6, b1, b2, b3, b4, t1, t2, t3, v5, n5⟩ := eval_both hN hB hS0 st hq q2 h3 hm (fun i hi e => (hD i hi).mp (qm.2 i hi e)) w1 w2
  have nd := nn_lit m (by omega)
  have p8 := pc_8 m hm
  have hc : lmC N n0 (m + 1) D l1 l2 S l4 l5 l6 = if l5 < w5 then lmC N n0 m D l1 l2 S5 (Int32.ofNat m) w5 w6 else if ¬ w5 = l5 then lmC N n0 m D l1 l2 S5 l4 l5 l6 else if w6 ≤ l6 then lmC N n0 m D l1 l2 S5 l4 l5 l6 else lmC N n0 m D l1 l2 S5 (Int32.ofNat m) w5 w6 := by
    unfold lmC
    show f_X11_lamps_56 (n0 + m + 1) N S l1 l2 _ l4 l5 l6 (Int32.ofNat (m + 1) - 1) = _
    rw [pos_1 _ (by omega), f_X11_lamps_56, if_neg (fun z => by have := (nn_lt nd (nn_l 0 (by decide))).mp z; omega), bc_n hm, bV_s, if_neg (fun z => z (by rw [qm.1]; exact hk.1.symm)), if_neg (fun z => z ((sub_b hm).mpr qm.2)), a1, bS_s, a2, bS_s, a3, bV_s, a4, bS_s, a5, bS_s, a6, bS_s]
    unfold f_X11_lamps_154 f_X11_lamps_166
    rw [show Int32.ofNat m + (-1) = Int32.ofNat m - 1 from (Int32.sub_eq_add_neg _ _).symm]
  let R' : Nat → Int32 := upd (upd (M4.2.1 8 45) 0 x6) 1 x7
  have hm' : f_X12_lamps_205 N k82 k114 (yA M 8 48 W) l1 l2 r4 r5 x6 x7 = if r4 = -1 then k114 (yA M4 8 45 R') l1 l2 w5 w6 x6 (x7 + 1) else if w5 < r4 then k114 M4 l1 l2 r4 r5 x6 (x7 + 1) else if ¬ w5 = r4 then k114 (yA M4 8 45 R') l1 l2 w5 w6 x6 (x7 + 1) else if r5 < w6 then k114 (yA M4 8 45 R') l1 l2 w5 w6 x6 (x7 + 1) else k114 M4 l1 l2 r4 r5 x6 (x7 + 1) := by
    unfold f_X12_lamps_205
    rw [b1, bS_s, b2, bV_s, b3, bS_s, b4, bS_s]
    unfold f_X12_lamps_256 f_X12_lamps_280
    rw [gA_nn (nn_l 0 (by decide)) (by decide), sq_s, gA_nn (nn_l 1 (by decide)) (by decide), sq_s, yA_yA, yA_same]
  have n1 : ¬ w5 = -1 := fun z => n5.nneg (by rw [z]; decide)
  have l1' : (-1 : Int32) < w5 := by
    rw [Int32.lt_iff_toInt_lt, n5.int]
    show (-1 : Int) < _
    omega
  have better : ∃ S' M' l4' l5' l6' r4' r5', lmC N n0 m D l1 l2 S5 (Int32.ofNat m) w5 w6 = lmC N n0 m D l1 l2 S' l4' l5' l6' ∧ k114 (yA M4 8 45 R') l1 l2 w5 w6 x6 (x7 + 1) = k114 M' l1 l2 r4' r5' x6 (x7 + 1) ∧ JL cK nf nl np nq nb ng D k O OM m S' M' l4' l5' l6' r4' r5' := by
    obtain ⟨c1, c2⟩ := row_ST t1.1 t1.2.1 (FR_refl _ _) (FR_A M4 8 45 R' (show pRM 8 45 by unfold pRM; omega))
    refine ⟨S5, yA M4 8 45 R', _, _, _, _, _, rfl, rfl, ⟨c1, c2, t1.2.2.1, FR_trans t1.2.2.2 (FR_A _ _ _ _ (by unfold pKM; omega))⟩, ⟨?_, t2⟩, Or.inr ⟨m, hm, qm, rfl, rfl, n1, rfl, fun j hj e => ?_⟩⟩
    · exact kS_trans hkk (kS_trans (kS_of t3) ⟨fun _ => ⟨rfl, rfl⟩, fun k z => ⟨rfl, yA_2n _ _ (by omega)⟩⟩)
    · rw [yA_same]; exact hx _ j hj e
  have stay : BRl D k m l4 l5 l6 r4 r5 (M4.2.1 8 45) → ∃ S' M' l4' l5' l6' r4' r5', lmC N n0 m D l1 l2 S5 l4 l5 l6 = lmC N n0 m D l1 l2 S' l4' l5' l6' ∧ k114 M4 l1 l2 r4 r5 x6 (x7 + 1) = k114 M' l1 l2 r4' r5' x6 (x7 + 1) ∧ JL cK nf nl np nq nb ng D k O OM m S' M' l4' l5' l6' r4' r5' := fun z => ⟨S5, M4, _, _, _, _, _, rfl, rfl, t1, ⟨kS_trans hkk (kS_of t3), t2⟩, z⟩
  rw [hc, hm']
  rcases hBR with ⟨e1, e2, e3, e4, e5, e6⟩ | ⟨bm, e1, e2, e3, e4, e5, e6, e7⟩
  · rw [e2, if_pos l1', if_pos e4]
    exact better
  · have e7' : BRl D k m l4 l5 l6 r4 r5 (M4.2.1 8 45) := Or.inr ⟨bm, e1, e2, e3, e4, e5, e6, by rw [(t3.2 45 (by decide) (by decide)).2]; exact e7⟩
    subst e4; subst e6
    rw [if_neg e5]
    by_cases z : l5 < w5
    · have nz : ¬ w5 < l5 := fun y => Int32.lt_irrefl (Int32.lt_trans z y)
      have ne : ¬ w5 = l5 := fun y => by rw [y] at z; exact Int32.lt_irrefl z
      rw [if_pos z, if_neg nz, if_pos ne]
      exact better
    · rw [if_neg z]
      by_cases y : w5 = l5
      · rw [if_neg (show ¬ w5 < l5 from fun x => by rw [y] at x; exact Int32.lt_irrefl x), if_neg (show ¬ ¬ w5 = l5 from fun x => x y), if_neg (show ¬ ¬ w5 = l5 from fun x => x y)]
        by_cases x : w6 ≤ l6
        · rw [if_pos x, if_neg (fun u => Int32.lt_irrefl (Int32.lt_of_lt_of_le u x))]
          exact stay e7'
        · rw [if_neg x, if_pos (Int32.not_le.mp x)]
          exact better
      · have lt : w5 < l5 := by
          rw [Int32.lt_iff_toInt_lt] at z ⊢
          have : w5.toInt ≠ l5.toInt := fun u => y (Int32.toInt_inj.mp u)
          omega
        rw [if_pos lt, if_pos y]
        exact stay e7'
