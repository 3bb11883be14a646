/-! PASSING TIME: the class skips quiet quarters -/
theorem nn_div {a b : Int32} {m n : Nat} (ha : nn a m) (hb : nn b n) : nn (a / b) (m / n) := by
  have h1 := Nat.div_le_self m n
  have h2 := ha.2
  have e : (a / b).toInt = ((m / n : Nat) : Int) := by
    rw [Int32.toInt_div, ha.int, hb.int, ← Int.ofNat_tdiv]
    generalize m / n = k at h1
    rw [Int.bmod_eq_of_le] <;> omega
  generalize m / n = k at h1 e
  have p0 : 0 ≤ a / b := by
    rw [Int32.le_iff_toInt_le, e]
    show (0 : Int) ≤ _
    omega
  have h := nn_of p0
  have i := h.int
  rw [e] at i
  have j : (a / b).toNatClampNeg = k := by omega
  rw [j] at h
  exact h
theorem busy_both {cK : Nat → Nat} {N nf nl np nq nb ng t e : Nat} {Sc Sm : yS} {eI : Int32} (hN : 120 < N) (hT : ST cK nf nl np nq nb ng Sc Sm) (ht : nn (Sc.1 2 13) t) (he : nn eI e) (h1 : t < e) (h2 : e ≤ 3000) : ∃ w, f_X10_nextBusy N Sc eI = some (Int32.ofNat w) ∧ t ≤ w ∧ w ≤ e ∧ ∀ u, t ≤ u → u < w → qB (Int32.ofNat u) np nb ng Sc := by
  obtain ⟨t1, t2, t3, t4, t5, t6, t7, t8, t9, t10, t11, t12, t13, t14⟩ := id hT
  have np8 : np ≤ 8 := t7.1.2.1
  have nb30 : nb ≤ 30 := t7.2.2.1.2.1
  have ng24 : ng ≤ 24 := t7.2.2.2.2.1
  have hc : nn (rUp (Sc.1 2 13) 96 * 96) ((t + 96 - 1) / 96 * 96) := nn_mul (nn_div (nn_sub (nn_add ht (nn_l 96 (by decide)) (by omega)) (nn_l 1 (by decide)) (by omega)) (nn_l 96 (by decide))) (nn_l 96 (by decide)) (by omega)
  unfold f_X10_nextBusy f_X10_nextBusy_0
  rw [e_roundUp (nn_l 96 (by decide)) (by decide), bV_s]
  generalize hM : (if rUp (Sc.1 2 13) 96 * 96 < eI then rUp (Sc.1 2 13) 96 * 96 else eI) = M
  have m1 : M ≤ eI := by
    rw [← hM]
    by_cases z : rUp (Sc.1 2 13) 96 * 96 < eI
    · rw [if_pos z]; exact Int32.le_of_lt z
    · rw [if_neg z]; exact Int32.le_refl _
  have m2 : M ≤ rUp (Sc.1 2 13) 96 * 96 := by
    rw [← hM]
    by_cases z : rUp (Sc.1 2 13) 96 * 96 < eI
    · rw [if_pos z]; exact Int32.le_refl _
    · rw [if_neg z]; exact Int32.not_lt.mp z
  rcases busy_planes (N := N) t7.1.1 np8 (fun b hb => (t8 b hb).1) np 0 N M (by omega) (by omega) with h | ⟨g1, g2⟩
  · refine ⟨t, ?_, Nat.le_refl _, by omega, fun u a b => by omega⟩
    rw [← ht.1]
    exact h
  · obtain ⟨v, v1, v2, v3⟩ := busy_flights (N := N) t7.2.2.2.1 ng24 (fun b hb => (t11 b hb).1) ng 0 N M (by omega) (by omega)
    obtain ⟨x, x1, x2, x3⟩ := busy_bags (N := N) t7.2.2.1.1 nb30 (fun b hb => (t10 b hb).1) nb 0 N v (by omega) (by omega)
    have hrun : f_X10_nextBusy_19 N N Sc M 0 = some (if x < Sc.1 2 13 then Sc.1 2 13 else x) := g1.trans (v1.trans x1)
    by_cases z : x < Sc.1 2 13
    · rw [if_pos z] at hrun
      refine ⟨t, ?_, Nat.le_refl _, by omega, fun u a b => by omega⟩
      rw [← ht.1]
      exact hrun
    · rw [if_neg z] at hrun
      have xt := Int32.not_lt.mp z
      have hx : nn x x.toNatClampNeg := nn_of (Int32.le_trans (Int32.not_lt.mp ht.nneg) xt)
      have xe : x.toNatClampNeg ≤ e := (nn_le hx he).mp (Int32.le_trans x2 (Int32.le_trans v2 m1))
      have xc : x.toNatClampNeg ≤ (t + 96 - 1) / 96 * 96 := (nn_le hx hc).mp (Int32.le_trans x2 (Int32.le_trans v2 m2))
      refine ⟨x.toNatClampNeg, by rw [← hx.1]; exact hrun, (nn_le ht hx).mp xt, xe, fun u a b => ?_⟩
      have hu := nn_lit u (by omega)
      have ux : ¬ x ≤ Int32.ofNat u := fun q => by have := (nn_le hx hu).mp q; omega
      refine ⟨fun q => ?_, fun p hp => g2 p (by omega) hp, fun g hg h0 q => ?_, fun b' hb q => ?_⟩
      · have := (nn_eq (nn_sub hu (nn_mul (nn_div hu (nn_l 96 (by decide))) (nn_l 96 (by decide)) (by omega)) (by omega)) (nn_l 0 (by decide))).mp q
        omega
      · exact ux (Int32.le_trans x2 (Int32.le_trans (v3 g (by omega) hg h0) q))
      · rcases x3 b' (by omega) hb with y | y
        · rw [y] at q
          exact hu.nneg (by rw [← q]; decide)
        · rw [q] at y
          exact ux y
theorem qB_now {u v : Int32} {np nb ng : Nat} {S : yS} (nb30 : nb ≤ 30) (h : qB u np nb ng S) : qB u np nb ng (yI S 2 13 v) := by
  obtain ⟨h1, h2, h3, h4⟩ := h
  have c : ∀ o k, (o ≠ 2) → (yI S 2 13 v).1 o k = S.1 o k := fun o k w => yI_1n _ _ (by omega)
  refine ⟨h1, fun p hp => ?_, fun g hg => ?_, fun b hb => ?_⟩
  · rw [c _ _ (by omega), c _ _ (by omega)]; exact h2 p hp
  · rw [c _ _ (by omega), c _ _ (by omega)]; exact h3 g hg
  · rw [c _ _ (by omega)]; exact h4 b hb
theorem yI_id (S : yS) (o k : Nat) : yI S o k (S.1 o k) = S := by
  unfold yI
  obtain ⟨a, b⟩ := S
  congr 1
  funext x y
  by_cases h : x = o ∧ y = k
  · rw [if_pos h, h.1, h.2]
  · rw [if_neg h]
/-- the reference, over quarters where nothing is due -/
theorem quiet_run {cK : Nat → Nat} {N nf nl np nq nb ng q : Nat} {L : Nat → yS → Int32 → Option (Int32 × yS)} (hN : 120 < N) (hL : ∀ n S c, c < q → L (n + 1) S (Int32.ofNat c) = bS (f_X12_goQuarter N S) fun _ S1 => L n S1 (Int32.ofNat (c + 1))) : ∀ (d t c n : Nat) (Sc Sm : yS), ST cK nf nl np nq nb ng Sc Sm → DY cK nf nl np nq nb ng Sc Sm → nn (Sc.1 2 13) t → t + d ≤ 3000 → (∀ u, t ≤ u → u < t + d → qB (Int32.ofNat u) np nb ng Sc) → c + d ≤ q → d ≤ n → ∃ Sm', L n Sm (Int32.ofNat c) = L (n - d) Sm' (Int32.ofNat (c + d)) ∧ ST cK nf nl np nq nb ng (yI Sc 2 13 (Int32.ofNat (t + d))) Sm' ∧ DY cK nf nl np nq nb ng (yI Sc 2 13 (Int32.ofNat (t + d))) Sm' ∧ QH cK Sc Sm (yI Sc 2 13 (Int32.ofNat (t + d))) Sm' := by
  intro d
  induction d with
  | zero =>
    intro t c n Sc Sm hT hD ht h1 h2 h3 h4
    refine ⟨Sm, rfl, ?_, ?_, ?_⟩
    · rw [Nat.add_zero, ← ht.1, yI_id]; exact hT
    · rw [Nat.add_zero, ← ht.1, yI_id]; exact hD
    · rw [Nat.add_zero, ← ht.1, yI_id]; exact QH_refl _ _
  | succ d ih =>
    intro t c n Sc Sm hT hD ht h1 h2 h3 h4
    obtain ⟨n, rfl⟩ : ∃ x, n = x + 1 := ⟨n - 1, by omega⟩
    have g := quiet_go (N := N) hN hT hD (by rw [ht.1]; exact h2 t (Nat.le_refl _) (by omega))
    have nb30 : nb ≤ 30 := hT.2.2.2.2.2.2.1.2.2.1.2.1
    have nv : nn (Sc.1 2 13 + 1) (t + 1) := nn_add ht (nn_l 1 (by decide)) (by omega)
    obtain ⟨Sm', a1, a2, a3, a4⟩ := ih (t + 1) (c + 1) n (yI Sc 2 13 (Sc.1 2 13 + 1)) (yA Sm 8 48 (upd (Sm.2.1 8 48) 0 (Sc.1 2 13 + 1))) (ST_now hT) (DY_now hD hT.2.2.2.2.2.2.1 hT.2.1.2.1 nv (by omega) rfl) (by rw [yI_1s]; exact nv) (by omega) (fun u x y => qB_now nb30 (h2 u (by omega) (by omega))) (by omega) (by omega)
    rw [yI_yI, show t + 1 + d = t + (d + 1) by omega] at a2 a3 a4
    refine ⟨Sm', ?_, a2, a3, QH_trans QH_now a4⟩
    rw [hL n Sm c (by omega), g, bS_s, a1, show c + 1 + d = c + (d + 1) by omega, show n - d = n + 1 - (d + 1) by omega]
/-- both, up to the hour e -/
theorem pass_both {cK : Nat → Nat} {N nf nl np nq nb ng q e : Nat} {L : Nat → yS → Int32 → Option (Int32 × yS)} {qI eI : Int32} (hN : 120 < N) (hq : nn qI q) (he : nn eI e) (he2 : e ≤ 3000) (hL : ∀ n S c, c < q → L (n + 1) S (Int32.ofNat c) = bS (f_X12_goQuarter N S) fun _ S1 => L n S1 (Int32.ofNat (c + 1))) : ∀ (D d t c s n n' : Nat) (Sc Sm : yS), d ≤ D → ST cK nf nl np nq nb ng Sc Sm → DY cK nf nl np nq nb ng Sc Sm → nn (Sc.1 2 13) t → t + d = e → c + d = q → s ≤ c → d < n → d ≤ n' → ∃ Sc' Sm', f_X10_pass_9 n N Sc qI eI (Int32.ofNat s) = some (0, Sc') ∧ L n' Sm (Int32.ofNat c) = L (n' - d) Sm' (Int32.ofNat q) ∧ ST cK nf nl np nq nb ng Sc' Sm' ∧ DY cK nf nl np nq nb ng Sc' Sm' ∧ nn (Sc'.1 2 13) e ∧ QH cK Sc Sm Sc' Sm' := by
  intro D
  induction D with
  | zero =>
    intro d t c s n n' Sc Sm hd hT hD ht h1 h2 h3 h4 h5
    obtain ⟨n, rfl⟩ : ∃ x, n = x + 1 := ⟨n - 1, by omega⟩
    have d0 : d = 0 := by omega
    subst d0
    refine ⟨Sc, Sm, ?_, by rw [show c = q by omega]; rfl, hT, hD, by rw [show e = t by omega]; exact ht, QH_refl _ _⟩
    rw [f_X10_pass_9]
    by_cases z : qI ≤ Int32.ofNat s
    · rw [if_pos z]
      rfl
    · rw [if_neg z, if_pos ((nn_le he ht).mpr (by omega))]
      rfl
  | succ D ih =>
    intro d t c s n n' Sc Sm hd hT hD ht h1 h2 h3 h4 h5
    by_cases d0 : d = 0
    · exact ih d t c s n n' Sc Sm (by omega) hT hD ht h1 h2 h3 h4 h5
    obtain ⟨n, rfl⟩ : ∃ x, n = x + 1 := ⟨n - 1, by omega⟩
    have ns : nn (Int32.ofNat s) s := nn_lit s (by have := hq.2; omega)
    obtain ⟨w, w1, w2, w3, w4⟩ := busy_both (N := N) (eI := eI) hN hT ht he (by omega) he2
    have nw := nn_lit w (by omega)
    obtain ⟨Sm1, a1, a2, a3, a4⟩ := quiet_run (L := L) (q := q) hN hL (w - t) t c n' Sc Sm hT hD ht (by omega) (fun u x y => w4 u x (by omega)) (by omega) (by omega)
    rw [show t + (w - t) = w by omega] at a2 a3 a4
    rw [f_X10_pass_9, if_neg (fun z => by have := (nn_le hq ns).mp z; omega), if_neg (fun z => by have := (nn_le he ht).mp z; omega), w1, bV_s, sq_s, yI_1s]
    by_cases y : w = e
    · rw [if_neg (show ¬ ¬ Int32.ofNat w = eI from fun z => z ((nn_eq nw he).mpr y))]
      refine ⟨_, Sm1, rfl, ?_, a2, a3, by rw [yI_1s, ← y]; exact nw, a4⟩
      rw [a1, show c + (w - t) = q by omega, show w - t = d by omega]
    · rw [if_pos (fun z => y ((nn_eq nw he).mp z))]
      obtain ⟨Sc2, Sm2, b1, b2, b3, b4, b5, b6⟩ := quarter_both (N := N) (k9 := fun S l1 l2 l3 => f_X10_pass_9 n N S l1 l2 l3) (l1 := qI) (l2 := eI) (l3 := Int32.ofNat s) hN a2 a3 (by rw [yI_1s]; exact nw) (show w < 3000 by omega)
      obtain ⟨Sc', Sm', c1, c2, c3, c4, c5, c6⟩ := ih (e - (w + 1)) (w + 1) (c + (w - t) + 1) (s + 1) n (n' - (w - t) - 1) Sc2 Sm2 (by omega) b3 b4 b5 (by omega) (by omega) (by omega) (by omega) (by omega)
      refine ⟨Sc', Sm', ?_, ?_, c3, c4, c5, QH_trans a4 (QH_trans b6 c6)⟩
      · refine Eq.trans b1 ?_
        rw [y_int1]
        exact c1
      · rw [a1, show n' - (w - t) = (n' - (w - t) - 1) + 1 by omega, hL _ _ _ (by omega), b2, bS_s, c2, show n' - (w - t) - 1 - (e - (w + 1)) = n' - d by omega]
