/-! CHANCE and LANES -/
def cThL (fc : Option (Option Int64 × yS)) (fm : Option (Int64 × yS)) : Prop := (∃ v Sc' Sm', fc = some (some v, Sc') ∧ fm = some (v, Sm') ∧ Sm'.1 8 47 = 0 ∧ RAe Sc' Sm') ∨ ∃ v Sc' Sm', fc = some (none, Sc') ∧ fm = some (v, Sm') ∧ Sm'.1 8 47 = 1 ∧ RAe Sc' Sm'
theorem RA_J {Sc Sm : yS} {o k : Nat} {T : Nat → Int64} (h : RAe Sc Sm) : RAe (yJ Sc o k T) Sm := by
  obtain ⟨cK, nf, nl, np, nq, nb, ng, r, x, hA⟩ := h
  have F : FR pRC Sc (yJ Sc o k T) := fun _ _ _ => ⟨rfl, rfl⟩
  have F' : FR (fun _ _ => False) Sc (yJ Sc o k T) := fun _ _ _ => ⟨rfl, rfl⟩
  obtain ⟨a, b⟩ := row_ST hA.1 hA.2.1 F (FR_refl _ Sm)
  exact RA_kR hA a b (kR_FR F' (FR_refl (fun _ _ => False) Sm) (fun _ z => z) (fun _ _ _ z => z))
theorem chance_end {N : Nat} {S S' : yS} {l2 l3 : Int32} {c a s C : Nat} {x y : Int64} (hN : 120 < N) (h2 : nn l2 c) (c41 : c < 41) (hx : ll x a) (hy : ll y s) (hT : S.2.2 0 4 c = y) (s6 : s ≤ 6000000000) (h3 : l3 = 0 ∨ l3 = 1) : ∃ v, (gA 41 l2 fun j1 => bV (f_X11_commonDivisor N S x (S.2.2 0 4 j1)) fun w1 => if 0 < lg_cmp w1 0 then if ¬ l3 = 0 then f_X11_chance_105 N S w1 x else gA 41 l2 fun j2 => f_X11_chance_105 N S w1 (S.2.2 0 4 j2) else some (some l3.toInt64, S)) = some (some v, S) ∧ (if ¬ lg_cmp y 0 = 0 then bV (f_X12_commonT N S' x y) fun w3 => if ¬ l3 = 0 then gP (¬ w3 = 0) (f_X12_chance_129 N S' (x / w3)) else gP (¬ w3 = 0) (f_X12_chance_129 N S' (y / w3)) else if ¬ l3 = 0 then f_X12_chance_102 N S' 1 else f_X12_chance_102 N S' 0) = some (v, S') := by
  rw [gA_nn h2 c41, hT]
  unfold f_X11_commonDivisor f_X11_commonDivisor_0 f_X12_commonT f_X11_chance_105 f_X12_chance_129 f_X12_chance_102
  obtain ⟨v, g, v1, v2, v3, v4⟩ := gcd_both (N := N) (S := S) (S' := S') 33 0 N 110 a s x y hx hy (by omega) (by omega) (by omega) (by omega)
  have v1' : f_X11_commonDivisor_9 N N S x y 0 = some v := v1
  rw [v1', bV_s, gA_nn h2 c41, hT]
  have hv0 : v = 0 ↔ g = 0 := ll_eq v3 (ll_lit 0 (by decide))
  have hv1 : 0 < lg_cmp v 0 ↔ 0 < g := by
    rw [cmp_1]
    exact ll_lt (ll_lit 0 (by decide)) v3
  by_cases z : s = 0
  · subst z
    have cy : lg_cmp y 0 = 0 := cmp_0.mpr ((ll_eq hy (ll_lit 0 (by decide))).mpr rfl)
    have ev : v = x := by
      have h : f_X11_commonDivisor_9 N N S x y 0 = some x := by
        obtain ⟨n, hn⟩ : ∃ n, N = n + 1 := ⟨N - 1, by omega⟩
        have e : ∀ M, f_X11_commonDivisor_9 (n + 1) M S x y 0 = some x := fun M => by
          rw [f_X11_commonDivisor_9, if_neg (show ¬ (100 : Int32) ≤ 0 by decide), if_pos cy]
          rfl
        rw [← hn] at e
        exact e N
      rw [h] at v1'
      exact (Option.some.inj v1').symm
    subst ev
    have ga : g = a := ll_inj v3 hx
    rw [if_neg (show ¬ ¬ lg_cmp y 0 = 0 from fun q => q cy)]
    by_cases ga0 : 0 < g
    · have nv : ¬ v = 0 := fun q => by have := hv0.mp q; omega
      have e1 : v / v = 1 := by
        have h := ll_div v3 v3
        rw [Nat.div_self ga0] at h
        exact h.1
      have e2 : y / v = 0 := by
        have h := ll_div hy v3
        rw [Nat.zero_div] at h
        exact h.1
      rw [if_pos (hv1.mpr ga0), gP_t nv, gP_t nv, e1, e2]
      rcases h3 with q | q
      · rw [q, if_neg (fun w => w rfl), if_neg (fun w => w rfl)]
        exact ⟨0, rfl, rfl⟩
      · rw [q, if_pos (by decide), if_pos (by decide)]
        exact ⟨1, rfl, rfl⟩
    · rw [if_neg (fun q => ga0 (hv1.mp q))]
      rcases h3 with q | q
      · rw [q, if_neg (fun w => w rfl)]
        exact ⟨0, rfl, rfl⟩
      · rw [q, if_pos (by decide)]
        exact ⟨1, rfl, rfl⟩
  · have ga0 : 0 < g := by omega
    have nv : ¬ v = 0 := fun q => by have := hv0.mp q; omega
    have cy : ¬ lg_cmp y 0 = 0 := fun q => z ((ll_eq hy (ll_lit 0 (by decide))).mp (cmp_0.mp q))
    rw [if_pos (hv1.mpr ga0), if_pos cy, v2, bV_s]
    rw [gP_t nv, gP_t nv, gP_t nv, gP_t nv]
    rcases h3 with q | q
    · rw [q, if_neg (fun w => w rfl), if_neg (fun w => w rfl)]
      exact ⟨_, rfl, rfl⟩
    · rw [q, if_pos (by decide), if_pos (by decide)]
      exact ⟨_, rfl, rfl⟩
theorem chance_loop {N C c : Nat} {S S' : yS} {W : Nat → Int64} {CI pI l2 l3 : Int32} (hN : 120 < N) (hC : nn CI C) (C41 : C ≤ 41) (hT : ∀ x, x < C → S.2.2 0 4 x = W x) (hS : ∀ cI x, nn cI x → x < C → f_X12_share N S' pI cI = some (W x)) (hW : ∀ x, ∃ b, ll (W x) b ∧ b ≤ 6000000000) (hcl : f_X12_cells N S' pI = some CI) (h2 : nn l2 c) (cC : c < C) (h3 : l3 = 0 ∨ l3 = 1) : ∀ (d i n m a : Nat) (acc : Int64), i + d = C → d < n → d < m → ll acc a → a ≤ i * 6000000000 → ∃ v, f_X11_chance_42 n N S l2 l3 CI acc (Int32.ofNat i) = some (some v, S) ∧ f_X12_chance_50 m N S' pI l2 l3 acc (Int32.ofNat i) = some (v, S') := by
  intro d
  induction d with
  | zero =>
    intro i n m a acc hi hn hm ha hb
    obtain ⟨n, rfl⟩ : ∃ x, n = x + 1 := ⟨n - 1, by omega⟩
    obtain ⟨m, rfl⟩ : ∃ x, m = x + 1 := ⟨m - 1, by omega⟩
    have le := (nn_le hC (nn_lit i (by omega))).mpr (by omega)
    obtain ⟨s, s1, s2⟩ := hW c
    obtain ⟨v, v1, v2⟩ := chance_end (N := N) (S := S) (S' := S') (C := C) hN h2 (by omega) ha s1 (hT c cC) s2 h3
    refine ⟨v, ?_, ?_⟩
    · rw [f_X11_chance_42, if_pos le]
      exact v1
    · rw [f_X12_chance_50, hcl, bV_s, if_pos le, hS l2 c h2 cC, bV_s]
      exact v2
  | succ d ih =>
    intro i n m a acc hi hn hm ha hb
    obtain ⟨n, rfl⟩ : ∃ x, n = x + 1 := ⟨n - 1, by omega⟩
    obtain ⟨m, rfl⟩ : ∃ x, m = x + 1 := ⟨m - 1, by omega⟩
    have ni := nn_lit i (by omega)
    have nle : ¬ CI ≤ Int32.ofNat i := fun z => by have := (nn_le hC ni).mp z; omega
    obtain ⟨s, s1, s2⟩ := hW i
    obtain ⟨v, v1, v2⟩ := ih (i + 1) n m (a + s) (acc + W i) (by omega) (by omega) (by omega) (ll_add ha s1 (by omega)) (by omega)
    refine ⟨v, ?_, ?_⟩
    · rw [f_X11_chance_42, if_neg nle, gA_nn ni (by omega), hT i (by omega), y_int1]
      exact v1
    · rw [f_X12_chance_50, hcl, bV_s, if_neg nle, hS _ i ni (by omega), bV_s, y_int1]
      exact v2
theorem C_chance {N : Nat} {Sc Sm : yS} (h : RAe Sc Sm) (hN : 120 < N) (pI l2 l3 : Int32) : cThL (f_X11_chance N Sc pI l2 l3) (f_X12_chance N Sm pI l2 l3) := by
  have h1 := RA_clear h
  obtain ⟨cK, nf, nl, np, nq, nb, ng, r, x, hA⟩ := h
  obtain ⟨hT1, hD1⟩ := clear_both hA.1 hA.2.1
  obtain ⟨t1, t2, t3, t4, t5, t6, t7, t8, t9, t10, t11, t12, t13, t14⟩ := id hT1
  have no : ∀ fm, fm = some ((0 : Int64), yI (yI Sm 8 47 0) 8 47 1) → cThL (some (none, Sc)) fm := fun fm hf => Or.inr ⟨0, _, _, rfl, hf, yI_1s _ _ _ _, RA_lost ⟨cK, nf, nl, np, nq, nb, ng, r, x, hA⟩⟩
  unfold f_X11_chance f_X11_chance_0 f_X11_chance_18 f_X11_isCell f_X11_isCell_0 f_X11_isCell_45 f_X11_isCell_46 f_X12_chance f_X12_chance_0 f_X12_chance_37
  rw [sq_s, sq_s, gP_t (show (0 : Int32) = 0 ∨ (0 : Int32) = 1 from Or.inl rfl), gP_t (show (1 : Int32) = 0 ∨ (1 : Int32) = 1 from Or.inr rfl)]
  rcases down_both (N := N) (pI := pI) hT1 hD1 with ⟨p, p1, p2, h12, e1, e2⟩ | ⟨e1, e2⟩
  · obtain ⟨C, W, T, l, CI, hC, C2, C41, w1, w2, w3, w4, a1, a2, eC, w5⟩ := weigh_both (N := N) hN hT1 hD1 p1 p2 h12
    have p8 : p < 8 := by have := t7.1.2.1; omega
    have l12 : l < 12 := by have := t2.2.1; omega
    obtain ⟨kk, hR⟩ := t2.2.2.2.1 l a2
    rw [e1, bV_s, e2, bV_s, if_neg (show ¬ (1 : Int32) = 0 by decide), if_neg (show ¬ (1 : Int32) = 0 by decide), gR_nn p1 p8 (t8 p p2).1, gR_nn a1 l12 hR.1]
    unfold f_X3_cellCount f_X3_cellCount_0
    rw [bV_s, w5, bV_s, eC, e_within, bV_s, e_in, bV_s]
    by_cases c : 0 ≤ l2 ∧ l2 ≤ CI - 1
    · obtain ⟨cc, c1, c2⟩ := nn_idx hC c
      rw [b01_t c, if_neg (show ¬ (1 : Int32) = 0 by decide), if_neg (show ¬ (1 : Int32) = 0 by decide), bV_s, if_neg (show ¬ (1 : Int32) = 0 by decide), e_within, bV_s, e_in, bV_s]
      by_cases d : 0 ≤ l3 ∧ l3 ≤ 1
      · have h3 : l3 = 0 ∨ l3 = 1 := by
          have n3 := nn_of d.1
          have := (nn_le n3 (nn_l 1 (by decide))).mp d.2
          rcases (show l3.toNatClampNeg = 0 ∨ l3.toNatClampNeg = 1 by omega) with z | z
          · rw [z] at n3; exact Or.inl n3.1
          · rw [z] at n3; exact Or.inr n3.1
        rw [b01_t d, if_pos (show ¬ (1 : Int32) = 0 by decide), if_pos (show ¬ (1 : Int32) = 0 by decide), w1, bS_s]
        obtain ⟨v, v1, v2⟩ := chance_loop (N := N) (S := yJ Sc 0 4 T) (S' := yI Sm 8 47 0) hN hC C41 (fun x hx => by rw [yJ_same]; exact w2 x hx) w3 w4 w5 c1 c2 h3 C 0 N N 0 0 (by omega) (by omega) (by omega) (ll_lit 0 (by decide)) (Nat.zero_le _)
        exact Or.inl ⟨v, _, _, v1, v2, yI_1s _ _ _ _, RA_J h1⟩
      · rw [b01_f d, if_neg (show ¬ ¬ (0 : Int32) = 0 from fun w => w rfl), if_neg (show ¬ ¬ (0 : Int32) = 0 from fun w => w rfl)]
        exact no _ rfl
    · rw [b01_f c, if_pos rfl, if_pos rfl, bV_s, if_pos rfl]
      exact no _ rfl
  · rw [e1, bV_s, e2, bV_s, if_pos rfl, if_pos rfl, bV_s, if_pos rfl]
    exact no _ rfl
/-! LANES -/
theorem mul_comm64 (a b : Int64) : a * b = b * a := Int64.mul_comm a b
/-- the best pair so far, on both sides -/
def LB (bc bm : Int32) (vc vm : Int64) : Prop := (bc = -1 ∧ bm = -1 ∧ vc = -1) ∨ (bc = bm ∧ vc = vm ∧ ¬ bm = -1)
theorem lanes_inner {N C i u w : Nat} {S S' : yS} {W : Nat → Int64} {CI pI l2 l3 : Int32} {kC : yS → Int32 → Int32 → Int32 → Int32 → Int64 → Int32 → Option (Int32 × yS)} {kM : yS → Int32 → Int32 → Int32 → Int32 → Int64 → Int32 → Option (Int32 × yS)} (hC : nn CI C) (C41 : C ≤ 41) (hT : ∀ x, x < C → S.2.2 0 4 x = W x) (hS : ∀ cI x, nn cI x → x < C → f_X12_share N S' pI cI = some (W x)) (hW : ∀ x, ∃ b, ll (W x) b ∧ b ≤ 6000000000) (hcl : f_X12_cells N S' pI = some CI) (h2 : nn l2 u) (u99 : u ≤ 99) (h3 : nn l3 w) (w99 : w ≤ 99) (hi : i < C) : ∀ (d j n m : Nat) (bc bm : Int32) (vc vm : Int64), j + d = C → d < n → d < m → LB bc bm vc vm → ∃ bc' bm' vc' vm', f_X11_lanes_58 n N kC S l2 l3 CI bc vc (Int32.ofNat i) (Int32.ofNat j) = kC S l2 l3 CI bc' vc' (Int32.ofNat (i + 1)) ∧ f_X12_lanes_66 m N kM S' pI l2 l3 bm vm (Int32.ofNat i) (Int32.ofNat j) = kM S' pI l2 l3 bm' vm' (Int32.ofNat (i + 1)) ∧ LB bc' bm' vc' vm' := by
  intro d
  induction d with
  | zero =>
    intro j n m bc bm vc vm hj hn hm hB
    obtain ⟨n, rfl⟩ : ∃ x, n = x + 1 := ⟨n - 1, by omega⟩
    obtain ⟨m, rfl⟩ : ∃ x, m = x + 1 := ⟨m - 1, by omega⟩
    have le := (nn_le hC (nn_lit j (by omega))).mpr (by omega)
    refine ⟨bc, bm, vc, vm, ?_, ?_, hB⟩
    · rw [f_X11_lanes_58, if_pos le, y_int1]
    · rw [f_X12_lanes_66, hcl, bV_s, if_pos le, y_int1]
  | succ d ih =>
    intro j n m bc bm vc vm hj hn hm hB
    obtain ⟨n, rfl⟩ : ∃ x, n = x + 1 := ⟨n - 1, by omega⟩
    obtain ⟨m, rfl⟩ : ∃ x, m = x + 1 := ⟨m - 1, by omega⟩
    have ni := nn_lit i (by omega)
    have nj := nn_lit j (by omega)
    have nle : ¬ CI ≤ Int32.ofNat j := fun z => by have := (nn_le hC nj).mp z; omega
    rw [f_X11_lanes_58, if_neg nle, gA_nn ni (by omega), gA_nn nj (by omega), hT i hi, hT j (by omega), f_X12_lanes_66, hcl, bV_s, if_neg nle]
    unfold f_X11_lanes_117 f_X12_lanes_126 f_X12_lanes_140
    rw [y_int1]
    by_cases e : i = j
    · subst e
      rw [if_pos rfl, if_neg (fun z => z rfl)]
      exact ih (i + 1) n m bc bm vc vm (by omega) (by omega) (by omega) hB
    · have ne : ¬ Int32.ofNat i = Int32.ofNat j := fun z => e ((nn_eq ni nj).mp z)
      obtain ⟨a, a1, a2⟩ := hW i
      obtain ⟨b, b1, b2⟩ := hW j
      have c1 : u * a ≤ 99 * 6000000000 := Nat.mul_le_mul u99 a2
      have c2 : w * b ≤ 99 * 6000000000 := Nat.mul_le_mul w99 b2
      have hv := ll_add (ll_mul (nn_ll h2) a1 (by omega)) (ll_mul (nn_ll h3) b1 (by omega)) (by omega)
      rw [if_neg ne, if_pos ne, hS _ i ni hi, bV_s, hS _ j nj (by omega), bV_s, Int64.mul_comm (W i) l2.toInt64, Int64.mul_comm (W j) l3.toInt64]
      generalize l2.toInt64 * W i + l3.toInt64 * W j = v at hv
      have npr : ¬ (100 * Int32.ofNat i + Int32.ofNat j : Int32) = -1 := fun z => by
        have := nn_add (nn_mul (nn_l 100 (by decide)) ni (by omega)) nj (by omega)
        exact this.nneg (by rw [z]; decide)
      have up := ih (j + 1) n m (100 * Int32.ofNat i + Int32.ofNat j) (100 * Int32.ofNat i + Int32.ofNat j) v v (by omega) (by omega) (by omega) (Or.inr ⟨rfl, rfl, npr⟩)
      rcases hB with ⟨q1, q2, q3⟩ | ⟨q1, q2, q3⟩
      · have gt : ¬ lg_cmp v vc ≤ 0 := fun z => Int32.not_lt.mpr z (cmp_1.mpr (by rw [q3, Int64.lt_iff_toInt_lt, hv.int]; show (-1 : Int) < _; omega))
        rw [if_neg gt, if_pos q2]
        exact up
      · rw [if_neg q3, q2]
        by_cases g : 0 < lg_cmp v vm
        · rw [if_neg (Int32.not_le.mpr g), if_pos g]
          exact up
        · rw [if_pos (Int32.not_lt.mp g), if_neg g]
          exact ih (j + 1) n m bc bm vm vm (by omega) (by omega) (by omega) (Or.inr ⟨q1, rfl, q3⟩)
theorem lanes_outer {N C u w : Nat} {S S' : yS} {W : Nat → Int64} {CI pI l2 l3 : Int32} (hN : 120 < N) (hC : nn CI C) (C41 : C ≤ 41) (hT : ∀ x, x < C → S.2.2 0 4 x = W x) (hS : ∀ cI x, nn cI x → x < C → f_X12_share N S' pI cI = some (W x)) (hW : ∀ x, ∃ b, ll (W x) b ∧ b ≤ 6000000000) (hcl : f_X12_cells N S' pI = some CI) (h2 : nn l2 u) (u99 : u ≤ 99) (h3 : nn l3 w) (w99 : w ≤ 99) : ∀ (d i n m : Nat) (bc bm : Int32) (vc vm : Int64), i + d = C → d < n → d < m → LB bc bm vc vm → ∃ v, f_X11_lanes_48 n N S l2 l3 CI bc vc (Int32.ofNat i) = some (v, S) ∧ f_X12_lanes_53 m N S' pI l2 l3 bm vm (Int32.ofNat i) = some (v, S') := by
  intro d
  induction d with
  | zero =>
    intro i n m bc bm vc vm hi hn hm hB
    obtain ⟨n, rfl⟩ : ∃ x, n = x + 1 := ⟨n - 1, by omega⟩
    obtain ⟨m, rfl⟩ : ∃ x, m = x + 1 := ⟨m - 1, by omega⟩
    have le := (nn_le hC (nn_lit i (by omega))).mpr (by omega)
    have e : bc = bm := by
      rcases hB with ⟨q1, q2, _⟩ | ⟨q1, _⟩
      · rw [q1, q2]
      · exact q1
    refine ⟨bm, ?_, ?_⟩
    · rw [f_X11_lanes_48, if_pos le, e]
    · rw [f_X12_lanes_53, hcl, bV_s, if_pos le]
  | succ d ih =>
    intro i n m bc bm vc vm hi hn hm hB
    obtain ⟨n, rfl⟩ : ∃ x, n = x + 1 := ⟨n - 1, by omega⟩
    obtain ⟨m, rfl⟩ : ∃ x, m = x + 1 := ⟨m - 1, by omega⟩
    have nle : ¬ CI ≤ Int32.ofNat i := fun z => by have := (nn_le hC (nn_lit i (by omega))).mp z; omega
    obtain ⟨bc', bm', vc', vm', r1, r2, r3⟩ := lanes_inner (N := N) (i := i) (kC := fun S l2 l3 l4 l5 l6 l8 => f_X11_lanes_48 n N S l2 l3 l4 l5 l6 l8) (kM := fun S l1 l2 l3 l4 l5 l7 => f_X12_lanes_53 m N S l1 l2 l3 l4 l5 l7) hC C41 hT hS hW hcl h2 u99 h3 w99 (by omega) C 0 N N bc bm vc vm (by omega) (by omega) (by omega) hB
    obtain ⟨v, v1, v2⟩ := ih (i + 1) n m bc' bm' vc' vm' (by omega) (by omega) (by omega) r3
    refine ⟨v, ?_, ?_⟩
    · rw [f_X11_lanes_48, if_neg nle]
      exact r1.trans v1
    · rw [f_X12_lanes_53, hcl, bV_s, if_neg nle]
      exact r2.trans v2
theorem C_lanes {N : Nat} {Sc Sm : yS} (h : RAe Sc Sm) (hN : 120 < N) (pI l2 l3 : Int32) : cAll (f_X11_lanes N Sc pI l2 l3) (f_X12_lanes N Sm pI l2 l3) := by
  have h1 := RA_clear h
  obtain ⟨cK, nf, nl, np, nq, nb, ng, r, x, hA⟩ := h
  obtain ⟨hT1, hD1⟩ := clear_both hA.1 hA.2.1
  unfold f_X11_lanes f_X11_lanes_0 f_X11_lanes_28 f_X12_lanes f_X12_lanes_0 f_X12_lanes_42
  rw [sq_s]
  rcases down_both (N := N) (pI := pI) hT1 hD1 with ⟨p, p1, p2, h12, e1, e2⟩ | ⟨e1, e2⟩
  · obtain ⟨C, W, T, l, CI, hC, C2, C41, w1, w2, w3, w4, a1, a2, eC, w5⟩ := weigh_both (N := N) hN hT1 hD1 p1 p2 h12
    rw [e1, bV_s, e2, bV_s, if_neg (show ¬ (1 : Int32) = 0 by decide), if_neg (show ¬ (1 : Int32) = 0 by decide), e_within, bV_s, e_in, bV_s]
    by_cases c : 1 ≤ l2 ∧ l2 ≤ 99
    · rw [b01_t c, if_neg (show ¬ (1 : Int32) = 0 by decide), if_neg (show ¬ (1 : Int32) = 0 by decide), e_within, bV_s, e_in, bV_s]
      by_cases d : 1 ≤ l3 ∧ l3 ≤ 99
      · have n2 := nn_of (Int32.le_trans (by decide) c.1)
        have n3 := nn_of (Int32.le_trans (by decide) d.1)
        rw [b01_t d, if_pos (show ¬ (1 : Int32) = 0 by decide), if_neg (show ¬ (1 : Int32) = 0 by decide), w1, bS_s, w5, bV_s, if_pos ((nn_le (nn_l 2 (by decide)) hC).mpr C2)]
        obtain ⟨v, v1, v2⟩ := lanes_outer (N := N) (S := yJ Sc 0 4 T) (S' := yI Sm 8 47 0) hN hC C41 (fun x hx => by rw [yJ_same]; exact w2 x hx) w3 w4 w5 n2 ((nn_le n2 (nn_l 99 (by decide))).mp c.2) n3 ((nn_le n3 (nn_l 99 (by decide))).mp d.2) C 0 N N (-1) (-1) (-1) 0 (by omega) (by omega) (by omega) (Or.inl ⟨rfl, rfl, rfl⟩)
        exact ⟨v, _, _, v1, v2, RA_J h1⟩
      · rw [b01_f d, if_neg (show ¬ ¬ (0 : Int32) = 0 from fun w => w rfl), if_pos rfl]
        exact ⟨-1, _, _, rfl, rfl, h1⟩
    · rw [b01_f c, if_pos rfl, if_pos rfl]
      exact ⟨-1, _, _, rfl, rfl, h1⟩
  · rw [e1, bV_s, e2, bV_s, if_pos rfl, if_pos rfl]
    exact ⟨-1, _, _, rfl, rfl, h1⟩
