/-! LONGS -/
def ll (x : Int64) (n : Nat) : Prop := x = Int64.ofNat n ∧ n < 4611686018427387904
theorem ll.int {x : Int64} {n : Nat} (h : ll x n) : x.toInt = n := by rw [h.1]; exact Int64.toInt_ofNat_of_lt (by have := h.2; omega)
theorem ll_lit (k : Nat) (h : k < 4611686018427387904) : ll (Int64.ofNat k) k := ⟨rfl, h⟩
theorem ll_add {a b : Int64} {m n : Nat} (ha : ll a m) (hb : ll b n) (h : m + n < 4611686018427387904) : ll (a + b) (m + n) := ⟨by rw [ha.1, hb.1, Int64.ofNat_add], h⟩
theorem ll_mul {a b : Int64} {m n : Nat} (ha : ll a m) (hb : ll b n) (h : m * n < 4611686018427387904) : ll (a * b) (m * n) := ⟨by rw [ha.1, hb.1, Int64.ofNat_mul], h⟩
theorem ll_sub {a b : Int64} {m n : Nat} (ha : ll a m) (hb : ll b n) (h : n ≤ m) : ll (a - b) (m - n) := ⟨by rw [ha.1, hb.1, Int64.ofNat_sub _ _ h], by have := ha.2; omega⟩
theorem ll_lt {a b : Int64} {m n : Nat} (ha : ll a m) (hb : ll b n) : a < b ↔ m < n := by rw [Int64.lt_iff_toInt_lt, ha.int, hb.int]; omega
theorem ll_le {a b : Int64} {m n : Nat} (ha : ll a m) (hb : ll b n) : a ≤ b ↔ m ≤ n := by rw [Int64.le_iff_toInt_le, ha.int, hb.int]; omega
theorem ll_eq {a b : Int64} {m n : Nat} (ha : ll a m) (hb : ll b n) : a = b ↔ m = n := by rw [← Int64.toInt_inj, ha.int, hb.int]; omega
theorem ll_inj {a : Int64} {m n : Nat} (ha : ll a m) (hb : ll a n) : m = n := by
  have := ha.int
  have := hb.int
  omega
theorem ll_of_int {x : Int64} {n : Nat} (h : x.toInt = n) (hn : n < 4611686018427387904) : ll x n := ⟨by rw [← Int64.toInt_inj, h, Int64.toInt_ofNat_of_lt (by omega)], hn⟩
theorem nn_ll {x : Int32} {m : Nat} (h : nn x m) : ll x.toInt64 m := ll_of_int (by rw [Int32.toInt_toInt64, h.int]) (by have := h.2; omega)
theorem ll_div {a b : Int64} {m n : Nat} (ha : ll a m) (hb : ll b n) : ll (a / b) (m / n) := by
  have h1 := Nat.div_le_self m n
  have h2 := ha.2
  refine ll_of_int ?_ (by omega)
  rw [Int64.toInt_div, ha.int, hb.int, ← Int.ofNat_tdiv]
  generalize m / n = k at h1
  rw [Int.bmod_eq_of_le] <;> omega
theorem ll_mod {a b : Int64} {m n : Nat} (ha : ll a m) (hb : ll b n) : ll (a - a / b * b) (m % n) := by
  have h1 : m / n * n ≤ m := Nat.div_mul_le_self m n
  have h2 := ha.2
  have e := ll_sub ha (ll_mul (ll_div ha hb) hb (by omega)) h1
  have e2 : m - m / n * n = m % n := by
    have := Nat.div_add_mod m n
    rw [Nat.mul_comm] at this
    omega
  rw [e2] at e
  exact e
theorem cmp_0 {x y : Int64} : lg_cmp x y = 0 ↔ x = y := by
  unfold lg_cmp
  by_cases c : x > y
  · rw [if_pos c]
    refine ⟨fun z => absurd z (by decide), fun z => ?_⟩
    rw [z] at c
    exact absurd c (Int64.lt_irrefl)
  · rw [if_neg c]
    by_cases d : x = y
    · rw [if_pos d]; exact ⟨fun _ => d, fun _ => rfl⟩
    · rw [if_neg d]; exact ⟨fun z => absurd z (by decide), fun z => absurd z d⟩
theorem cmp_1 {x y : Int64} : 0 < lg_cmp x y ↔ y < x := by
  unfold lg_cmp
  by_cases c : x > y
  · rw [if_pos c]; exact ⟨fun _ => c, fun _ => by decide⟩
  · rw [if_neg c]
    by_cases d : x = y
    · rw [if_pos d]; exact ⟨fun z => absurd z (by decide), fun z => absurd z c⟩
    · rw [if_neg d]; exact ⟨fun z => absurd z (by decide), fun z => absurd z c⟩
theorem half_mod {b r : Nat} (h : r < b) (h0 : 0 < r) : 2 * (b % r) < b := by
  have h1 := Nat.div_add_mod b r
  have h2 := Nat.mod_lt b h0
  have h3 : 1 ≤ b / r := (Nat.one_le_div_iff h0).mpr (by omega)
  have h4 : r * 1 ≤ r * (b / r) := Nat.mul_le_mul_left r h3
  omega
/-- Euclid, on both sides -/
theorem gcd_both {N : Nat} {S S' : yS} : ∀ (k i n m a b : Nat) (x y : Int64), ll x a → ll y b → b < 2 ^ k → 2 * k < n → 2 * k < m → i + 2 * k < 100 → ∃ v g, f_X11_commonDivisor_9 n N S x y (Int32.ofNat i) = some v ∧ f_comR N m S' x y = some v ∧ ll v g ∧ (0 < g ∨ (a = 0 ∧ b = 0)) := by
  have stop : ∀ (i n m a : Nat) (x y : Int64), ll x a → ll y 0 → 0 < n → 0 < m → i < 100 → f_X11_commonDivisor_9 n N S x y (Int32.ofNat i) = some x ∧ f_comR N m S' x y = some x := by
    intro i n m a x y hx hy h1 h2 h3
    obtain ⟨n, rfl⟩ : ∃ z, n = z + 1 := ⟨n - 1, by omega⟩
    obtain ⟨m, rfl⟩ : ∃ z, m = z + 1 := ⟨m - 1, by omega⟩
    have c : lg_cmp y 0 = 0 := cmp_0.mpr ((ll_eq hy (ll_lit 0 (by decide))).mpr rfl)
    refine ⟨?_, ?_⟩
    · rw [f_X11_commonDivisor_9, if_neg (fun z => by have := (nn_le (nn_l 100 (by decide)) (nn_lit i (by omega))).mp z; omega), if_pos c]
      rfl
    · rw [f_comR]
      unfold f_X12_common f_X12_common_0 f_X12_common_17
      rw [if_neg (fun z => z c)]
  have go : ∀ (i n m a b : Nat) (x y : Int64), ll x a → ll y b → 0 < b → i < 100 → f_X11_commonDivisor_9 (n + 1) N S x y (Int32.ofNat i) = f_X11_commonDivisor_9 n N S y (x - x / y * y) (Int32.ofNat (i + 1)) ∧ ∀ v, f_comR N m S' y (x - x / y * y) = some v → f_comR N (m + 1) S' x y = some v := by
    intro i n m a b x y hx hy hb hi
    have ny : ¬ y = 0 := fun z => by have := (ll_eq hy (ll_lit 0 (by decide))).mp z; omega
    have c : ¬ lg_cmp y 0 = 0 := fun z => ny (cmp_0.mp z)
    refine ⟨?_, fun v hv => ?_⟩
    · rw [f_X11_commonDivisor_9, if_neg (fun z => by have := (nn_le (nn_l 100 (by decide)) (nn_lit i (by omega))).mp z; omega), if_neg c, gP_t ny, y_int1]
    · rw [f_comR]
      unfold f_X12_common f_X12_common_0 f_X12_common_17
      rw [if_pos c, gP_t ny, hv, bV_s]
  intro k
  induction k with
  | zero =>
    intro i n m a b x y hx hy hb hn hm hi
    have e : b = 0 := by omega
    subst e
    obtain ⟨s1, s2⟩ := stop i n m a x y hx hy (by omega) (by omega) (by omega)
    exact ⟨x, a, s1, s2, hx, by omega⟩
  | succ k ih =>
    intro i n m a b x y hx hy hb hn hm hi
    by_cases e : b = 0
    · subst e
      obtain ⟨s1, s2⟩ := stop i n m a x y hx hy (by omega) (by omega) (by omega)
      exact ⟨x, a, s1, s2, hx, by omega⟩
    · obtain ⟨n, rfl⟩ : ∃ z, n = z + 2 := ⟨n - 2, by omega⟩
      obtain ⟨m, rfl⟩ : ∃ z, m = z + 2 := ⟨m - 2, by omega⟩
      obtain ⟨g1, g2⟩ := go i (n + 1) (m + 1) a b x y hx hy (by omega) (by omega)
      have hr := ll_mod hx hy
      have rl : a % b < b := Nat.mod_lt a (by omega)
      by_cases z : a % b = 0
      · rw [z] at hr
        obtain ⟨s1, s2⟩ := stop (i + 1) (n + 1) (m + 1) b y _ hy hr (by omega) (by omega) (by omega)
        exact ⟨y, b, g1.trans s1, g2 _ s2, hy, Or.inl (by omega)⟩
      · obtain ⟨g3, g4⟩ := go (i + 1) n m b (a % b) y _ hy hr (by omega) (by omega)
        have hb2 : b % (a % b) < 2 ^ k := by
          have := half_mod rl (by omega)
          rw [Nat.pow_succ] at hb
          omega
        obtain ⟨v, g, v1, v2, v3, v4⟩ := ih (i + 2) n m (a % b) (b % (a % b)) _ _ hr (ll_mod hy hr) hb2 (by omega) (by omega) (by omega)
        exact ⟨v, g, g1.trans (g3.trans v1), g2 _ (g4 _ v2), v3, Or.inl (by omega)⟩
