def nn (x : Int32) (m : Nat) : Prop := x = Int32.ofNat m ∧ m < 2147483648
theorem nn.nat {x : Int32} {m : Nat} (h : nn x m) : x.toNatClampNeg = m := by rw [h.1]; exact Int32.toNatClampNeg_ofNat_of_lt h.2
theorem nn.int {x : Int32} {m : Nat} (h : nn x m) : x.toInt = m := by rw [h.1]; exact Int32.toInt_ofNat_of_lt h.2
theorem nn.nneg {x : Int32} {m : Nat} (h : nn x m) : ¬ x < 0 := by
  rw [Int32.lt_iff_toInt_lt, h.int]
  show ¬ (m : Int) < 0
  omega
theorem nn_of {x : Int32} (h : 0 ≤ x) : nn x x.toNatClampNeg := ⟨(Int32.ofNat_toNatClampNeg x h).symm, Int32.toNatClampNeg_lt x⟩
theorem nn_lit (k : Nat) (h : k < 2147483648) : nn (Int32.ofNat k) k := ⟨rfl, h⟩
theorem nn_add {a b : Int32} {m n : Nat} (ha : nn a m) (hb : nn b n) (h : m + n < 2147483648) : nn (a + b) (m + n) := ⟨by rw [ha.1, hb.1, Int32.ofNat_add], h⟩
theorem nn_mul {a b : Int32} {m n : Nat} (ha : nn a m) (hb : nn b n) (h : m * n < 2147483648) : nn (a * b) (m * n) := ⟨by rw [ha.1, hb.1, Int32.ofNat_mul], h⟩
theorem nn_sub {a b : Int32} {m n : Nat} (ha : nn a m) (hb : nn b n) (h : n ≤ m) : nn (a - b) (m - n) := ⟨by rw [ha.1, hb.1, Int32.ofNat_sub _ _ h], by have := ha.2; omega⟩
theorem nn_lt {a b : Int32} {m n : Nat} (ha : nn a m) (hb : nn b n) : a < b ↔ m < n := by rw [Int32.lt_iff_toInt_lt, ha.int, hb.int]; omega
theorem nn_le {a b : Int32} {m n : Nat} (ha : nn a m) (hb : nn b n) : a ≤ b ↔ m ≤ n := by rw [Int32.le_iff_toInt_le, ha.int, hb.int]; omega
theorem nn_eq {a b : Int32} {m n : Nat} (ha : nn a m) (hb : nn b n) : a = b ↔ m = n := by rw [← Int32.toInt_inj, ha.int, hb.int]; omega
theorem nn_inj {a : Int32} {m n : Nat} (ha : nn a m) (hb : nn a n) : m = n := ha.nat.symm.trans hb.nat
theorem nn_rng {x lo hi : Int32} {h : Nat} (hh : nn hi h) (hl : lo = 0) (h1 : ¬ x < lo) (h2 : ¬ hi < x) : ∃ m, nn x m ∧ m ≤ h := by
  have h3 : 0 ≤ x := by rw [← hl]; exact Int32.not_lt.mp h1
  exact ⟨_, nn_of h3, (nn_le (nn_of h3) hh).mp (Int32.not_lt.mp h2)⟩
theorem gA_nn {α : Type} {n m : Nat} {x : Int32} {k : Nat → Option α} (h : nn x m) (hm : m < n) : gA n x k = k m := by
  unfold gA
  rw [if_neg, h.nat]
  intro q
  rcases q with q | q
  · exact h.nneg q
  · rw [h.nat] at q; omega
theorem gR_nn {α : Type} {A : Nat → Int32} {n m : Nat} {x : Int32} {k : Nat → Option α} (h : nn x m) (hm : m < n) (hA : A m = 1) : gR A n x k = k m := by
  unfold gR
  rw [if_neg, h.nat, if_pos hA]
  intro q
  rcases q with q | q
  · exact h.nneg q
  · rw [h.nat] at q; omega
theorem gP_t {α : Type} {c : Prop} [Decidable c] {k : Option α} (h : c) : gP c k = k := if_pos h
theorem bV_s {α β : Type} {t : α} {k : α → Option β} : bV (some t) k = k t := rfl
theorem bS_s {α β : Type} {t : α} {S : yS} {k : α → yS → Option β} : bS (some (t, S)) k = k t S := rfl
theorem sq_s {α : Type} {S : yS} {k : yS → Option α} : sq S k = k S := rfl
/-- 1 or 0 -/
def b01 (c : Prop) [Decidable c] : Int32 := if c then 1 else 0
theorem b01_0 {c : Prop} [Decidable c] : b01 c = 0 ↔ ¬ c := by unfold b01; split <;> simp_all
theorem b01_1 {c : Prop} [Decidable c] : b01 c = 1 ↔ c := by unfold b01; split <;> simp_all
theorem b01_r {c : Prop} [Decidable c] : b01 c = 0 ∨ b01 c = 1 := by unfold b01; split <;> simp
theorem e_within (N : Nat) (S : yS) (x lo hi : Int32) : f_X11_within N S x lo hi = some (b01 (lo ≤ x ∧ x ≤ hi)) := by
  simp only [f_X11_within, f_X11_within_0, f_X11_within_14, f_X11_within_15, b01]
  by_cases h1 : x < lo
  · rw [if_pos h1, gP_t (Or.inl trivial), if_neg (fun q => absurd q.1 (Int32.not_le.mpr h1))]
  · rw [if_neg h1]
    by_cases h2 : hi < x
    · rw [if_pos h2, gP_t (Or.inl trivial), if_neg (fun q => absurd q.2 (Int32.not_le.mpr h2))]
    · rw [if_neg h2, gP_t (Or.inr trivial), if_pos ⟨Int32.not_lt.mp h1, Int32.not_lt.mp h2⟩]
theorem e_in (N : Nat) (S : yS) (x lo hi : Int32) : f_X12_in N S x lo hi = some (b01 (lo ≤ x ∧ x ≤ hi)) := by
  simp only [f_X12_in, f_X12_in_0, f_X12_in_14, f_X12_in_15, b01]
  by_cases h1 : x < lo
  · rw [if_pos h1, gP_t (Or.inl trivial), if_neg (fun q => absurd q.1 (Int32.not_le.mpr h1))]
  · rw [if_neg h1]
    by_cases h2 : hi < x
    · rw [if_pos h2, gP_t (Or.inl trivial), if_neg (fun q => absurd q.2 (Int32.not_le.mpr h2))]
    · rw [if_neg h2, gP_t (Or.inr trivial), if_pos ⟨Int32.not_lt.mp h1, Int32.not_lt.mp h2⟩]
theorem e_isField (N : Nat) (S : yS) (x : Int32) : f_X11_isField N S x = some (b01 (0 ≤ x ∧ x ≤ S.1 1 3 - 1)) := by
  simp only [f_X11_isField, f_X11_isField_0, e_within, bV_s, gP_t b01_r]
theorem e_isLeg (N : Nat) (S : yS) (x : Int32) : f_X11_isLeg N S x = some (b01 (0 ≤ x ∧ x ≤ S.1 1 5 - 1)) := by
  simp only [f_X11_isLeg, f_X11_isLeg_0, e_within, bV_s, gP_t b01_r]
theorem e_isPlane (N : Nat) (S : yS) (x : Int32) : f_X11_isPlane N S x = some (b01 (0 ≤ x ∧ x ≤ S.1 2 5 - 1)) := by
  simp only [f_X11_isPlane, f_X11_isPlane_0, e_within, bV_s, gP_t b01_r]
theorem e_isPilot (N : Nat) (S : yS) (x : Int32) : f_X11_isPilot N S x = some (b01 (0 ≤ x ∧ x ≤ S.1 2 7 - 1)) := by
  simp only [f_X11_isPilot, f_X11_isPilot_0, e_within, bV_s, gP_t b01_r]
theorem e_isBag (N : Nat) (S : yS) (x : Int32) : f_X11_isBag N S x = some (b01 (0 ≤ x ∧ x ≤ S.1 2 9 - 1)) := by
  simp only [f_X11_isBag, f_X11_isBag_0, e_within, bV_s, gP_t b01_r]
theorem e_isFlight (N : Nat) (S : yS) (x : Int32) : f_X11_isFlight N S x = some (b01 (0 ≤ x ∧ x ≤ S.1 2 12 - 1)) := by
  simp only [f_X11_isFlight, f_X11_isFlight_0, e_within, bV_s, gP_t b01_r]
theorem e_isQuarter (N : Nat) (S : yS) (x : Int32) : f_X11_isQuarter N S x = some (b01 (0 ≤ x ∧ x ≤ 3000)) := by
  simp only [f_X11_isQuarter, f_X11_isQuarter_0, e_within, bV_s, gP_t b01_r]
theorem em_isField (N : Nat) (S : yS) (x : Int32) : f_X12_isField N S x = some (b01 (0 ≤ x ∧ x ≤ S.1 8 1 - 1)) := by
  simp only [f_X12_isField, f_X12_isField_0, e_in, bV_s, gP_t b01_r]
theorem em_isLeg (N : Nat) (S : yS) (x : Int32) : f_X12_isLeg N S x = some (b01 (0 ≤ x ∧ x ≤ S.1 8 9 - 1)) := by
  simp only [f_X12_isLeg, f_X12_isLeg_0, e_in, bV_s, gP_t b01_r]
theorem em_isPlane (N : Nat) (S : yS) (x : Int32) : f_X12_isPlane N S x = some (b01 (0 ≤ x ∧ x ≤ S.1 8 21 - 1)) := by
  simp only [f_X12_isPlane, f_X12_isPlane_0, e_in, bV_s, gP_t b01_r]
theorem em_isPilot (N : Nat) (S : yS) (x : Int32) : f_X12_isPilot N S x = some (b01 (0 ≤ x ∧ x ≤ S.1 8 22 - 1)) := by
  simp only [f_X12_isPilot, f_X12_isPilot_0, e_in, bV_s, gP_t b01_r]
theorem em_isBag (N : Nat) (S : yS) (x : Int32) : f_X12_isBag N S x = some (b01 (0 ≤ x ∧ x ≤ S.1 8 28 - 1)) := by
  simp only [f_X12_isBag, f_X12_isBag_0, e_in, bV_s, gP_t b01_r]
/-- an index below a count -/
theorem nn_idx {x c : Int32} {n : Nat} (hc : nn c n) (h : 0 ≤ x ∧ x ≤ c - 1) : ∃ m, nn x m ∧ m < n := by
  have h1 := nn_of h.1
  refine ⟨_, h1, ?_⟩
  have h2 := Int32.le_iff_toInt_le.mp h.2
  rw [Int32.toInt_sub, h1.int, hc.int] at h2
  have h3 : Int.bmod ((n : Int) - Int32.toInt 1) (2 ^ 32) = (n : Int) - 1 := by
    rw [show Int32.toInt 1 = 1 from rfl, Int.bmod_eq_of_le] <;> have := hc.2 <;> omega
  rw [h3] at h2
  omega
theorem nn_idx' {x c : Int32} {m n : Nat} (hc : nn c n) (hx : nn x m) (h : m < n) : 0 ≤ x ∧ x ≤ c - 1 := by
  refine ⟨Int32.not_lt.mp hx.nneg, ?_⟩
  rw [Int32.le_iff_toInt_le, Int32.toInt_sub, hx.int, hc.int]
  rw [show Int32.toInt 1 = 1 from rfl, Int.bmod_eq_of_le] <;> have := hc.2 <;> omega
