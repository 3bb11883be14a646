/-! LAMPS: sets of fields as masks -/
def cntB (m : Nat) : Nat → Nat
  | 0 => 0
  | i + 1 => cntB m i + if mB m i = true then 1 else 0
def pcB (m : Nat) : Nat := cntB m 8
def z0S : yS := (fun _ _ => 0, fun _ _ _ => 0, fun _ _ _ => 0)
theorem bc_0 : ∀ m, m < 256 → f_J6_bitCount_0f7a4 0 z0S (Int32.ofNat m) = some (Int32.ofNat (pcB m)) := by decide +kernel
theorem bc_n {N : Nat} {S : yS} {m : Nat} (h : m < 256) : f_J6_bitCount_0f7a4 N S (Int32.ofNat m) = some (Int32.ofNat (pcB m)) := bc_0 m h
theorem pc_8 : ∀ m, m < 256 → pcB m ≤ 8 := by decide +kernel
theorem and_n (a b : Nat) : Int32.ofNat a &&& Int32.ofNat b = Int32.ofNat (a &&& b) := by
  apply Int32.toBitVec_inj.mp
  rw [Int32.toBitVec_and]
  show BitVec.ofNat 32 a &&& BitVec.ofNat 32 b = BitVec.ofNat 32 (a &&& b)
  rw [BitVec.ofNat_and]
theorem sub_b {m d : Nat} (hm : m < 256) : (Int32.ofNat m &&& Int32.ofNat d = Int32.ofNat m) ↔ ∀ i, i < 8 → mB m i = true → mB d i = true := by
  have le : m &&& d ≤ m := Nat.and_le_left
  rw [and_n, nn_eq (nn_lit (m &&& d) (by omega)) (nn_lit m (by omega))]
  constructor
  · intro h i _ hi
    unfold mB at *
    have := Nat.testBit_and m d (7 - i)
    rw [h, hi] at this
    simpa using this.symm
  · intro h
    apply Nat.eq_of_testBit_eq
    intro j
    rw [Nat.testBit_and]
    by_cases c : j < 8
    · by_cases e : m.testBit j = true
      · have := h (7 - j) (by omega) (by unfold mB; rw [show 7 - (7 - j) = j by omega]; exact e)
        unfold mB at this
        rw [show 7 - (7 - j) = j by omega] at this
        rw [e, this]; rfl
      · have e' : m.testBit j = false := by cases h : m.testBit j; rfl; exact absurd h e
        rw [e']; rfl
    · have e' : m.testBit j = false := Nat.testBit_lt_two_pow (Nat.lt_of_lt_of_le hm (Nat.pow_le_pow_right (n := 2) (by decide) (show 8 ≤ j by omega)))
      rw [e']; rfl
theorem or_in : ∀ m, m < 256 → ∀ i, i < 8 → (Int32.ofNat m ||| (1 <<< ((7 - Int32.ofNat i) &&& 31))) = Int32.ofNat (m ||| 2 ^ (7 - i)) ∧ (m ||| 2 ^ (7 - i)) < 256 ∧ ∀ j, j < 8 → (mB (m ||| 2 ^ (7 - i)) j = true ↔ mB m j = true ∨ j = i) := by decide +kernel
theorem dark_loop {N nf : Nat} {S : yS} (h : nn (S.1 1 3) nf) (nf8 : nf ≤ 8) : ∀ (d i n m : Nat), i + d = nf → d < n → m < 256 → (∀ j, j < 8 → (mB m j = true ↔ j < i ∧ S.2.1 1 1 j = 0)) → ∃ m', f_X2_darkFields_4 n N S (Int32.ofNat m) (Int32.ofNat i) = some (Int32.ofNat m') ∧ m' < 256 ∧ ∀ j, j < 8 → (mB m' j = true ↔ j < nf ∧ S.2.1 1 1 j = 0) := by
  intro d
  induction d with
  | zero =>
    intro i n m hi hn hm hb
    obtain ⟨n, rfl⟩ : ∃ x, n = x + 1 := ⟨n - 1, by omega⟩
    have e : i = nf := by omega
    subst e
    exact ⟨m, by rw [f_X2_darkFields_4, if_pos ((nn_le h (nn_lit i (by omega))).mpr (Nat.le_refl _))], hm, hb⟩
  | succ d ih =>
    intro i n m hi hn hm hb
    obtain ⟨n, rfl⟩ : ∃ x, n = x + 1 := ⟨n - 1, by omega⟩
    have ni := nn_lit i (by omega)
    obtain ⟨o1, o2, o3⟩ := or_in m hm i (by omega)
    rw [f_X2_darkFields_4, if_neg (fun z => by have := (nn_le h ni).mp z; omega), gA_nn ni (by omega)]
    unfold f_X2_bitOf f_X2_bitOf_0 f_X2_darkFields_28
    rw [bV_s, y_int1, o1]
    by_cases c : S.2.1 1 1 i = 0
    · rw [if_neg (fun z => z c)]
      exact ih (i + 1) n _ (by omega) (by omega) o2 (fun j hj => by
        rw [o3 j hj, hb j hj]
        constructor
        · rintro (⟨a, b⟩ | rfl)
          · exact ⟨by omega, b⟩
          · exact ⟨by omega, c⟩
        · rintro ⟨a, b⟩
          by_cases e : j = i
          · exact Or.inr e
          · exact Or.inl ⟨by omega, b⟩)
    · rw [if_pos c]
      exact ih (i + 1) n m (by omega) (by omega) hm (fun j hj => by
        rw [hb j hj]
        constructor
        · rintro ⟨a, b⟩; exact ⟨by omega, b⟩
        · rintro ⟨a, b⟩
          refine ⟨?_, b⟩
          by_cases e : j = i
          · rw [e] at b; exact absurd b c
          · omega)
theorem dark_c {N nf : Nat} {S : yS} (hN : 60 < N) (h : nn (S.1 1 3) nf) (nf8 : nf ≤ 8) : ∃ D, f_X2_darkFields N S = some (Int32.ofNat D) ∧ D < 256 ∧ ∀ j, j < 8 → (mB D j = true ↔ j < nf ∧ S.2.1 1 1 j = 0) :=
  dark_loop (N := N) h nf8 nf 0 N 0 (by omega) (by omega) (by decide) (fun j hj => by
    have : ∀ j, j < 8 → mB 0 j = false := by decide
    rw [this j hj]; constructor
    · intro z; cases z
    · intro z; exact absurd z.1 (Nat.not_lt_zero _))
/-- the reference counts the dark fields -/
theorem cnt_loop {N nf D : Nat} {M : yS} {KM : yS → Int32 → Int32 → Int32 → Option (Int32 × yS)} {l1 l2 : Int32} (h : nn (M.1 8 1) nf) (nf8 : nf ≤ 8) (hD : D < 256) (hb : ∀ j, j < nf → (mB D j = true ↔ ¬ M.2.1 8 48 (3 + 2 * j) = 1)) (hK : ∀ n x l4, M.1 8 1 ≤ l4 → f_X12_lamps_10 (n + 1) N M l1 l2 x l4 = KM M l1 l2 x) : ∀ (d i n : Nat), i + d = nf → d < n → f_X12_lamps_10 n N M l1 l2 (Int32.ofNat (cntB D i)) (Int32.ofNat i) = KM M l1 l2 (Int32.ofNat (cntB D nf)) := by
  intro d
  induction d with
  | zero =>
    intro i n hi hn
    obtain ⟨n, rfl⟩ : ∃ x, n = x + 1 := ⟨n - 1, by omega⟩
    have e : i = nf := by omega
    subst e
    exact hK _ _ _ ((nn_le h (nn_lit i (by omega))).mpr (Nat.le_refl _))
  | succ d ih =>
    intro i n hi hn
    obtain ⟨n, rfl⟩ : ∃ x, n = x + 1 := ⟨n - 1, by omega⟩
    have ni := nn_lit i (by omega)
    rw [f_X12_lamps_10, if_neg (fun z => by have := (nn_le h ni).mp z; omega), em_lamp ni (by omega), bV_s]
    unfold f_X12_lamps_31
    rw [y_int1, y_int1]
    have hh := hb i (by omega)
    have u : cntB D (i + 1) = cntB D i + if mB D i = true then 1 else 0 := rfl
    by_cases c : M.2.1 8 48 (3 + 2 * i) = 1
    · rw [b01_t c, if_pos (show ¬ (1 : Int32) = 0 by decide)]
      rw [if_neg (show ¬ mB D i = true from fun z => hh.mp z c)] at u
      have := ih (i + 1) n (by omega) (by omega)
      rw [u] at this
      exact this
    · rw [b01_f c, if_neg (show ¬ ¬ (0 : Int32) = 0 from fun w => w rfl)]
      rw [if_pos (hh.mpr c)] at u
      have := ih (i + 1) n (by omega) (by omega)
      rw [u] at this
      exact this
theorem cnt_nf {D nf : Nat} (h : ∀ j, j < 8 → mB D j = true → j < nf) : ∀ d, nf + d ≤ 8 → cntB D (nf + d) = cntB D nf := by
  intro d
  induction d with
  | zero => intro _; rfl
  | succ d ih =>
    intro hd
    show cntB D (nf + d) + (if mB D (nf + d) = true then 1 else 0) = _
    rw [if_neg (fun z => by have := h (nf + d) (by omega) z; omega), ih (by omega)]; rfl
theorem pc_nf {D nf : Nat} (h : ∀ j, j < 8 → mB D j = true → j < nf) (nf8 : nf ≤ 8) : pcB D = cntB D nf := by
  have := cnt_nf h (8 - nf) (by omega)
  rw [show nf + (8 - nf) = 8 by omega] at this
  exact this
theorem cntB_lt {m j : Nat} (e : mB m j = true) : ∀ d, cntB m j < cntB m (j + 1 + d) := by
  intro d
  induction d with
  | zero =>
    show cntB m j < cntB m j + if mB m j = true then 1 else 0
    rw [if_pos e]; omega
  | succ d ih =>
    refine Nat.lt_of_lt_of_le ih ?_
    show _ ≤ cntB m (j + 1 + d) + _
    omega
/-- the class lists a set -/
theorem list_loop {N nf m : Nat} {S : yS} (h : nn (S.1 1 3) nf) (nf8 : nf ≤ 8) (hm : m < 256) : ∀ (d i n : Nat) (R : Nat → Int32), i + d = nf → d < n → ∃ R', f_X2_listFields_5 n N (yA S 0 7 R) (Int32.ofNat m) (Int32.ofNat (cntB m i)) (Int32.ofNat i) = some (Int32.ofNat (cntB m nf), yA S 0 7 R') ∧ (∀ j, j < cntB m i → R' j = R j) ∧ ∀ j, i ≤ j → j < nf → mB m j = true → R' (cntB m j) = Int32.ofNat j := by
  intro d
  have c8 : ∀ m, m < 256 → ∀ i, i < 9 → cntB m i ≤ 8 := by decide +kernel
  induction d with
  | zero =>
    intro i n R hi hn
    obtain ⟨n, rfl⟩ : ∃ x, n = x + 1 := ⟨n - 1, by omega⟩
    have e : i = nf := by omega
    subst e
    exact ⟨R, by rw [f_X2_listFields_5, yA_1, if_pos ((nn_le h (nn_lit i (by omega))).mpr (Nat.le_refl _))]; rfl, fun _ _ => rfl, fun j a b => absurd b (by omega)⟩
  | succ d ih =>
    intro i n R hi hn
    obtain ⟨n, rfl⟩ : ∃ x, n = x + 1 := ⟨n - 1, by omega⟩
    have ni := nn_lit i (by omega)
    have ci := c8 m hm i (by omega)
    have nc := nn_lit (cntB m i) (by omega)
    have u : cntB m (i + 1) = cntB m i + if mB m i = true then 1 else 0 := rfl
    rw [f_X2_listFields_5, yA_1, if_neg (fun z => by have := (nn_le h ni).mp z; omega), if_neg (fun z => by have := (nn_le (nn_lit 32 (by decide)) nc).mp z; omega)]
    unfold f_X2_bitOf f_X2_bitOf_0 f_X2_listFields_38
    rw [bV_s, y_int1]
    by_cases c : mB m i = true
    · have nz : ¬ (Int32.ofNat m &&& (1 <<< ((7 - Int32.ofNat i) &&& 31))) = 0 := fun z => by
        have := (bit_in m hm i (by omega)).mp z
        rw [this] at c; cases c
      rw [if_pos c] at u
      obtain ⟨R', r1, r2, r3⟩ := ih (i + 1) n (upd R (cntB m i) (Int32.ofNat i)) (by omega) (by omega)
      rw [u] at r1 r2
      refine ⟨R', ?_, fun j hj => ?_, fun j a b e => ?_⟩
      · rw [if_neg nz, gA_nn nc (by omega), sq_s, yA_yA, yA_same, y_int1]
        exact r1
      · rw [r2 j (by omega), upd_o _ _ (by omega)]
      · by_cases z : j = i
        · rw [z, r2 _ (by omega), upd_s]
        · exact r3 j (by omega) b e
    · have bf : mB m i = false := by cases h : mB m i; rfl; exact absurd h c
      rw [if_neg c, Nat.add_zero] at u
      obtain ⟨R', r1, r2, r3⟩ := ih (i + 1) n R (by omega) (by omega)
      rw [u] at r1 r2
      refine ⟨R', ?_, r2, fun j a b e => ?_⟩
      · rw [if_pos ((bit_in m hm i (by omega)).mpr bf)]
        exact r1
      · have : j ≠ i := fun z => by rw [z] at e; exact c e
        exact r3 j (by omega) b e
/-- a set of k fields inside a set that has as many -/
def loB (d : Nat) : Nat := d - (d &&& (d - 1))
def smB (d : Nat) : Nat → Nat
  | 0 => 0
  | 1 => loB d
  | _ => loB d + loB (d &&& (d - 1))
theorem sm_b : ∀ d, d < 256 → ∀ k, k < 3 → k ≤ pcB d → smB d k < 256 ∧ pcB (smB d k) = k ∧ ∀ i, i < 8 → mB (smB d k) i = true → mB d i = true := by decide +kernel
