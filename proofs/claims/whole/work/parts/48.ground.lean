/-! LEGS AND THEIR GROUNDS -/
/-- one leg, on both sides -/
def R1 (Sc Sm : yS) (i k : Nat) : Prop := Sc.2.1 1 4 i = 1 ∧ (∃ a, nn (Sc.1 (64 + i) 0) a ∧ a < 8) ∧ (∃ b, nn (Sc.1 (64 + i) 1) b ∧ b < 8) ∧ (∃ m, nn (Sc.1 (64 + i) 2) m ∧ 10 ≤ m ∧ m ≤ 400) ∧ Sm.2.1 8 2 i = Sc.1 (64 + i) 0 ∧ Sm.2.1 8 3 i = Sc.1 (64 + i) 1 ∧ Sm.2.1 8 4 i = Sc.1 (64 + i) 2 ∧ Sm.2.1 8 5 i = Sc.1 (64 + i) 3 ∧ nn (Sc.1 (64 + i) 4) k ∧ k ≤ 4 ∧ Sm.2.1 8 8 i = Sc.1 (64 + i) 4 ∧ ∀ j, j < k → Sc.2.1 (64 + i) 5 j = Sm.2.1 8 6 (4 * i + j) ∧ Sc.2.1 (64 + i) 6 j = Sm.2.1 8 7 (4 * i + j)
/-- the legs; and no leg where none is yet -/
def RG (nl : Nat) (Sc Sm : yS) : Prop := nn (Sc.1 1 5) nl ∧ nl ≤ 12 ∧ Sm.1 8 9 = Sc.1 1 5 ∧ (∀ i, i < nl → ∃ k, R1 Sc Sm i k) ∧ ∀ i, nl ≤ i → i < 12 → ¬ Sc.2.1 1 4 i = 1 ∧ ¬ Sc.1 (64 + i) 99 = 1
def cGr (S : yS) (p k : Nat) (q r : Int32) : yS := yI (yA (yA S p 5 (upd (S.2.1 p 5) k q)) p 6 (upd (S.2.1 p 6) k r)) p 4 (Int32.ofNat (k + 1))
def mGr (S : yS) (i k : Nat) (q r : Int32) : yS := yA (yA (yA (yI S 8 47 0) 8 6 (upd (S.2.1 8 6) (4 * i + k) q)) 8 7 (upd (S.2.1 8 7) (4 * i + k) r)) 8 8 (upd (S.2.1 8 8) i (Int32.ofNat (k + 1)))
theorem e_addGround {N p k : Nat} {S : yS} (h : nn (S.1 p 4) k) (hk : k < 4) (q r : Int32) : f_X3_addGround N S p q r = some (Int32.ofNat (k + 1), cGr S p k q r) := by
  have e : S.1 p 4 + 1 = Int32.ofNat (k + 1) := by rw [h.1]; exact y_int1
  simp only [f_X3_addGround, f_X3_addGround_0, gA_nn h hk, sq_s, yA_1, yI_1s, e, cGr, yA_2n, Nat.reduceEqDiff, and_false, not_false_eq_true]
def okGr (n m : Int32) (k : Nat) (l q r : Int32) : Prop := (0 ≤ l ∧ l ≤ n - 1) ∧ (0 ≤ r ∧ r ≤ 3) ∧ (1 ≤ q ∧ q ≤ m - 1) ∧ k < 4
theorem e_ground {N nl i k : Nat} {Sc Sm : yS} {l q r : Int32} (h : RG nl Sc Sm) (hl : nn l i) (hi : i < nl) (hR : R1 Sc Sm i k) : (okGr (Sc.1 1 5) (Sc.1 (64 + i) 2) k l q r → f_X11_ground N Sc l q r = some (Int32.ofNat (k + 1), cGr Sc (64 + i) k q r)) ∧ (¬ okGr (Sc.1 1 5) (Sc.1 (64 + i) 2) k l q r → f_X11_ground N Sc l q r = some (-1, Sc)) := by
  obtain ⟨h1, h2, h3, h4, h5⟩ := h
  obtain ⟨r1, r2, r3, r4, r5, r6, r7, r8, r9, r10, r11, r12⟩ := hR
  have a1 := nn_idx' h1 hl hi
  have k4 := nn_lt r9 (nn_l 4 (by decide))
  simp only [f_X11_ground, f_X11_ground_0, f_X11_ground_17, f_X11_ground_54, e_isLeg, e_within, bV_s, b01_t a1, i10, if_false, gR_nn hl (show i < 12 by omega) r1]
  constructor
  · intro ⟨_, a2, a3, a4⟩
    simp only [b01_t a2, b01_t a3, i10, if_false, not_false_eq_true, if_true, if_pos (k4.mpr a4), e_addGround r9 a4, bS_s]
  · intro hn
    by_cases a2 : 0 ≤ r ∧ r ≤ 3
    · by_cases a3 : 1 ≤ q ∧ q ≤ Sc.1 (64 + i) 2 - 1
      · have a4 : ¬ k < 4 := fun a4 => hn ⟨a1, a2, a3, a4⟩
        simp only [b01_t a2, b01_t a3, i10, if_false, not_false_eq_true, if_true, if_neg (fun z => a4 (k4.mp z))]
      · simp only [b01_t a2, b01_f a3, i10, not_false_eq_true, if_true]
    · simp only [b01_f a2, not_true_eq_false, if_false]
theorem em_ground {N nl i k : Nat} {Sc Sm : yS} {l q r : Int32} (h : RG nl Sc Sm) (hl : nn l i) (hi : i < nl) (hR : R1 Sc Sm i k) : (okGr (Sc.1 1 5) (Sc.1 (64 + i) 2) k l q r → f_X12_ground N Sm l q r = some (Int32.ofNat (k + 1), mGr Sm i k q r)) ∧ (¬ okGr (Sc.1 1 5) (Sc.1 (64 + i) 2) k l q r → f_X12_ground N Sm l q r = some (-1, yI Sm 8 47 0)) := by
  obtain ⟨h1, h2, h3, h4, h5⟩ := h
  obtain ⟨r1, r2, r3, r4, r5, r6, r7, r8, r9, r10, r11, r12⟩ := hR
  have a1 := nn_idx' h1 hl hi
  have hk : nn (Sm.2.1 8 8 i) k := by rw [r11]; exact r9
  have k4 := nn_eq hk (nn_l 4 (by decide))
  have g9 : (yI Sm 8 47 0).1 8 9 = Sc.1 1 5 := h3
  have e : Sm.2.1 8 8 i + 1 = Int32.ofNat (k + 1) := by rw [hk.1]; exact y_int1
  have hi12 : i < 12 := by omega
  simp only [f_X12_ground, f_X12_ground_0, f_X12_ground_48, em_isLeg, e_in, bV_s, sq_s, g9, b01_t a1, i10, if_false, gA_nn hl hi12, yI_2, r7]
  constructor
  · intro ⟨_, a2, a3, a4⟩
    have a6 : ¬ Sm.2.1 8 8 i = 4 := fun z => by have := k4.mp z; omega
    have ix := nn_add (nn_mul (nn_l 4 (by decide)) hl (by omega)) hk (by omega)
    simp only [b01_t a2, b01_t a3, i10, if_false, a6, not_false_eq_true, if_true, gA_nn ix (show 4 * i + k < 48 by omega), yA_2n, yA_same, yI_2, Nat.reduceEqDiff, and_false, e, mGr, upd_s]
  · intro hn
    by_cases a3 : 1 ≤ q ∧ q ≤ Sc.1 (64 + i) 2 - 1
    · by_cases a2 : 0 ≤ r ∧ r ≤ 3
      · have a4 : k = 4 := by
          have : ¬ k < 4 := fun a4 => hn ⟨a1, a2, a3, a4⟩
          omega
        simp only [b01_t a2, b01_t a3, i10, if_false, k4.mpr a4, not_true_eq_false]
      · simp only [b01_t a3, b01_f a2, i10, if_false, if_true]
    · simp only [b01_f a3, if_true]
theorem ground_no {N nl : Nat} {Sc Sm : yS} {l q r : Int32} (h : RG nl Sc Sm) (hn : ¬ (0 ≤ l ∧ l ≤ Sc.1 1 5 - 1)) : f_X11_ground N Sc l q r = some (-1, Sc) ∧ f_X12_ground N Sm l q r = some (-1, yI Sm 8 47 0) := by
  obtain ⟨h1, h2, h3, h4, h5⟩ := h
  have g9 : (yI Sm 8 47 0).1 8 9 = Sc.1 1 5 := h3
  constructor
  · simp only [f_X11_ground, f_X11_ground_0, f_X11_ground_17, e_isLeg, bV_s, b01_f hn, if_true]
  · simp only [f_X12_ground, f_X12_ground_0, f_X12_ground_48, em_isLeg, bV_s, sq_s, g9, b01_f hn, if_true]
