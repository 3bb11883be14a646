theorem lb_loop' {F : Nat → Option Nat → Nat → Option Int32} {R : Option Nat → Int32} {P : Nat → Bool} {V : Nat → Int32} {K : Nat} (h0 : ∀ n b, (∀ j, b = some j → j < K) → F (n + 1) b K = some (R b)) (hs : ∀ n i b, i < K → (∀ j, b = some j → j < i) → F (n + 1) b i = F n (lbN P V i b) (i + 1)) : ∀ (m i n : Nat) (b : Option Nat), i + m = K → m < n → (∀ j, b = some j → j < i) → F n b i = some (R (lbS P V m i b)) := by
  intro m
  induction m with
  | zero =>
    intro i n b hi hn hb
    obtain ⟨n, rfl⟩ : ∃ n', n = n' + 1 := ⟨n - 1, by omega⟩
    have e : i = K := by omega
    subst e
    exact h0 n b hb
  | succ m ih =>
    intro i n b hi hn hb
    obtain ⟨n, rfl⟩ : ∃ n', n = n' + 1 := ⟨n - 1, by omega⟩
    rw [hs n i b (by omega) hb]
    exact ih (i + 1) n _ (by omega) (by omega) (lbN_lt hb)
def RR (k8 k9 : Nat) (Sc Sm : yS) : Prop := nn (Sc.1 4 0) k8 ∧ k8 ≤ 20 ∧ Sm.1 8 41 = Sc.1 4 0 ∧ nn (Sc.1 5 0) k9 ∧ k9 ≤ 12 ∧ Sm.1 8 42 = Sc.1 5 0 ∧ (∀ i, i < k8 → Sc.2.1 4 3 i = Sm.2.1 8 39 i ∧ Sc.2.1 4 4 i = Sm.2.1 8 40 i) ∧ (∀ i, i < k9 → Sc.2.1 5 3 i = 2 ∧ Sm.2.1 8 39 (20 + i) = 2 ∧ Sc.2.1 5 4 i = Sm.2.1 8 40 (20 + i))
def fcP (A B : Nat → Int32) (kd t : Int32) (i : Nat) : Bool := decide (A i = kd) && decide (B i ≤ t)
def sFr (S : yS) (k : Nat) (kd t : Int32) : Option Nat := lbS (fcP (S.2.1 4 3) (S.2.1 4 4) kd t) (S.2.1 4 4) k 0 none
def sFl (S : yS) (k : Nat) (kd t : Int32) : Option Nat := lbS (fcP (S.2.1 5 3) (S.2.1 5 4) kd t) (S.2.1 5 4) k 0 none
theorem sFr_lt {S : yS} {k : Nat} {kd t : Int32} {j : Nat} (h : sFr S k kd t = some j) : j < k := by
  have := lbS_lt k 0 none (fun j hj => by cases hj) j h
  omega
theorem e_inForcer {N k8 k9 : Nat} {Sc Sm : yS} (h : RR k8 k9 Sc Sm) (hN : 20 < N) (kd t : Int32) : f_X8r_inForce N Sc kd t = some (encN (sFr Sc k8 kd t)) := by
  obtain ⟨h1, h2, -, h4, h5, -, -, -⟩ := h
  refine lb_loop (F := fun n b i => f_X8r_inForce_5 n N Sc kd t b i) (enc := encN) (P := fcP (Sc.2.1 4 3) (Sc.2.1 4 4) kd t) (V := Sc.2.1 4 4) (K := k8) ?_ ?_ k8 0 N none (by omega) (by omega) (fun j hj => by cases hj)
  · intro n b _
    show f_X8r_inForce_5 (n + 1) N Sc kd t _ _ = _
    rw [f_X8r_inForce_5]
    rw [if_pos ((nn_le h1 (nn_lit k8 (by omega))).mpr (by omega))]
  · intro n i b hi hb
    show f_X8r_inForce_5 (n + 1) N Sc kd t _ _ = f_X8r_inForce_5 n N Sc kd t _ _
    have hni := nn_lit i (by omega)
    have hin : i < 20 := by omega
    rw [f_X8r_inForce_5]
    rw [if_neg (fun h => by have := (nn_le h1 hni).mp h; omega), gA_nn hni hin]
    by_cases hA : Sc.2.1 4 3 i = kd
    · rw [if_neg (fun h => h hA), gA_nn hni hin]
      by_cases hB : t < Sc.2.1 4 4 i
      · have hp : fcP (Sc.2.1 4 3) (Sc.2.1 4 4) kd t i = false := by
          have : ¬ Sc.2.1 4 4 i ≤ t := Int32.not_le.mpr hB
          simp [fcP, this]
        rw [if_pos hB]
        simp only [f_X8r_inForce_40, f_X8r_inForce_41, f_X8r_inForce_72, if_true, y_int1]
        cases b <;> simp [lbN, hp]
      · have hp : fcP (Sc.2.1 4 3) (Sc.2.1 4 4) kd t i = true := by
          have := Int32.not_lt.mp hB
          simp [fcP, this, hA]
        rw [if_neg hB]
        simp only [f_X8r_inForce_41, f_X8r_inForce_72, f_X8r_inForce_69, show ¬ (1 : Int32) = 0 by decide, if_false, y_int1]
        cases b with
        | none => simp only [encN, if_true, lbN, hp]
        | some j =>
          have hj := hb j rfl
          rw [if_neg (encN_ne j (by omega))]
          simp only [encN, gA_nn hni hin, gA_nn (nn_lit j (by omega)) (show j < 20 by omega), lbN, hp, true_and]
          by_cases hC : Sc.2.1 4 4 i < Sc.2.1 4 4 j
          · rw [if_pos hC, if_neg (Int32.not_le.mpr hC)]
          · rw [if_neg hC, if_pos (Int32.not_lt.mp hC)]
    · have hp : fcP (Sc.2.1 4 3) (Sc.2.1 4 4) kd t i = false := by simp [fcP, hA]
      rw [if_pos hA]
      simp only [f_X8r_inForce_40, f_X8r_inForce_41, f_X8r_inForce_72, if_true, y_int1]
      cases b <;> simp [lbN, hp]
theorem sFl_lt {S : yS} {k : Nat} {kd t : Int32} {j : Nat} (h : sFl S k kd t = some j) : j < k := by
  have := lbS_lt k 0 none (fun j hj => by cases hj) j h
  omega
theorem e_inForcel {N k8 k9 : Nat} {Sc Sm : yS} (h : RR k8 k9 Sc Sm) (hN : 20 < N) (kd t : Int32) : f_X8l_inForce N Sc kd t = some (encN (sFl Sc k9 kd t)) := by
  obtain ⟨h1, h2, -, h4, h5, -, -, -⟩ := h
  refine lb_loop (F := fun n b i => f_X8l_inForce_5 n N Sc kd t b i) (enc := encN) (P := fcP (Sc.2.1 5 3) (Sc.2.1 5 4) kd t) (V := Sc.2.1 5 4) (K := k9) ?_ ?_ k9 0 N none (by omega) (by omega) (fun j hj => by cases hj)
  · intro n b _
    show f_X8l_inForce_5 (n + 1) N Sc kd t _ _ = _
    rw [f_X8l_inForce_5]
    rw [if_pos ((nn_le h4 (nn_lit k9 (by omega))).mpr (by omega))]
  · intro n i b hi hb
    show f_X8l_inForce_5 (n + 1) N Sc kd t _ _ = f_X8l_inForce_5 n N Sc kd t _ _
    have hni := nn_lit i (by omega)
    have hin : i < 12 := by omega
    rw [f_X8l_inForce_5]
    rw [if_neg (fun h => by have := (nn_le h4 hni).mp h; omega), gA_nn hni hin]
    by_cases hA : Sc.2.1 5 3 i = kd
    · rw [if_neg (fun h => h hA), gA_nn hni hin]
      by_cases hB : t < Sc.2.1 5 4 i
      · have hp : fcP (Sc.2.1 5 3) (Sc.2.1 5 4) kd t i = false := by
          have : ¬ Sc.2.1 5 4 i ≤ t := Int32.not_le.mpr hB
          simp [fcP, this]
        rw [if_pos hB]
        simp only [f_X8l_inForce_40, f_X8l_inForce_41, f_X8l_inForce_72, if_true, y_int1]
        cases b <;> simp [lbN, hp]
      · have hp : fcP (Sc.2.1 5 3) (Sc.2.1 5 4) kd t i = true := by
          have := Int32.not_lt.mp hB
          simp [fcP, this, hA]
        rw [if_neg hB]
        simp only [f_X8l_inForce_41, f_X8l_inForce_72, f_X8l_inForce_69, show ¬ (1 : Int32) = 0 by decide, if_false, y_int1]
        cases b with
        | none => simp only [encN, if_true, lbN, hp]
        | some j =>
          have hj := hb j rfl
          rw [if_neg (encN_ne j (by omega))]
          simp only [encN, gA_nn hni hin, gA_nn (nn_lit j (by omega)) (show j < 12 by omega), lbN, hp, true_and]
          by_cases hC : Sc.2.1 5 4 i < Sc.2.1 5 4 j
          · rw [if_pos hC, if_neg (Int32.not_le.mpr hC)]
          · rw [if_neg hC, if_pos (Int32.not_lt.mp hC)]
    · have hp : fcP (Sc.2.1 5 3) (Sc.2.1 5 4) kd t i = false := by simp [fcP, hA]
      rw [if_pos hA]
      simp only [f_X8l_inForce_40, f_X8l_inForce_41, f_X8l_inForce_72, if_true, y_int1]
      cases b <;> simp [lbN, hp]
def encZ (z : Nat) : Option Nat → Int32
  | none => -1
  | some j => Int32.ofNat (z + j)
theorem em_textOf_loop {N K z : Nat} {S : yS} {low many : Int32} {A B : Nat → Int32} {kd t : Int32} (hz : z + K ≤ 32) (hl : nn low z) (hm : nn many K) (hAB : ∀ i, i < K → S.2.1 8 39 (z + i) = A i ∧ S.2.1 8 40 (z + i) = B i) : ∀ (m i n : Nat) (b : Option Nat), i + m = K → m < n → (∀ j, b = some j → j < i) → f_X12_textOf_37 n N S kd t (encZ z b) low many (Int32.ofNat (z + i)) = some (encZ z (lbS (fcP A B kd t) B m i b)) := by
  have hlm := nn_add hl hm (by omega)
  refine lb_loop' (F := fun n b i => f_X12_textOf_37 n N S kd t (encZ z b) low many (Int32.ofNat (z + i))) (R := encZ z) (P := fcP A B kd t) (V := B) (K := K) ?_ ?_
  · intro n b _
    show f_X12_textOf_37 (n + 1) N S kd t _ low many _ = _
    rw [f_X12_textOf_37]
    rw [if_pos ((nn_le hlm (nn_lit (z + K) (by omega))).mpr (by omega))]
  · intro n i b hi hb
    show f_X12_textOf_37 (n + 1) N S kd t _ low many _ = f_X12_textOf_37 n N S kd t _ low many _
    have hni := nn_lit (z + i) (by omega)
    have hin : z + i < 32 := by omega
    obtain ⟨a1, a2⟩ := hAB i hi
    have e1 : Int32.ofNat (z + i) + 1 = Int32.ofNat (z + (i + 1)) := y_int1
    rw [f_X12_textOf_37]
    rw [if_neg (fun h => by have := (nn_le hlm hni).mp h; omega), gA_nn hni hin, a1]
    by_cases hA : A i = kd
    · rw [if_neg (fun h => h hA), gA_nn hni hin, a2]
      by_cases hB : B i ≤ t
      · have hp : fcP A B kd t i = true := by simp [fcP, hB, hA]
        rw [if_pos hB]
        cases b with
        | none =>
          simp only [encZ, if_true, lbN, hp, f_X12_textOf_93, f_X12_textOf_96, e1]
        | some j =>
          have hj := hb j rfl
          have hbj := nn_lit (z + j) (by omega)
          have hne : ¬ encZ z (some j) = -1 := fun e => hbj.nneg (by rw [show Int32.ofNat (z + j) = -1 from e]; decide)
          rw [if_neg hne]
          simp only [encZ, gA_nn hni hin, gA_nn hbj (show z + j < 32 by omega), lbN, hp, true_and, a2, (hAB j (by omega)).2, f_X12_textOf_93, f_X12_textOf_96, e1]
          by_cases hC : B i < B j
          · rw [if_pos hC, if_neg (Int32.not_le.mpr hC)]
          · rw [if_neg hC, if_pos (Int32.not_lt.mp hC)]
      · have hp : fcP A B kd t i = false := by simp [fcP, hB]
        rw [if_neg hB]
        simp only [f_X12_textOf_96, e1]
        cases b <;> simp [lbN, hp]
    · have hp : fcP A B kd t i = false := by simp [fcP, hA]
      rw [if_pos hA]
      simp only [f_X12_textOf_96, e1]
      cases b <;> simp [lbN, hp]
theorem em_textOfr {N k8 k9 : Nat} {Sc Sm : yS} (h : RR k8 k9 Sc Sm) (hN : 20 < N) {kd : Int32} (hk : ¬ kd = 2) (t : Int32) : f_X12_textOf N Sm kd t = some (encZ 0 (sFr Sc k8 kd t)) := by
  obtain ⟨h1, h2, h3, h4, h5, h6, h7, h8⟩ := h
  simp only [f_X12_textOf, f_X12_textOf_0, f_X12_textOf_13, f_X12_textOf_31, hk, not_false_eq_true, if_true]
  exact em_textOf_loop (z := 0) (K := k8) (low := 0) (by omega) (nn_l 0 (by decide)) (by rw [h3]; exact h1) (fun i hi => by rw [Nat.zero_add]; exact ⟨(h7 i hi).1.symm, (h7 i hi).2.symm⟩) k8 0 N none (by omega) (by omega) (fun j hj => by cases hj)
theorem em_textOfl {N k8 k9 : Nat} {Sc Sm : yS} (h : RR k8 k9 Sc Sm) (hN : 20 < N) (t : Int32) : f_X12_textOf N Sm 2 t = some (encZ 20 (sFl Sc k9 2 t)) := by
  obtain ⟨h1, h2, h3, h4, h5, h6, h7, h8⟩ := h
  simp only [f_X12_textOf, f_X12_textOf_0, f_X12_textOf_13, f_X12_textOf_31, not_true_eq_false, if_false]
  exact em_textOf_loop (z := 20) (K := k9) (low := 20) (by omega) (nn_l 20 (by decide)) (by rw [h6]; exact h4) (fun i hi => ⟨(h8 i hi).2.1.trans (h8 i hi).1.symm, (h8 i hi).2.2.symm⟩) k9 0 N none (by omega) (by omega) (fun j hj => by cases hj)
