theorem nn_l (k : Nat) (h : k < 2147483648) : nn (OfNat.ofNat k : Int32) k := ⟨rfl, h⟩
/-! the last of the best: a loop's choice -/
def lbN (P : Nat → Bool) (V : Nat → Int32) (i : Nat) : Option Nat → Option Nat
  | none => if P i = true then some i else none
  | some j => if P i = true ∧ V j ≤ V i then some i else some j
def lbS (P : Nat → Bool) (V : Nat → Int32) : Nat → Nat → Option Nat → Option Nat
  | 0, _, b => b
  | m + 1, i, b => lbS P V m (i + 1) (lbN P V i b)
theorem lbN_lt {P : Nat → Bool} {V : Nat → Int32} {i : Nat} {b : Option Nat} (h : ∀ j, b = some j → j < i) : ∀ j, lbN P V i b = some j → j < i + 1 := by
  intro j hj
  cases b with
  | none =>
    simp only [lbN] at hj
    split at hj
    · cases hj; omega
    · cases hj
  | some k =>
    have := h k rfl
    simp only [lbN] at hj
    split at hj <;> cases hj <;> omega
theorem lbS_lt {P : Nat → Bool} {V : Nat → Int32} : ∀ (m i : Nat) (b : Option Nat), (∀ j, b = some j → j < i) → ∀ j, lbS P V m i b = some j → j < i + m
  | 0, _, _, h, j, hj => h j hj
  | m + 1, i, b, h, j, hj => by
    have := lbS_lt m (i + 1) _ (lbN_lt h) j hj
    omega
theorem lbS_congr {P P' : Nat → Bool} {V V' : Nat → Int32} {K : Nat} (hP : ∀ i, i < K → P i = P' i) (hV : ∀ i, i < K → V i = V' i) : ∀ (m i : Nat) (b : Option Nat), i + m = K → (∀ j, b = some j → j < i) → lbS P V m i b = lbS P' V' m i b
  | 0, _, _, _, _ => rfl
  | m + 1, i, b, hm, hb => by
    unfold lbS
    have e : lbN P V i b = lbN P' V' i b := by
      cases b with
      | none => simp only [lbN, hP i (by omega)]
      | some j =>
        have := hb j rfl
        simp only [lbN, hP i (by omega), hV i (by omega), hV j (by omega)]
    rw [← e]
    exact lbS_congr hP hV m (i + 1) _ (by omega) (lbN_lt hb)
theorem lb_loop {F : Nat → Int32 → Int32 → Option Int32} {enc : Option Nat → Int32} {P : Nat → Bool} {V : Nat → Int32} {K : Nat} (h0 : ∀ n b, (∀ j, b = some j → j < K) → F (n + 1) (enc b) (Int32.ofNat K) = some (enc b)) (hs : ∀ n i b, i < K → (∀ j, b = some j → j < i) → F (n + 1) (enc b) (Int32.ofNat i) = F n (enc (lbN P V i b)) (Int32.ofNat (i + 1))) : ∀ (m i n : Nat) (b : Option Nat), i + m = K → m < n → (∀ j, b = some j → j < i) → F n (enc b) (Int32.ofNat i) = some (enc (lbS P V m i b)) := by
  intro m
  induction m with
  | zero =>
    intro i n b hi hn hb
    obtain ⟨n, rfl⟩ : ∃ n', n = n' + 1 := ⟨n - 1, by omega⟩
    have e : i = K := by omega
    subst e
    exact h0 n b hb
  | succ m ih =>
    intro i n b hi hn hb
    obtain ⟨n, rfl⟩ : ∃ n', n = n' + 1 := ⟨n - 1, by omega⟩
    rw [hs n i b (by omega) hb]
    exact ih (i + 1) n _ (by omega) (by omega) (lbN_lt hb)
def encN : Option Nat → Int32
  | none => -1
  | some j => Int32.ofNat j
theorem encN_ne (j : Nat) (h : j < 2147483648) : ¬ encN (some j) = -1 := fun e => (nn_lit j h).nneg (by rw [show Int32.ofNat j = -1 from e]; decide)
/-! WORDS -/
def RW (k6 : Nat) (Sc Sm : yS) : Prop := nn (Sc.1 3 1) k6 ∧ k6 ≤ 120 ∧ Sm.2.1 8 48 2 = Sc.1 3 1 ∧ Sm.1 8 34 = Sc.1 3 0 ∧ ∀ i, i < k6 → Sc.2.1 3 5 i = Sm.2.1 8 48 (1465 + 7 * i) ∧ Sc.2.1 3 2 i = Sm.2.1 8 48 (1466 + 7 * i) ∧ Sc.2.1 3 3 i = Sm.2.1 8 48 (1467 + 7 * i) ∧ Sc.2.1 3 4 i = Sm.2.1 8 48 (1468 + 7 * i) ∧ Sc.2.1 3 6 i = Sm.2.1 8 48 (1469 + 7 * i) ∧ Sc.2.1 3 7 i = Sm.2.1 8 48 (1470 + 7 * i) ∧ Sc.2.1 3 8 i = Sm.2.1 8 48 (1470 + 7 * i) + Sm.2.1 8 48 (1471 + 7 * i)
/-- came by a quarter -/
def wdP (S : yS) (f l q : Int32) (i : Nat) : Bool := decide (S.2.1 3 5 i = l) && decide ((if S.2.1 3 6 i = f then S.2.1 3 7 i else S.2.1 3 8 i) ≤ q)
def sWd (S : yS) (k : Nat) (f l q : Int32) : Option Nat := lbS (wdP S f l q) (S.2.1 3 2) k 0 none
theorem sWd_lt {S : yS} {k : Nat} {f l q : Int32} {j : Nat} (h : sWd S k f l q = some j) : j < k := by
  have := lbS_lt k 0 none (fun j hj => by cases hj) j h
  omega
theorem e_latest {N k6 : Nat} {Sc Sm : yS} (h : RW k6 Sc Sm) (hN : 120 < N) (f l q : Int32) : f_X9_latest N Sc f l q = some (encN (sWd Sc k6 f l q)) := by
  obtain ⟨h1, h2, -, -, -⟩ := h
  refine lb_loop (F := fun n b i => f_X9_latest_6 n N Sc f l q b i) (enc := encN) (P := wdP Sc f l q) (V := Sc.2.1 3 2) (K := k6) ?_ ?_ k6 0 N none (by omega) (by omega) (fun j hj => by cases hj)
  · intro n b _
    show f_X9_latest_6 (n + 1) N Sc f l q _ _ = _
    rw [f_X9_latest_6]
    rw [if_pos ((nn_le h1 (nn_lit k6 (by omega))).mpr (by omega))]
  · intro n i b hi hb
    show f_X9_latest_6 (n + 1) N Sc f l q _ _ = f_X9_latest_6 n N Sc f l q _ _
    have hni := nn_lit i (by omega)
    have h120 : i < 120 := by omega
    rw [f_X9_latest_6]
    rw [if_neg (fun h => by have := (nn_le h1 hni).mp h; omega)]
    have key : ∀ t, t = (if Sc.2.1 3 6 i = f then Sc.2.1 3 7 i else Sc.2.1 3 8 i) → f_X9_latest_43 N (fun S l1 l2 l3 l4 l5 => f_X9_latest_6 n N S l1 l2 l3 l4 l5) Sc f l q (encN b) (Int32.ofNat i) t = f_X9_latest_6 n N Sc f l q (encN (lbN (wdP Sc f l q) (Sc.2.1 3 2) i b)) (Int32.ofNat (i + 1)) := by
      intro t ht
      simp only [f_X9_latest_43, f_X9_latest_89, f_X9_latest_85, gA_nn hni h120, y_int1]
      by_cases hA : Sc.2.1 3 5 i = l
      · rw [if_neg (fun h => h hA)]
        by_cases hB : q < t
        · have hp : wdP Sc f l q i = false := by
            have : ¬ t ≤ q := Int32.not_le.mpr hB
            rw [ht] at this
            simp [wdP, this]
          rw [if_pos hB]
          cases b <;> simp [lbN, hp]
        · have hp : wdP Sc f l q i = true := by
            have := Int32.not_lt.mp hB
            rw [ht] at this
            simp [wdP, this, hA]
          rw [if_neg hB]
          cases b with
          | none => simp only [encN, if_true, lbN, hp]
          | some j =>
            have hj := hb j rfl
            rw [if_neg (encN_ne j (by omega))]
            simp only [encN, gA_nn (nn_lit j (by omega)) (show j < 120 by omega), lbN, hp, true_and]
            by_cases hC : Sc.2.1 3 2 i < Sc.2.1 3 2 j
            · rw [if_pos hC, if_neg (Int32.not_le.mpr hC)]
            · rw [if_neg hC, if_pos (Int32.not_lt.mp hC)]
      · have hp : wdP Sc f l q i = false := by simp [wdP, hA]
        rw [if_pos hA]
        cases b <;> simp [lbN, hp]
    rw [gA_nn hni h120]
    by_cases hF : Sc.2.1 3 6 i = f
    · rw [if_neg (fun h => h hF), gA_nn hni h120]
      exact key _ (by rw [if_pos hF])
    · rw [if_pos hF, gA_nn hni h120]
      exact key _ (by rw [if_neg hF])
def encW : Option Nat → Int32
  | none => -1
  | some j => Int32.ofNat (1465 + 7 * j)
theorem em_wordAt {N k6 : Nat} {Sc Sm : yS} (h : RW k6 Sc Sm) (hN : 120 < N) (f l q : Int32) : f_X12_wordAt N Sm f l q = some (encW (sWd Sc k6 f l q)) := by
  obtain ⟨h1, h2, h3, -, h4⟩ := h
  have h1' : nn (Sm.2.1 8 48 2) k6 := by rw [h3]; exact h1
  have n2 := nn_l 2 (by decide)
  refine lb_loop (F := fun n b i => f_X12_wordAt_6 n N Sm f l q b i) (enc := encW) (P := wdP Sc f l q) (V := Sc.2.1 3 2) (K := k6) ?_ ?_ k6 0 N none (by omega) (by omega) (fun j hj => by cases hj)
  · intro n b _
    show f_X12_wordAt_6 (n + 1) N Sm f l q _ _ = _
    rw [f_X12_wordAt_6]
    rw [gA_nn n2 (by decide), if_pos ((nn_le h1' (nn_lit k6 (by omega))).mpr (by omega))]
  · intro n i b hi hb
    show f_X12_wordAt_6 (n + 1) N Sm f l q _ _ = f_X12_wordAt_6 n N Sm f l q _ _
    have hni := nn_lit i (by omega)
    obtain ⟨w0, w1, -, -, w4, w5, w6⟩ := h4 i hi
    have hb7 := nn_add (nn_l 1465 (by decide)) (nn_mul (nn_l 7 (by decide)) hni (by omega)) (by omega)
    have a0 := nn_add hb7 (nn_l 0 (by decide)) (by omega)
    have a1 := nn_add hb7 (nn_l 1 (by decide)) (by omega)
    have a4 := nn_add hb7 (nn_l 4 (by decide)) (by omega)
    have a5 := nn_add hb7 (nn_l 5 (by decide)) (by omega)
    have a6 := nn_add hb7 (nn_l 6 (by decide)) (by omega)
    have i0 : 1465 + 7 * i + 0 < 2305 := by omega
    have i1 : 1465 + 7 * i + 1 < 2305 := by omega
    have i4 : 1465 + 7 * i + 4 < 2305 := by omega
    have i5 : 1465 + 7 * i + 5 < 2305 := by omega
    have i6 : 1465 + 7 * i + 6 < 2305 := by omega
    rw [show 1466 + 7 * i = 1465 + 7 * i + 1 by omega] at w1
    rw [show 1469 + 7 * i = 1465 + 7 * i + 4 by omega] at w4
    rw [show 1470 + 7 * i = 1465 + 7 * i + 5 by omega] at w5 w6
    rw [show 1471 + 7 * i = 1465 + 7 * i + 6 by omega] at w6
    rw [f_X12_wordAt_6]
    rw [gA_nn n2 (by decide), if_neg (fun h => by have := (nn_le h1' hni).mp h; omega), gA_nn a0 i0, Nat.add_zero, ← w0]
    by_cases hA : Sc.2.1 3 5 i = l
    · rw [if_neg (fun h => h hA), gA_nn a5 i5, gA_nn a4 i4, ← w4]
      have key : ∀ t, Sm.2.1 8 48 (1465 + 7 * i + 5) + t = (if Sc.2.1 3 6 i = f then Sc.2.1 3 7 i else Sc.2.1 3 8 i) → f_X12_wordAt_77 N (fun S l1 l2 l3 l4 l5 => f_X12_wordAt_6 n N S l1 l2 l3 l4 l5) Sm f l q (encW b) (Int32.ofNat i) (1465 + 7 * Int32.ofNat i) (Sm.2.1 8 48 (1465 + 7 * i + 5)) t = f_X12_wordAt_6 n N Sm f l q (encW (lbN (wdP Sc f l q) (Sc.2.1 3 2) i b)) (Int32.ofNat (i + 1)) := by
        intro t ht
        simp only [f_X12_wordAt_77, f_X12_wordAt_112, f_X12_wordAt_116, gA_nn a1 i1, y_int1, ht]
        by_cases hB : (if Sc.2.1 3 6 i = f then Sc.2.1 3 7 i else Sc.2.1 3 8 i) ≤ q
        · have hp : wdP Sc f l q i = true := by simp [wdP, hB, hA]
          rw [if_pos hB]
          cases b with
          | none => simp only [encW, if_true, lbN, hp, hb7.1]
          | some j =>
            have hj := hb j rfl
            have hbj := nn_lit (1465 + 7 * j) (by omega)
            have hne : ¬ encW (some j) = -1 := fun e => hbj.nneg (by rw [show Int32.ofNat (1465 + 7 * j) = -1 from e]; decide)
            rw [if_neg hne]
            have wj := (h4 j (by omega)).2.1
            rw [show 1466 + 7 * j = 1465 + 7 * j + 1 by omega] at wj
            simp only [encW, gA_nn (nn_add hbj (nn_l 1 (by decide)) (by omega)) (show 1465 + 7 * j + 1 < 2305 by omega), lbN, hp, true_and, ← w1, ← wj]
            by_cases hC : Sc.2.1 3 2 i < Sc.2.1 3 2 j
            · rw [if_pos hC, if_neg (Int32.not_le.mpr hC)]
            · rw [if_neg hC, if_pos (Int32.not_lt.mp hC), hb7.1]
        · have hp : wdP Sc f l q i = false := by simp [wdP, hB]
          rw [if_neg hB]
          cases b <;> simp [lbN, hp]
      by_cases hF : Sc.2.1 3 6 i = f
      · rw [if_neg (fun h => h hF)]
        exact key 0 (by rw [if_pos hF, w5]; exact Int32.add_zero _)
      · rw [if_pos hF, gA_nn a6 i6]
        exact key _ (by rw [if_neg hF, w6])
    · have hp : wdP Sc f l q i = false := by simp [wdP, hA]
      rw [if_pos hA]
      simp only [f_X12_wordAt_116, y_int1]
      cases b <;> simp [lbN, hp]
