theorem sky_both {N k7 : Nat} {Sc Sm : yS} (h : RT k7 Sc Sm) (hg : Sm.1 8 9 = Sc.1 1 5) (hN : 60 < N) (l q w : Int32) : (∃ v, f_X11_sky N Sc l q w = some (some v, Sc) ∧ f_X12_sky2 N Sm l q w = some (v, yI Sm 8 47 0)) ∨ (f_X11_sky N Sc l q w = some (none, Sc) ∧ f_X12_sky2 N Sm l q w = some (0, yI (yI Sm 8 47 0) 8 47 1)) := by
  have h' : RT k7 Sc (yI Sm 8 47 0) := RT_congr h rfl rfl rfl rfl rfl rfl rfl rfl rfl rfl
  have g9 : (yI Sm 8 47 0).1 8 9 = Sc.1 1 5 := hg
  simp only [f_X11_sky, f_X11_sky_0, f_X11_sky_24, f_X11_sky_59, f_X12_sky2, f_X12_sky2_0, f_X12_sky2_33, f_X12_sky2_57, f_X12_lost, f_X12_lost_0, e_isLeg, em_isLeg, e_isQuarter, e_within, e_in, e_cloudAt h hN, e_windAt h hN, em_cloud h' hN, em_wind h' hN, bV_s, bS_s, sq_s, g9]
  by_cases a1 : 0 ≤ l ∧ l ≤ Sc.1 1 5 - 1
  · by_cases a2 : 0 ≤ q ∧ q ≤ 3000
    · by_cases a3 : 0 ≤ w ∧ w ≤ 1
      · by_cases a4 : w = 0
        · simp only [b01_t a1, b01_t a2, b01_t a3, a4, i10, if_false, not_true_eq_false, not_false_eq_true, if_true]
          exact Or.inl ⟨_, rfl, rfl⟩
        · simp only [b01_t a1, b01_t a2, b01_t a3, a4, i10, if_false, not_false_eq_true, if_true]
          exact Or.inl ⟨_, rfl, rfl⟩
      · simp only [b01_t a1, b01_t a2, b01_f a3, i10, if_false, not_true_eq_false, if_true]
        first | exact Or.inr ⟨trivial, trivial⟩ | exact Or.inr ⟨trivial, rfl⟩ | simp
    · simp only [b01_t a1, b01_f a2, i10, if_false, if_true]
      first | exact Or.inr ⟨trivial, trivial⟩ | exact Or.inr ⟨trivial, rfl⟩ | simp
  · simp only [b01_f a1, if_true]
    first | exact Or.inr ⟨trivial, trivial⟩ | exact Or.inr ⟨trivial, rfl⟩ | simp
/-! WORD -/
def cWord (S : yS) (k : Nat) (fi now le se cl wi : Int32) : yS := yI (yA (yA (yA (yA (yA (yA (yA S 3 6 (upd (S.2.1 3 6) k fi)) 3 7 (upd (S.2.1 3 7) k now)) 3 8 (upd (S.2.1 3 8) k (now + S.1 3 0))) 3 5 (upd (S.2.1 3 5) k le)) 3 2 (upd (S.2.1 3 2) k se)) 3 3 (upd (S.2.1 3 3) k cl)) 3 4 (upd (S.2.1 3 4) k wi)) 3 1 (Int32.ofNat (k + 1))
theorem e_come {N k : Nat} {S : yS} (h : nn (S.1 3 1) k) (hk : k < 120) (fi now le se cl wi : Int32) : f_X9_come N S fi now le se cl wi = some (0, cWord S k fi now le se cl wi) := by
  have e : S.1 3 1 + 1 = Int32.ofNat (k + 1) := by rw [h.1]; exact y_int1
  simp only [f_X9_come, f_X9_come_0, if_pos ((nn_lt h (nn_l 120 (by decide))).mpr hk), gA_nn h hk, sq_s, yA_1, e, cWord, yA_2n, Nat.reduceEqDiff, and_false, not_false_eq_true]
def mWordA (A : Nat → Int32) (k : Nat) (fi now le se cl wi lag : Int32) : Nat → Int32 := upd (upd (upd (upd (upd (upd (upd (upd A (1465 + 7 * k + 0) le) (1465 + 7 * k + 1) se) (1465 + 7 * k + 2) cl) (1465 + 7 * k + 3) wi) (1465 + 7 * k + 4) fi) (1465 + 7 * k + 5) now) (1465 + 7 * k + 6) lag) 2 (Int32.ofNat (k + 1))
theorem em_say {N k : Nat} {S : yS} (h : nn (S.2.1 8 48 2) k) (hk : k < 120) (fi le se cl wi : Int32) : f_X12_say N S fi le se cl wi = some (0, yA S 8 48 (mWordA (S.2.1 8 48) k fi (S.2.1 8 48 0) le se cl wi (S.1 8 34))) := by
  have e : S.2.1 8 48 2 + 1 = Int32.ofNat (k + 1) := by rw [h.1]; exact y_int1
  have hb := nn_add (nn_l 1465 (by decide)) (nn_mul (nn_l 7 (by decide)) h (by omega)) (by omega)
  have i0 := nn_add hb (nn_l 0 (by decide)) (by omega)
  have i1 := nn_add hb (nn_l 1 (by decide)) (by omega)
  have i2 := nn_add hb (nn_l 2 (by decide)) (by omega)
  have i3 := nn_add hb (nn_l 3 (by decide)) (by omega)
  have i4 := nn_add hb (nn_l 4 (by decide)) (by omega)
  have i5 := nn_add hb (nn_l 5 (by decide)) (by omega)
  have i6 := nn_add hb (nn_l 6 (by decide)) (by omega)
  have o0 : ∀ (A : Nat → Int32) (j : Nat) (x : Int32), upd A (1465 + 7 * k + j) x 0 = A 0 := fun A j x => upd_o _ _ (by omega)
  have o2 : ∀ (A : Nat → Int32) (j : Nat) (x : Int32), upd A (1465 + 7 * k + j) x 2 = A 2 := fun A j x => upd_o _ _ (by omega)
  have n2 : ¬ S.2.1 8 48 2 = 120 := fun z => by have := (nn_eq h (nn_l 120 (by decide))).mp z; omega
  simp only [f_X12_say, f_X12_say_0, gA_nn (nn_l 2 (by decide)) (show 2 < 2305 by decide), gA_nn (nn_l 0 (by decide)) (show 0 < 2305 by decide), n2, not_false_eq_true, if_true, gA_nn i0 (show 1465 + 7 * k + 0 < 2305 by omega), gA_nn i1 (show 1465 + 7 * k + 1 < 2305 by omega), gA_nn i2 (show 1465 + 7 * k + 2 < 2305 by omega), gA_nn i3 (show 1465 + 7 * k + 3 < 2305 by omega), gA_nn i4 (show 1465 + 7 * k + 4 < 2305 by omega), gA_nn i5 (show 1465 + 7 * k + 5 < 2305 by omega), gA_nn i6 (show 1465 + 7 * k + 6 < 2305 by omega), sq_s, yA_yA, yA_same, yA_1, o0, o2, e, mWordA]
def okWord (k : Nat) (nf nl now fi le se cl wi : Int32) : Prop := (0 ≤ fi ∧ fi ≤ nf - 1) ∧ (0 ≤ le ∧ le ≤ nl - 1) ∧ (0 ≤ se ∧ se ≤ now) ∧ (0 ≤ cl ∧ cl ≤ 200) ∧ (-9 ≤ wi ∧ wi ≤ 9) ∧ k < 120
theorem e_word {N k : Nat} {Sc Sm : yS} (h : RW k Sc Sm) (fi le se cl wi : Int32) : (okWord k (Sc.1 1 3) (Sc.1 1 5) (Sc.1 2 13) fi le se cl wi → f_X11_word N Sc fi le se cl wi = some (Int32.ofNat (k + 1), cWord Sc k fi (Sc.1 2 13) le se cl wi)) ∧ (¬ okWord k (Sc.1 1 3) (Sc.1 1 5) (Sc.1 2 13) fi le se cl wi → f_X11_word N Sc fi le se cl wi = some (-1, Sc)) := by
  obtain ⟨h1, h2, h3, h4, h5⟩ := h
  have e120 := nn_lt h1 (nn_l 120 (by decide))
  simp only [f_X11_word, f_X11_word_0, f_X11_word_41, e_isField, e_isLeg, e_within, e_isWeather, bV_s]
  constructor
  · intro ⟨a1, a2, a3, a4, a5, a6⟩
    simp only [b01_t a1, b01_t a2, b01_t a3, b01_t (And.intro a4 a5), i10, if_false, not_false_eq_true, if_true, if_pos (e120.mpr a6), e_come h1 a6, bS_s]
    rfl
  · intro hn
    by_cases a1 : 0 ≤ fi ∧ fi ≤ Sc.1 1 3 - 1
    · by_cases a2 : 0 ≤ le ∧ le ≤ Sc.1 1 5 - 1
      · by_cases a3 : 0 ≤ se ∧ se ≤ Sc.1 2 13
        · by_cases a4 : (0 ≤ cl ∧ cl ≤ 200) ∧ (-9 ≤ wi ∧ wi ≤ 9)
          · have a6 : ¬ k < 120 := fun a6 => hn ⟨a1, a2, a3, a4.1, a4.2, a6⟩
            simp only [b01_t a1, b01_t a2, b01_t a3, b01_t a4, i10, if_false, not_false_eq_true, if_true, if_neg (fun z => a6 (e120.mp z))]
          · simp only [b01_t a1, b01_t a2, b01_t a3, b01_f a4, i10, if_false, not_true_eq_false]
        · simp only [b01_t a1, b01_t a2, b01_f a3, i10, if_false, if_true]
      · simp only [b01_t a1, b01_f a2, i10, if_false, if_true]
    · simp only [b01_f a1, if_true]
theorem em_word {N k : Nat} {Sc Sm : yS} (h : RW k Sc Sm) (hf : Sm.1 8 1 = Sc.1 1 3) (hg : Sm.1 8 9 = Sc.1 1 5) (ht : Sm.2.1 8 48 0 = Sc.1 2 13) (fi le se cl wi : Int32) : (okWord k (Sc.1 1 3) (Sc.1 1 5) (Sc.1 2 13) fi le se cl wi → f_X12_word N Sm fi le se cl wi = some (Int32.ofNat (k + 1), yA (yI Sm 8 47 0) 8 48 (mWordA (Sm.2.1 8 48) k fi (Sc.1 2 13) le se cl wi (Sc.1 3 0)))) ∧ (¬ okWord k (Sc.1 1 3) (Sc.1 1 5) (Sc.1 2 13) fi le se cl wi → f_X12_word N Sm fi le se cl wi = some (-1, yI Sm 8 47 0)) := by
  obtain ⟨h1, h2, h3, h4, h5⟩ := h
  have h1' : nn ((yI Sm 8 47 0).2.1 8 48 2) k := by
    show nn (Sm.2.1 8 48 2) k
    rw [h3]; exact h1
  have e120 := nn_eq h1' (nn_l 120 (by decide))
  have g1 : (yI Sm 8 47 0).1 8 1 = Sc.1 1 3 := hf
  have g9 : (yI Sm 8 47 0).1 8 9 = Sc.1 1 5 := hg
  have g0 : (yI Sm 8 47 0).2.1 8 48 0 = Sc.1 2 13 := ht
  simp only [f_X12_word, f_X12_word_0, f_X12_word_70, em_isField, em_isLeg, e_in, bV_s, sq_s, gA_nn (nn_l 2 (by decide)) (show 2 < 2305 by decide), gA_nn (nn_l 0 (by decide)) (show 0 < 2305 by decide), g1, g9, g0]
  constructor
  · intro ⟨a1, a2, a3, a4, a5, a6⟩
    have a7 : ¬ (yI Sm 8 47 0).2.1 8 48 2 = 120 := fun z => by have := e120.mp z; omega
    simp only [b01_t a1, b01_t a2, b01_t a3, b01_t a4, b01_t a5, i10, if_false, a7, not_false_eq_true, if_true, em_say h1' a6, bS_s]
    rw [g0, show (yI Sm 8 47 0).1 8 34 = Sc.1 3 0 from h4]
    rfl
  · intro hn
    by_cases a1 : 0 ≤ fi ∧ fi ≤ Sc.1 1 3 - 1
    · by_cases a2 : 0 ≤ le ∧ le ≤ Sc.1 1 5 - 1
      · by_cases a3 : 0 ≤ se ∧ se ≤ Sc.1 2 13
        · by_cases a4 : 0 ≤ cl ∧ cl ≤ 200
          · by_cases a5 : -9 ≤ wi ∧ wi ≤ 9
            · have a6 : k = 120 := by
                have : ¬ k < 120 := fun a6 => hn ⟨a1, a2, a3, a4, a5, a6⟩
                omega
              simp only [b01_t a1, b01_t a2, b01_t a3, b01_t a4, b01_t a5, i10, if_false, e120.mpr a6, not_true_eq_false]
            · simp only [b01_t a1, b01_t a2, b01_t a3, b01_t a4, b01_f a5, i10, if_false, if_true]
          · simp only [b01_t a1, b01_t a2, b01_t a3, b01_f a4, i10, if_false, if_true]
        · simp only [b01_t a1, b01_t a2, b01_f a3, i10, if_false, if_true]
      · simp only [b01_t a1, b01_f a2, i10, if_false, if_true]
    · simp only [b01_f a1, if_true]
