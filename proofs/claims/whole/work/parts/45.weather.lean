theorem yA_1 (S : yS) (o k : Nat) (f : Nat → Int32) : (yA S o k f).1 = S.1 := rfl
theorem yA_3 (S : yS) (o k : Nat) (f : Nat → Int32) : (yA S o k f).2.2 = S.2.2 := rfl
theorem yI_2 (S : yS) (o k : Nat) (v : Int32) : (yI S o k v).2 = S.2 := rfl
theorem yI_1s (S : yS) (o k : Nat) (v : Int32) : (yI S o k v).1 o k = v := by simp [yI]
theorem yI_1n (S : yS) {o k o' k' : Nat} (v : Int32) (h : ¬ (o' = o ∧ k' = k)) : (yI S o k v).1 o' k' = S.1 o' k' := by simp [yI, h]
theorem yA_2n (S : yS) {o k o' k' : Nat} (f : Nat → Int32) (h : ¬ (o' = o ∧ k' = k)) : (yA S o k f).2.1 o' k' = S.2.1 o' k' := by simp [yA, h]
theorem b01_t {c : Prop} [Decidable c] (h : c) : b01 c = 1 := if_pos h
theorem b01_f {c : Prop} [Decidable c] (h : ¬ c) : b01 c = 0 := if_neg h
theorem i10 : ¬ (1 : Int32) = 0 := by decide
theorem e_isWeather (N : Nat) (S : yS) (c w : Int32) : f_X11_isWeather N S c w = some (b01 ((0 ≤ c ∧ c ≤ 200) ∧ (-9 ≤ w ∧ w ≤ 9))) := by
  simp only [f_X11_isWeather, f_X11_isWeather_0, f_X11_isWeather_26, f_X11_isWeather_27, e_within, bV_s]
  by_cases h1 : 0 ≤ c ∧ c ≤ 200
  · by_cases h2 : -9 ≤ w ∧ w ≤ 9
    · simp only [b01_t h1, b01_t h2, b01_t (And.intro h1 h2), i10, if_false]
      rfl
    · simp only [b01_t h1, b01_f h2, b01_f (fun q : (0 ≤ c ∧ c ≤ 200) ∧ (-9 ≤ w ∧ w ≤ 9) => h2 q.2), i10, if_false, if_true]
      rfl
  · simp only [b01_f h1, b01_f (fun q : (0 ≤ c ∧ c ≤ 200) ∧ (-9 ≤ w ∧ w ≤ 9) => h1 q.1), if_true]
    rfl
def okWea (nl k7 : Nat) (n : Int32) (l q c w : Int32) : Prop := (0 ≤ l ∧ l ≤ n - 1) ∧ (0 ≤ q ∧ q ≤ 3000) ∧ (0 ≤ c ∧ c ≤ 200) ∧ (-9 ≤ w ∧ w ≤ 9) ∧ k7 < 60
def cWea (S : yS) (k : Nat) (l q c w : Int32) : yS := yI (yA (yA (yA (yA S 1 8 (upd (S.2.1 1 8) k l)) 1 9 (upd (S.2.1 1 9) k q)) 1 10 (upd (S.2.1 1 10) k c)) 1 11 (upd (S.2.1 1 11) k w)) 1 6 (Int32.ofNat (k + 1))
def mWea (S : yS) (k : Nat) (l q c w : Int32) : yS := yI (yA (yA (yA (yA (yI S 8 47 0) 8 11 (upd (S.2.1 8 11) k l)) 8 12 (upd (S.2.1 8 12) k q)) 8 13 (upd (S.2.1 8 13) k c)) 8 14 (upd (S.2.1 8 14) k w)) 8 15 (Int32.ofNat (k + 1))
theorem e_weather {N k7 : Nat} {Sc Sm : yS} (h : RT k7 Sc Sm) (l q c w : Int32) : (okWea 0 k7 (Sc.1 1 5) l q c w → f_X11_weather N Sc l q c w = some (Int32.ofNat (k7 + 1), cWea Sc k7 l q c w)) ∧ (¬ okWea 0 k7 (Sc.1 1 5) l q c w → f_X11_weather N Sc l q c w = some (-1, Sc)) := by
  obtain ⟨h1, h2, h3, h4⟩ := h
  have e : Sc.1 1 6 + 1 = Int32.ofNat (k7 + 1) := by rw [h1.1]; exact y_int1
  have e60 := nn_lt h1 (nn_l 60 (by decide))
  simp only [f_X11_weather, f_X11_weather_0, f_X11_weather_36, e_isLeg, e_isQuarter, e_isWeather, bV_s]
  constructor
  · intro ⟨a1, a2, a3, a4, a5⟩
    simp only [b01_t a1, b01_t a2, b01_t (And.intro a3 a4), i10, if_false, if_pos (e60.mpr a5), f_X2_tell, f_X2_tell_0]
    simp only [gA_nn h1 a5, sq_s, bS_s, yA_1, yA_2n, yI_1s, not_false_eq_true, e, cWea, Nat.reduceEqDiff, and_false, and_true]
  · intro hn
    by_cases a1 : 0 ≤ l ∧ l ≤ Sc.1 1 5 - 1
    · by_cases a2 : 0 ≤ q ∧ q ≤ 3000
      · by_cases a3 : (0 ≤ c ∧ c ≤ 200) ∧ (-9 ≤ w ∧ w ≤ 9)
        · have a5 : ¬ k7 < 60 := fun a5 => hn ⟨a1, a2, a3.1, a3.2, a5⟩
          simp only [b01_t a1, b01_t a2, b01_t a3, i10, if_false, if_neg (fun z => a5 (e60.mp z))]
        · simp only [b01_t a1, b01_t a2, b01_f a3, i10, if_false, if_true]
      · simp only [b01_t a1, b01_f a2, i10, if_false, if_true]
    · simp only [b01_f a1, if_true]
theorem em_weather {N k7 : Nat} {Sc Sm : yS} (h : RT k7 Sc Sm) (hg : Sm.1 8 9 = Sc.1 1 5) (l q c w : Int32) : (okWea 0 k7 (Sc.1 1 5) l q c w → f_X12_weather N Sm l q c w = some (Int32.ofNat (k7 + 1), mWea Sm k7 l q c w)) ∧ (¬ okWea 0 k7 (Sc.1 1 5) l q c w → f_X12_weather N Sm l q c w = some (-1, yI Sm 8 47 0)) := by
  obtain ⟨h1, h2, h3, h4⟩ := h
  have h1' : nn (Sm.1 8 15) k7 := by rw [h3]; exact h1
  have e : Sm.1 8 15 + 1 = Int32.ofNat (k7 + 1) := by rw [h1'.1]; exact y_int1
  have e60 := nn_eq h1' (nn_l 60 (by decide))
  have g : (yI Sm 8 47 0).1 8 15 = Sm.1 8 15 := rfl
  have g9 : (yI Sm 8 47 0).1 8 9 = Sc.1 1 5 := hg
  simp only [f_X12_weather, f_X12_weather_0, f_X12_weather_56, em_isLeg, e_in, bV_s, sq_s, g, g9]
  constructor
  · intro ⟨a1, a2, a3, a4, a5⟩
    have a6 : ¬ Sm.1 8 15 = 60 := fun z => by have := e60.mp z; omega
    simp only [b01_t a1, b01_t a2, b01_t a3, b01_t a4, i10, if_false, a6, not_false_eq_true, if_true]
    simp only [gA_nn h1' a5, sq_s, bS_s, yA_1, yA_2n, yI_1s, yI_2, g, not_false_eq_true, e, mWea, Nat.reduceEqDiff, and_false, and_true]
  · intro hn
    by_cases a1 : 0 ≤ l ∧ l ≤ Sc.1 1 5 - 1
    · by_cases a2 : 0 ≤ q ∧ q ≤ 3000
      · by_cases a3 : 0 ≤ c ∧ c ≤ 200
        · by_cases a4 : -9 ≤ w ∧ w ≤ 9
          · have a5 : k7 = 60 := by
              have : ¬ k7 < 60 := fun a5 => hn ⟨a1, a2, a3, a4, a5⟩
              omega
            simp only [b01_t a1, b01_t a2, b01_t a3, b01_t a4, i10, if_false, e60.mpr a5, not_true_eq_false]
          · simp only [b01_t a1, b01_t a2, b01_t a3, b01_f a4, i10, if_false, if_true]
        · simp only [b01_t a1, b01_t a2, b01_f a3, i10, if_false, if_true]
      · simp only [b01_t a1, b01_f a2, i10, if_false, if_true]
    · simp only [b01_f a1, if_true]
theorem RT_weather {k7 : Nat} {Sc Sm : yS} (h : RT k7 Sc Sm) (h60 : k7 < 60) (l q c w : Int32) : RT (k7 + 1) (cWea Sc k7 l q c w) (mWea Sm k7 l q c w) := by
  obtain ⟨h1, h2, h3, h4⟩ := h
  refine ⟨nn_lit (k7 + 1) (by omega), by omega, rfl, fun i hi => ?_⟩
  obtain ⟨g1, g2, g3, g4⟩ := h4 i hi
  show upd (Sc.2.1 1 8) k7 l i = upd (Sm.2.1 8 11) k7 l i ∧ upd (Sc.2.1 1 9) k7 q i = upd (Sm.2.1 8 12) k7 q i ∧ upd (Sc.2.1 1 10) k7 c i = upd (Sm.2.1 8 13) k7 c i ∧ upd (Sc.2.1 1 11) k7 w i = upd (Sm.2.1 8 14) k7 w i
  unfold upd
  split
  · exact ⟨rfl, rfl, rfl, rfl⟩
  · exact ⟨g1, g2, g3, g4⟩
