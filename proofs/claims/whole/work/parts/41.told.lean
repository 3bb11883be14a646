/-! WEATHER TOLD: both loops are one -/
def tlS (A B : Nat → Int32) (l q : Int32) : Nat → Nat → Int32 → Int32
  | 0, _, best => best
  | m + 1, i, best => tlS A B l q m (i + 1) (if A i = l ∧ B i ≤ q ∧ (best = -1 ∨ B best.toNatClampNeg ≤ B i) then Int32.ofNat i else best)
theorem tlS_congr {A B A' B' : Nat → Int32} {l q : Int32} : ∀ (m i : Nat) (best : Int32), i + m ≤ 1000 → (∀ x, x < i + m → A x = A' x ∧ B x = B' x) → (best = -1 ∨ ∃ j, nn best j ∧ j < i) → tlS A B l q m i best = tlS A' B' l q m i best
  | 0, _, _, _, _, _ => rfl
  | m + 1, i, best, hm, h, hb => by
    unfold tlS
    have h1 := h i (by omega)
    have h2 : (best = -1 ∨ B best.toNatClampNeg ≤ B i) ↔ (best = -1 ∨ B' best.toNatClampNeg ≤ B' i) := by
      rcases hb with hb | ⟨j, hj, hji⟩
      · simp [hb]
      · rw [hj.nat, (h j (by omega)).2, h1.2]
    simp only [h1.1, h1.2] at h2 ⊢
    rw [show (if A' i = l ∧ B' i ≤ q ∧ (best = -1 ∨ B best.toNatClampNeg ≤ B' i) then Int32.ofNat i else best) = (if A' i = l ∧ B' i ≤ q ∧ (best = -1 ∨ B' best.toNatClampNeg ≤ B' i) then Int32.ofNat i else best) by simp only [h2]]
    apply tlS_congr m (i + 1) _ (by omega)
    · intro x hx; exact h x (by omega)
    · split
      · exact Or.inr ⟨i, nn_lit i (by omega), by omega⟩
      · rcases hb with hb | ⟨j, hj, hji⟩
        · exact Or.inl hb
        · exact Or.inr ⟨j, hj, by omega⟩

theorem e_X2_toldFor_loop {N : Nat} {S : yS} {l q : Int32} {K : Nat} (hK : nn (S.1 1 6) K) (hK60 : K ≤ 60) : ∀ (m i n : Nat) (best : Int32), i + m = K → m < n → (best = -1 ∨ ∃ j, nn best j ∧ j < i) → f_X2_toldFor_5 n N S l q best (Int32.ofNat i) = some (tlS (S.2.1 1 8) (S.2.1 1 9) l q m i best) := by
  intro m
  induction m with
  | zero =>
    intro i n best hi hn hb
    obtain ⟨n, rfl⟩ : ∃ n', n = n' + 1 := ⟨n - 1, by omega⟩
    unfold f_X2_toldFor_5
    rw [if_pos ((nn_le hK (nn_lit i (by omega))).mpr (by omega))]
    rfl
  | succ m ih =>
    intro i n best hi hn hb
    obtain ⟨n, rfl⟩ : ∃ n', n = n' + 1 := ⟨n - 1, by omega⟩
    have hni := nn_lit i (by omega)
    have step : ∀ b, (b = -1 ∨ ∃ j, nn b j ∧ j < i + 1) → f_X2_toldFor_5 n N S l q b (Int32.ofNat i + 1) = some (tlS (S.2.1 1 8) (S.2.1 1 9) l q m (i + 1) b) := fun b hb => by
      rw [y_int1]
      exact ih (i + 1) n b (by omega) (by omega) hb
    have hb1 : best = -1 ∨ ∃ j, nn best j ∧ j < i + 1 := hb.imp id (fun ⟨j, h1, h2⟩ => ⟨j, h1, by omega⟩)
    have hi1 : Int32.ofNat i = -1 ∨ ∃ j, nn (Int32.ofNat i) j ∧ j < i + 1 := Or.inr ⟨i, hni, by omega⟩
    unfold f_X2_toldFor_5
    rw [if_neg (fun h => by have := (nn_le hK hni).mp h; omega), gA_nn hni (by omega)]
    unfold tlS
    by_cases hA : S.2.1 1 8 i = l
    · rw [if_neg (fun h => h hA), gA_nn hni (by omega)]
      by_cases hB : q < S.2.1 1 9 i
      · rw [if_pos hB, if_neg (fun h => absurd h.2.1 (Int32.not_le.mpr hB))]
        simp only [f_X2_toldFor_40, f_X2_toldFor_41, f_X2_toldFor_72, f_X2_toldFor_69, if_true]
        exact step best hb1
      · rw [if_neg hB]
        have hB2 := Int32.not_lt.mp hB
        rcases hb with hb | ⟨j, hj, hji⟩
        · rw [show (if S.2.1 1 8 i = l ∧ S.2.1 1 9 i ≤ q ∧ (best = -1 ∨ S.2.1 1 9 best.toNatClampNeg ≤ S.2.1 1 9 i) then Int32.ofNat i else best) = Int32.ofNat i from if_pos ⟨hA, hB2, Or.inl hb⟩]
          simp only [f_X2_toldFor_40, f_X2_toldFor_41, f_X2_toldFor_72, f_X2_toldFor_69, hb, if_true, show ¬ (1 : Int32) = 0 by decide, if_false]
          exact step _ hi1
        · have hne : ¬ best = -1 := fun e => hj.nneg (by rw [e]; decide)
          simp only [f_X2_toldFor_40, f_X2_toldFor_41, f_X2_toldFor_72, f_X2_toldFor_69, hne, show ¬ (1 : Int32) = 0 by decide, if_false, gA_nn hni (show i < 60 by omega), gA_nn hj (show j < 60 by omega), hA, hB2, hj.nat, true_and, false_or]
          by_cases hC : S.2.1 1 9 i < S.2.1 1 9 j
          · rw [if_pos hC, if_neg (Int32.not_le.mpr hC)]
            exact step best hb1
          · rw [if_neg hC, if_pos (Int32.not_lt.mp hC)]
            exact step _ hi1
    · rw [if_pos hA, if_neg (fun h => hA h.1)]
      simp only [f_X2_toldFor_40, f_X2_toldFor_41, f_X2_toldFor_72, f_X2_toldFor_69, if_true]
      exact step best hb1

theorem e_X12_sky_loop {N : Nat} {S : yS} {l q : Int32} {K : Nat} (hK : nn (S.1 8 15) K) (hK60 : K ≤ 60) : ∀ (m i n : Nat) (best : Int32), i + m = K → m < n → (best = -1 ∨ ∃ j, nn best j ∧ j < i) → f_X12_sky_5 n N S l q best (Int32.ofNat i) = some (tlS (S.2.1 8 11) (S.2.1 8 12) l q m i best) := by
  intro m
  induction m with
  | zero =>
    intro i n best hi hn hb
    obtain ⟨n, rfl⟩ : ∃ n', n = n' + 1 := ⟨n - 1, by omega⟩
    unfold f_X12_sky_5
    rw [if_pos ((nn_le hK (nn_lit i (by omega))).mpr (by omega))]
    rfl
  | succ m ih =>
    intro i n best hi hn hb
    obtain ⟨n, rfl⟩ : ∃ n', n = n' + 1 := ⟨n - 1, by omega⟩
    have hni := nn_lit i (by omega)
    have step : ∀ b, (b = -1 ∨ ∃ j, nn b j ∧ j < i + 1) → f_X12_sky_5 n N S l q b (Int32.ofNat i + 1) = some (tlS (S.2.1 8 11) (S.2.1 8 12) l q m (i + 1) b) := fun b hb => by
      rw [y_int1]
      exact ih (i + 1) n b (by omega) (by omega) hb
    have hb1 : best = -1 ∨ ∃ j, nn best j ∧ j < i + 1 := hb.imp id (fun ⟨j, h1, h2⟩ => ⟨j, h1, by omega⟩)
    have hi1 : Int32.ofNat i = -1 ∨ ∃ j, nn (Int32.ofNat i) j ∧ j < i + 1 := Or.inr ⟨i, hni, by omega⟩
    unfold f_X12_sky_5
    rw [if_neg (fun h => by have := (nn_le hK hni).mp h; omega), gA_nn hni (by omega)]
    unfold tlS
    by_cases hA : S.2.1 8 11 i = l
    · rw [if_neg (fun h => h hA), gA_nn hni (by omega)]
      by_cases hB : q < S.2.1 8 12 i
      · rw [if_pos hB, if_neg (fun h => absurd h.2.1 (Int32.not_le.mpr hB))]
        simp only [f_X12_sky_60, f_X12_sky_57, if_true]
        exact step best hb1
      · rw [if_neg hB]
        have hB2 := Int32.not_lt.mp hB
        rcases hb with hb | ⟨j, hj, hji⟩
        · rw [show (if S.2.1 8 11 i = l ∧ S.2.1 8 12 i ≤ q ∧ (best = -1 ∨ S.2.1 8 12 best.toNatClampNeg ≤ S.2.1 8 12 i) then Int32.ofNat i else best) = Int32.ofNat i from if_pos ⟨hA, hB2, Or.inl hb⟩]
          simp only [f_X12_sky_60, f_X12_sky_57, hb, if_true, show ¬ (1 : Int32) = 0 by decide, if_false]
          exact step _ hi1
        · have hne : ¬ best = -1 := fun e => hj.nneg (by rw [e]; decide)
          simp only [f_X12_sky_60, f_X12_sky_57, hne, show ¬ (1 : Int32) = 0 by decide, if_false, gA_nn hni (show i < 60 by omega), gA_nn hj (show j < 60 by omega), hA, hB2, hj.nat, true_and, false_or]
          by_cases hC : S.2.1 8 12 i < S.2.1 8 12 j
          · rw [if_pos hC, if_neg (Int32.not_le.mpr hC)]
            exact step best hb1
          · rw [if_neg hC, if_pos (Int32.not_lt.mp hC)]
            exact step _ hi1
    · rw [if_pos hA, if_neg (fun h => hA h.1)]
      simp only [f_X12_sky_60, f_X12_sky_57, if_true]
      exact step best hb1

def RT (k7 : Nat) (Sc Sm : yS) : Prop := nn (Sc.1 1 6) k7 ∧ k7 ≤ 60 ∧ Sm.1 8 15 = Sc.1 1 6 ∧ ∀ i, i < 60 → Sc.2.1 1 8 i = Sm.2.1 8 11 i ∧ Sc.2.1 1 9 i = Sm.2.1 8 12 i ∧ Sc.2.1 1 10 i = Sm.2.1 8 13 i ∧ Sc.2.1 1 11 i = Sm.2.1 8 14 i
def sTl (S : yS) (k : Nat) (l q : Int32) : Int32 := tlS (S.2.1 1 8) (S.2.1 1 9) l q k 0 (-1)
theorem tlS_r {A B : Nat → Int32} {l q : Int32} : ∀ (m i : Nat) (best : Int32), i + m ≤ 1000 → (best = -1 ∨ ∃ j, nn best j ∧ j < i) → tlS A B l q m i best = -1 ∨ ∃ j, nn (tlS A B l q m i best) j ∧ j < i + m
  | 0, _, _, _, h => h
  | m + 1, i, best, hm, h => by
    unfold tlS
    rw [show i + (m + 1) = i + 1 + m by omega]
    apply tlS_r m (i + 1) _ (by omega)
    split
    · exact Or.inr ⟨i, nn_lit i (by omega), by omega⟩
    · exact h.imp id (fun ⟨j, h1, h2⟩ => ⟨j, h1, by omega⟩)
theorem e_toldFor {N k7 : Nat} {Sc Sm : yS} (h : RT k7 Sc Sm) (hN : 60 < N) (l q : Int32) : f_X2_toldFor N Sc l q = some (sTl Sc k7 l q) := by
  obtain ⟨h1, h2, h3, h4⟩ := h
  exact e_X2_toldFor_loop h1 h2 k7 0 N (-1) (by omega) (by omega) (Or.inl rfl)
theorem em_sky {N k7 : Nat} {Sc Sm : yS} (h : RT k7 Sc Sm) (hN : 60 < N) (l q : Int32) : f_X12_sky N Sm l q = some (sTl Sc k7 l q) := by
  obtain ⟨h1, h2, h3, h4⟩ := h
  have h5 := e_X12_sky_loop (N := N) (S := Sm) (l := l) (q := q) (K := k7) (by rw [h3]; exact h1) h2 k7 0 N (-1) (by omega) (by omega) (Or.inl rfl)
  unfold sTl
  rw [tlS_congr (A' := Sm.2.1 8 11) (B' := Sm.2.1 8 12) k7 0 (-1) (by omega) (fun x hx => ⟨(h4 x (by omega)).1, (h4 x (by omega)).2.1⟩) (Or.inl rfl)]
  exact h5
/-- cloud and wind of a leg at a quarter -/
def sCl (S : yS) (k : Nat) (l q : Int32) : Int32 := if sTl S k l q = -1 then 200 else S.2.1 1 10 (sTl S k l q).toNatClampNeg
def sWi (S : yS) (k : Nat) (l q : Int32) : Int32 := if sTl S k l q = -1 then 0 else S.2.1 1 11 (sTl S k l q).toNatClampNeg
theorem sTl_r (S : yS) {k : Nat} (hk : k ≤ 60) (l q : Int32) : sTl S k l q = -1 ∨ ∃ j, nn (sTl S k l q) j ∧ j < k := by
  have := tlS_r (A := S.2.1 1 8) (B := S.2.1 1 9) (l := l) (q := q) k 0 (-1) (by omega) (Or.inl rfl)
  rw [Nat.zero_add] at this
  exact this
theorem e_cloudAt {N k7 : Nat} {Sc Sm : yS} (h : RT k7 Sc Sm) (hN : 60 < N) (l q : Int32) : f_X2_cloudAt N Sc l q = some (sCl Sc k7 l q) := by
  simp only [f_X2_cloudAt, f_X2_cloudAt_0, e_toldFor h hN, bV_s, sCl, f_X2_cloudAt_24]
  rcases sTl_r Sc h.2.1 l q with e | ⟨j, hj, hjk⟩
  · rw [e]; rfl
  · have hne : ¬ sTl Sc k7 l q = -1 := fun e => hj.nneg (by rw [e]; decide)
    simp only [hne, not_false_eq_true, if_true, if_false, gA_nn hj (show j < 60 by have := h.2.1; omega), hj.nat]
theorem e_windAt {N k7 : Nat} {Sc Sm : yS} (h : RT k7 Sc Sm) (hN : 60 < N) (l q : Int32) : f_X2_windAt N Sc l q = some (sWi Sc k7 l q) := by
  simp only [f_X2_windAt, f_X2_windAt_0, e_toldFor h hN, bV_s, sWi, f_X2_windAt_22]
  rcases sTl_r Sc h.2.1 l q with e | ⟨j, hj, hjk⟩
  · rw [e]; rfl
  · have hne : ¬ sTl Sc k7 l q = -1 := fun e => hj.nneg (by rw [e]; decide)
    simp only [hne, not_false_eq_true, if_true, if_false, gA_nn hj (show j < 60 by have := h.2.1; omega), hj.nat]
theorem em_cloud {N k7 : Nat} {Sc Sm : yS} (h : RT k7 Sc Sm) (hN : 60 < N) (l q : Int32) : f_X12_cloud N Sm l q = some (sCl Sc k7 l q) := by
  simp only [f_X12_cloud, f_X12_cloud_0, em_sky h hN, bV_s, sCl, f_X12_cloud_24]
  rcases sTl_r Sc h.2.1 l q with e | ⟨j, hj, hjk⟩
  · rw [e]; rfl
  · have hne : ¬ sTl Sc k7 l q = -1 := fun e => hj.nneg (by rw [e]; decide)
    simp only [hne, not_false_eq_true, if_true, if_false, gA_nn hj (show j < 60 by have := h.2.1; omega), hj.nat, (h.2.2.2 j (by have := h.2.1; omega)).2.2.1]
    first | rfl | skip
theorem em_wind {N k7 : Nat} {Sc Sm : yS} (h : RT k7 Sc Sm) (hN : 60 < N) (l q : Int32) : f_X12_wind N Sm l q = some (sWi Sc k7 l q) := by
  simp only [f_X12_wind, f_X12_wind_0, em_sky h hN, bV_s, sWi]
  rcases sTl_r Sc h.2.1 l q with e | ⟨j, hj, hjk⟩
  · rw [e]; rfl
  · have hne : ¬ sTl Sc k7 l q = -1 := fun e => hj.nneg (by rw [e]; decide)
    simp only [hne, not_false_eq_true, if_true, if_false, gA_nn hj (show j < 60 by have := h.2.1; omega), hj.nat, (h.2.2.2 j (by have := h.2.1; omega)).2.2.2]
    first | rfl | skip
