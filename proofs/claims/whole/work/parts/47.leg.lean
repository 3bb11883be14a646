theorem yA_self (S : yS) (o k : Nat) : yA S o k (S.2.1 o k) = S := by
  unfold yA
  congr 1
  congr 1
  funext o' k'
  by_cases h : o' = o ∧ k' = k
  · obtain ⟨rfl, rfl⟩ := h; simp
  · simp [h]
theorem upd_id (f : Nat → Int32) (k : Nat) : upd f k (f k) = f := by
  funext j
  unfold upd
  split
  · next h => rw [h]
  · rfl
theorem RC.congr {c : Nat → Nat} {f g : Nat → Int32} {a b : Nat} {D D' : Nat → Nat → Prop} (h : RC c a b D f g) (hD : ∀ x y, x < 8 → y < 8 → D' x y → D x y) : RC c a b D' f g := by
  intro x y hx hy
  obtain ⟨p, q, h1, h2, h3, h4, h5⟩ := h x y hx hy
  exact ⟨p, q, h1, h2, h3, fun e1 e2 => (h4 e1 e2).imp id (fun z => ⟨z.1, z.2.1, fun w => z.2.2 (hD x y hx hy w)⟩), h5⟩
theorem e_miles {N a b : Nat} {S : yS} {x y : Int32} (hx : nn x a) (hy : nn y b) (ha : a < 8) (hb : b < 8) : f_X2_milesBetween N S x y = some (S.2.1 1 7 (8 * a + b)) := by
  simp only [f_X2_milesBetween, f_X2_milesBetween_0]
  rw [gA_nn (nn_add (nn_mul hx (nn_l 8 (by decide)) (by omega)) hy (by omega)) (by omega), Nat.mul_comm]
theorem lg_inner {N : Nat} {c : Nat → Nat} {a b x m0 : Nat} {l1 l2 l3 : Int32} (h1 : nn l1 a) (h2 : nn l2 b) (h3 : nn l3 m0) (ha : a < 8) (hb : b < 8) (hx : x < 8) (hm0 : m0 ≤ 400) (kC kM : yS → Int32 → Int32 → Int32 → Int32 → Option (Int32 × yS)) : ∀ (m j n n' : Nat) (Sc Sm : yS) (D : Nat → Nat → Prop), j + m = 8 → m < n → m < n' → RC c a b D (Sm.2.1 8 10) (Sc.2.1 1 7) → ∃ f g, RC c a b (fun x' y' => D x' y' ∨ (x' = x ∧ j ≤ y')) f g ∧ f_X2_addLeg_34 n N kC Sc l1 l2 l3 (Int32.ofNat x) (Int32.ofNat j) = kC (yA Sc 1 7 g) l1 l2 l3 (Int32.ofNat (x + 1)) ∧ f_X12_leg_135 n' N kM Sm l1 l2 l3 (Int32.ofNat x) (Int32.ofNat j) = kM (yA Sm 8 10 f) l1 l2 l3 (Int32.ofNat (x + 1)) := by
  have hnx := nn_lit x (by omega)
  have n8 := nn_l 8 (by decide)
  intro m
  induction m with
  | zero =>
    intro j n n' Sc Sm D hj hn hn' hR
    obtain ⟨n, rfl⟩ : ∃ z, n = z + 1 := ⟨n - 1, by omega⟩
    obtain ⟨n', rfl⟩ : ∃ z, n' = z + 1 := ⟨n' - 1, by omega⟩
    refine ⟨Sm.2.1 8 10, Sc.2.1 1 7, hR.congr (fun x' y' _ hy w => w.resolve_right (fun q => by omega)), ?_, ?_⟩
    · rw [f_X2_addLeg_34, if_pos ((nn_le n8 (nn_lit j (by omega))).mpr (by omega)), yA_self, y_int1]
    · rw [f_X12_leg_135, if_pos ((nn_le n8 (nn_lit j (by omega))).mpr (by omega)), yA_self, y_int1]
  | succ m ih =>
    intro j n n' Sc Sm D hj hn hn' hR
    obtain ⟨n, rfl⟩ : ∃ z, n = z + 1 := ⟨n - 1, by omega⟩
    obtain ⟨n', rfl⟩ : ∃ z, n' = z + 1 := ⟨n' - 1, by omega⟩
    have hnj := nn_lit j (by omega)
    have hj8 : j < 8 := by omega
    have st := hR.step (D := D) ha hb h3 hm0 hx hj8 rfl rfl
    generalize hF : (if Sm.2.1 8 10 (8 * x + j) ≤ (if Sm.2.1 8 10 (8 * x + b) + Sm.2.1 8 10 (8 * a + j) < Sm.2.1 8 10 (8 * x + a) + Sm.2.1 8 10 (8 * b + j) then Sm.2.1 8 10 (8 * x + b) + Sm.2.1 8 10 (8 * a + j) else Sm.2.1 8 10 (8 * x + a) + Sm.2.1 8 10 (8 * b + j)) + l3 then Sm.2.1 8 10 (8 * x + j) else (if Sm.2.1 8 10 (8 * x + b) + Sm.2.1 8 10 (8 * a + j) < Sm.2.1 8 10 (8 * x + a) + Sm.2.1 8 10 (8 * b + j) then Sm.2.1 8 10 (8 * x + b) + Sm.2.1 8 10 (8 * a + j) else Sm.2.1 8 10 (8 * x + a) + Sm.2.1 8 10 (8 * b + j)) + l3) = F at st
    generalize hG : (if (if Sc.2.1 1 7 (8 * x + b) + l3 + Sc.2.1 1 7 (8 * a + j) < Sc.2.1 1 7 (8 * x + a) + l3 + Sc.2.1 1 7 (8 * b + j) then Sc.2.1 1 7 (8 * x + b) + l3 + Sc.2.1 1 7 (8 * a + j) else Sc.2.1 1 7 (8 * x + a) + l3 + Sc.2.1 1 7 (8 * b + j)) < Sc.2.1 1 7 (8 * x + j) then (if Sc.2.1 1 7 (8 * x + b) + l3 + Sc.2.1 1 7 (8 * a + j) < Sc.2.1 1 7 (8 * x + a) + l3 + Sc.2.1 1 7 (8 * b + j) then Sc.2.1 1 7 (8 * x + b) + l3 + Sc.2.1 1 7 (8 * a + j) else Sc.2.1 1 7 (8 * x + a) + l3 + Sc.2.1 1 7 (8 * b + j)) else Sc.2.1 1 7 (8 * x + j)) = G at st
    obtain ⟨f, g, r1, r2, r3⟩ := ih (j + 1) n n' (yA Sc 1 7 (upd (Sc.2.1 1 7) (8 * x + j) G)) (yA Sm 8 10 (upd (Sm.2.1 8 10) (8 * x + j) F)) _ (by omega) (by omega) (by omega) (by rw [yA_same, yA_same]; exact st)
    rw [yA_yA] at r2 r3
    refine ⟨f, g, r1.congr (fun x' y' _ _ w => ?_), ?_, ?_⟩
    · rcases w with w | w
      · exact Or.inl (Or.inl w)
      · by_cases e : y' = j
        · exact Or.inl (Or.inr ⟨w.1, e⟩)
        · exact Or.inr ⟨w.1, by omega⟩
    · rw [f_X2_addLeg_34, if_neg (fun q => by have := (nn_le n8 hnj).mp q; omega)]
      rw [e_miles hnx h1 hx ha, e_miles h2 hnj hb hj8, e_miles hnx h2 hx hb, e_miles h1 hnj ha hj8, e_miles hnx hnj hx hj8]
      simp only [bV_s]
      rw [gA_nn (nn_add (nn_mul hnx n8 (by omega)) hnj (by omega)) (by omega), sq_s, y_int1, Nat.mul_comm x 8, hG]
      exact r2
    · rw [f_X12_leg_135, if_neg (fun q => by have := (nn_le n8 hnj).mp q; omega)]
      have i1 := nn_add (nn_mul n8 hnx (by omega)) h1 (by omega)
      have i2 := nn_add (nn_mul n8 h2 (by omega)) hnj (by omega)
      have i3 := nn_add (nn_mul n8 hnx (by omega)) h2 (by omega)
      have i4 := nn_add (nn_mul n8 h1 (by omega)) hnj (by omega)
      have i5 := nn_add (nn_mul n8 hnx (by omega)) hnj (by omega)
      rw [gA_nn i1 (by omega), gA_nn i2 (by omega), gA_nn i3 (by omega), gA_nn i4 (by omega), gA_nn i5 (by omega)]
      simp only [f_X12_leg_232, y_int1]
      generalize (if Sm.2.1 8 10 (8 * x + b) + Sm.2.1 8 10 (8 * a + j) < Sm.2.1 8 10 (8 * x + a) + Sm.2.1 8 10 (8 * b + j) then Sm.2.1 8 10 (8 * x + b) + Sm.2.1 8 10 (8 * a + j) else Sm.2.1 8 10 (8 * x + a) + Sm.2.1 8 10 (8 * b + j)) = t at hF ⊢
      by_cases hle : Sm.2.1 8 10 (8 * x + j) ≤ t + l3
      · rw [if_pos hle] at hF ⊢
        rw [← hF, upd_id, yA_self] at r3
        exact r3
      · rw [if_neg hle] at hF ⊢
        rw [gA_nn i5 (by omega), sq_s, hF]
        exact r3
theorem lg_outer {N : Nat} {c : Nat → Nat} {a b m0 : Nat} {l1 l2 l3 : Int32} (h1 : nn l1 a) (h2 : nn l2 b) (h3 : nn l3 m0) (ha : a < 8) (hb : b < 8) (hm0 : m0 ≤ 400) (hN : 8 < N) : ∀ (m i n n' : Nat) (Sc Sm : yS) (D : Nat → Nat → Prop), i + m = 8 → m < n → m < n' → RC c a b D (Sm.2.1 8 10) (Sc.2.1 1 7) → ∃ f g, RC c a b (fun x' y' => D x' y' ∨ i ≤ x') f g ∧ f_X2_addLeg_24 n N Sc l1 l2 l3 (Int32.ofNat i) = some (Sc.1 1 5, yI (yA Sc 1 7 g) 1 5 (Sc.1 1 5 + 1)) ∧ f_X12_leg_125 n' N Sm l1 l2 l3 (Int32.ofNat i) = some (Sm.1 8 9 - 1, yA Sm 8 10 f) := by
  have n8 := nn_l 8 (by decide)
  intro m
  induction m with
  | zero =>
    intro i n n' Sc Sm D hi hn hn' hR
    obtain ⟨n, rfl⟩ : ∃ z, n = z + 1 := ⟨n - 1, by omega⟩
    obtain ⟨n', rfl⟩ : ∃ z, n' = z + 1 := ⟨n' - 1, by omega⟩
    refine ⟨Sm.2.1 8 10, Sc.2.1 1 7, hR.congr (fun x' y' hx _ w => w.resolve_right (fun q => by omega)), ?_, ?_⟩
    · rw [f_X2_addLeg_24, if_pos ((nn_le n8 (nn_lit i (by omega))).mpr (by omega)), yA_self, sq_s]
    · rw [f_X12_leg_125, if_pos ((nn_le n8 (nn_lit i (by omega))).mpr (by omega)), yA_self]
  | succ m ih =>
    intro i n n' Sc Sm D hi hn hn' hR
    obtain ⟨n, rfl⟩ : ∃ z, n = z + 1 := ⟨n - 1, by omega⟩
    obtain ⟨n', rfl⟩ : ∃ z, n' = z + 1 := ⟨n' - 1, by omega⟩
    have hni := nn_lit i (by omega)
    obtain ⟨f, g, r1, r2, r3⟩ := lg_inner (N := N) (x := i) h1 h2 h3 ha hb (by omega) hm0 (fun S l1 l2 l3 l5 => f_X2_addLeg_24 n N S l1 l2 l3 l5) (fun S l1 l2 l3 l5 => f_X12_leg_125 n' N S l1 l2 l3 l5) 8 0 N N Sc Sm D (by omega) hN hN hR
    obtain ⟨f', g', s1, s2, s3⟩ := ih (i + 1) n n' (yA Sc 1 7 g) (yA Sm 8 10 f) _ (by omega) (by omega) (by omega) (by rw [yA_same, yA_same]; exact r1)
    rw [yA_yA] at s2 s3
    refine ⟨f', g', s1.congr (fun x' y' _ _ w => ?_), ?_, ?_⟩
    · rcases w with w | w
      · exact Or.inl (Or.inl w)
      · by_cases e : x' = i
        · exact Or.inl (Or.inr ⟨e, by omega⟩)
        · exact Or.inr (by omega)
    · rw [f_X2_addLeg_24, if_neg (fun q => by have := (nn_le n8 hni).mp q; omega)]
      exact r2.trans s2
    · rw [f_X12_leg_125, if_neg (fun q => by have := (nn_le n8 hni).mp q; omega)]
      exact r3.trans s3
