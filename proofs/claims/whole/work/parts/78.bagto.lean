/-! THE REFERENCE'S ROW, read and written -/
theorem em_bagOf {N b j : Nat} {S : yS} {x y : Int32} (hb : nn x b) (hb2 : b < 30) (hj : nn y j) (hj2 : j < 37) : f_X12_bagOf N S x y = some (S.2.1 8 48 (235 + 37 * b + j)) := by
  unfold f_X12_bagOf f_X12_bagOf_0
  rw [gA_nn (nn_add (nn_add (nn_l 235 (by decide)) (nn_mul (nn_l 37 (by decide)) hb (by omega)) (by omega)) hj (by omega)) (by omega)]
theorem em_setBag {N b j : Nat} {S : yS} {x y v : Int32} (hb : nn x b) (hb2 : b < 30) (hj : nn y j) (hj2 : j < 37) : f_X12_setBag N S x y v = some (0, yA S 8 48 (upd (S.2.1 8 48) (235 + 37 * b + j) v)) := by
  unfold f_X12_setBag f_X12_setBag_0
  rw [gA_nn (nn_add (nn_add (nn_l 235 (by decide)) (nn_mul (nn_l 37 (by decide)) hb (by omega)) (by omega)) hj (by omega)) (by omega), sq_s]
theorem em_planeR {N b j : Nat} {S : yS} {x y : Int32} (hb : nn x b) (hb2 : b < 8) (hj : nn y j) (hj2 : j < 23) : f_X12_plane N S x y = some (S.2.1 8 48 (19 + 23 * b + j)) := by
  unfold f_X12_plane f_X12_plane_0
  rw [gA_nn (nn_add (nn_add (nn_l 19 (by decide)) (nn_mul (nn_l 23 (by decide)) hb (by omega)) (by omega)) hj (by omega)) (by omega)]
theorem em_planeW {N b j : Nat} {S : yS} {x y v : Int32} (hb : nn x b) (hb2 : b < 8) (hj : nn y j) (hj2 : j < 23) : f_X12_plane2 N S x y v = some (0, yA S 8 48 (upd (S.2.1 8 48) (19 + 23 * b + j) v)) := by
  unfold f_X12_plane2 f_X12_plane2_0
  rw [gA_nn (nn_add (nn_add (nn_l 19 (by decide)) (nn_mul (nn_l 23 (by decide)) hb (by omega)) (by omega)) hj (by omega)) (by omega), sq_s]
theorem em_pilR {N b j : Nat} {S : yS} {x y : Int32} (hb : nn x b) (hb2 : b < 8) (hj : nn y j) (hj2 : j < 4) : f_X12_pilotOf N S x y = some (S.2.1 8 48 (203 + 4 * b + j)) := by
  unfold f_X12_pilotOf f_X12_pilotOf_0
  rw [gA_nn (nn_add (nn_add (nn_l 203 (by decide)) (nn_mul (nn_l 4 (by decide)) hb (by omega)) (by omega)) hj (by omega)) (by omega)]
theorem em_flR {N b j : Nat} {S : yS} {x y : Int32} (hb : nn x b) (hb2 : b < 24) (hj : nn y j) (hj2 : j < 5) : f_X12_flightOf N S x y = some (S.2.1 8 48 (1345 + 5 * b + j)) := by
  unfold f_X12_flightOf f_X12_flightOf_0
  rw [gA_nn (nn_add (nn_add (nn_l 1345 (by decide)) (nn_mul (nn_l 5 (by decide)) hb (by omega)) (by omega)) hj (by omega)) (by omega)]
theorem em_flW {N b j : Nat} {S : yS} {x y v : Int32} (hb : nn x b) (hb2 : b < 24) (hj : nn y j) (hj2 : j < 5) : f_X12_setFlight N S x y v = some (0, yA S 8 48 (upd (S.2.1 8 48) (1345 + 5 * b + j) v)) := by
  unfold f_X12_setFlight f_X12_setFlight_0
  rw [gA_nn (nn_add (nn_add (nn_l 1345 (by decide)) (nn_mul (nn_l 5 (by decide)) hb (by omega)) (by omega)) hj (by omega)) (by omega), sq_s]
/-- only places from lo on, below hi, of the reference's row change -/
def wF (lo hi : Nat) (S S' : yS) : Prop := FR (fun o k => o = 8 ∧ k = 48) S S' ∧ ∀ i, (i < lo ∨ hi ≤ i) → S'.2.1 8 48 i = S.2.1 8 48 i
theorem wF_refl (lo hi : Nat) (S : yS) : wF lo hi S S := ⟨FR_refl _ _, fun _ _ => rfl⟩
theorem wF_trans {lo hi : Nat} {S S' S'' : yS} (h : wF lo hi S S') (g : wF lo hi S' S'') : wF lo hi S S'' := ⟨FR_trans h.1 g.1, fun i hi' => (g.2 i hi').trans (h.2 i hi')⟩
theorem wF_mono {lo hi lo' hi' : Nat} {S S' : yS} (h : wF lo hi S S') (h1 : lo' ≤ lo) (h2 : hi ≤ hi') : wF lo' hi' S S' := ⟨h.1, fun i z => h.2 i (by omega)⟩
theorem wF_A {lo hi k : Nat} (S : yS) (v : Int32) (h1 : lo ≤ k) (h2 : k < hi) : wF lo hi S (yA S 8 48 (upd (S.2.1 8 48) k v)) := by
  refine ⟨FR_A _ _ _ _ ⟨rfl, rfl⟩, fun i hi' => ?_⟩
  rw [yA_same, upd_o _ _ (by omega)]
theorem wF_o {lo hi o k : Nat} {S S' : yS} (h : wF lo hi S S') (n : ¬ (o = 8 ∧ k = 48)) : S'.1 o k = S.1 o k ∧ S'.2.1 o k = S.2.1 o k := h.1 o k n
theorem wF_1 {lo hi k : Nat} {S S' : yS} (h : wF lo hi S S') (o : Nat) (hk : k ≠ 48) : S'.1 o k = S.1 o k := (h.1 o k (fun z => hk z.2)).1
/-- one bag, on both sides -/
def DB1 (b : Nat) (Sc Sm : yS) : Prop := ∀ j, j < 5 → Sm.2.1 8 48 (235 + 37 * b + j) = Sc.1 (384 + b) (bSl j)
def DS1 (cK : Nat → Nat) (b : Nat) (Sc Sm : yS) : Prop := ∃ n, nn (Sc.1 (384 + b) 10) n ∧ (n ≤ 16 ∧ cK (1001 + b) ≤ n ∧ ∀ j, j < 2 * cK (1001 + b) → Sc.2.1 (384 + b) 9 j = Int32.ofNat (cK (5000 + 32 * b + j))) ∧ ∀ j, j < 2 * n → Sm.2.1 8 48 (235 + 37 * b + 5 + j) = Sc.2.1 (384 + b) 9 j
def pBg (b o k : Nat) : Prop := o = 384 + b ∧ 5 ≤ k ∧ k ≤ 10
theorem led_both {cK : Nat → Nat} {N b : Nat} {Sc Sm : yS} {bI now pl : Int32} (hb : b < 30) (hbI : nn bI b) (h4 : Sm.2.1 8 48 (235 + 37 * b + 4) = Sc.1 (384 + b) 10) (hs : DS1 cK b Sc Sm) (hn : Sm.2.1 8 48 0 = now) : ∃ Sc' Sm', f_X0_addStep N Sc (384 + b) now pl = some (0, Sc') ∧ f_X12_led N Sm bI pl = some (0, Sm') ∧ Sm'.2.1 8 48 (235 + 37 * b + 4) = Sc'.1 (384 + b) 10 ∧ DS1 cK b Sc' Sm' ∧ FR (fun o k => o = 384 + b ∧ (k = 9 ∨ k = 10)) Sc Sc' ∧ wF (235 + 37 * b + 4) (272 + 37 * b) Sm Sm' := by
  obtain ⟨n, n1, n2, n3⟩ := hs
  have h4n : nn (Sm.2.1 8 48 (235 + 37 * b + 4)) n := by rw [h4]; exact n1
  unfold f_X0_addStep f_X0_addStep_0 f_X0_addStep_45 f_X12_led f_X12_led_0
  rw [em_bagOf hbI hb (nn_l 4 (by decide)) (by decide), bV_s]
  by_cases e : n = 16
  · rw [if_pos ((nn_le (nn_l 16 (by decide)) n1).mpr (by omega)), if_neg (fun q => q ((nn_eq h4n (nn_l 16 (by decide))).mpr e))]
    exact ⟨Sc, Sm, rfl, rfl, h4, ⟨n, n1, n2, n3⟩, FR_refl _ _, wF_refl _ _ _⟩
  · have i1 := nn_mul (nn_l 2 (by decide)) n1 (by omega)
    have i2 := nn_add i1 (nn_l 1 (by decide)) (by omega)
    have k1 := nn_add (nn_l 5 (by decide)) (nn_mul (nn_l 2 (by decide)) h4n (by omega)) (by omega)
    have k2 := nn_add k1 (nn_l 1 (by decide)) (by omega)
    have e1 : Sc.1 (384 + b) 10 + 1 = Int32.ofNat (n + 1) := by rw [n1.1]; exact y_int1
    have e2 : Sm.2.1 8 48 (235 + 37 * b + 4) + 1 = Int32.ofNat (n + 1) := by rw [h4]; exact e1
    rw [if_neg (fun q => by have := (nn_le (nn_l 16 (by decide)) n1).mp q; omega), if_pos (fun q => e ((nn_eq h4n (nn_l 16 (by decide))).mp q))]
    rw [gA_nn i1 (by omega), sq_s, yA_1, gA_nn i2 (by omega), sq_s, yA_1, yA_1, sq_s, e1]
    rw [gA_nn (nn_l 0 (by decide)) (by decide), em_setBag hbI hb k1 (by omega), bS_s, em_setBag hbI hb k2 (by omega), bS_s, em_setBag hbI hb (nn_l 4 (by decide)) (by decide), bS_s, e2, hn]
    simp only [yA_yA, yA_same]
    refine ⟨_, _, rfl, rfl, ?_, ⟨n + 1, ?_, ⟨by omega, by omega, fun j hj => ?_⟩, fun j hj => ?_⟩, ?_, ?_⟩
    · rw [yA_same, upd_s, yI_1s]
    · rw [yI_1s]
      exact nn_lit _ (by omega)
    · have hj' := n2.2.1
      rw [yI_2, yA_same, upd_o _ _ (by omega), upd_o _ _ (by omega)]
      exact n2.2.2 j hj
    · rw [yA_same, yI_2, yA_same, upd_o _ _ (by omega)]
      by_cases c1 : j = 2 * n + 1
      · rw [show 235 + 37 * b + 5 + j = 235 + 37 * b + (5 + 2 * n + 1) by omega, upd_s, c1, upd_s]
      · rw [upd_o _ _ (show 235 + 37 * b + 5 + j ≠ 235 + 37 * b + (5 + 2 * n + 1) by omega), upd_o _ _ c1]
        by_cases c2 : j = 2 * n
        · rw [show 235 + 37 * b + 5 + j = 235 + 37 * b + (5 + 2 * n) by omega, upd_s, c2, upd_s]
        · rw [upd_o _ _ (show 235 + 37 * b + 5 + j ≠ 235 + 37 * b + (5 + 2 * n) by omega), upd_o _ _ c2]
          exact n3 j (by omega)
    · exact FR_trans (FR_A _ _ _ _ ⟨rfl, Or.inl rfl⟩) (FR_I _ _ _ _ ⟨rfl, Or.inr rfl⟩)
    · refine ⟨FR_A _ _ _ _ ⟨rfl, rfl⟩, fun i hi => ?_⟩
      rw [yA_same, upd_o _ _ (by omega), upd_o _ _ (by omega), upd_o _ _ (by omega)]
/-- a bag comes to a field -/
theorem arrive_both {cK : Nat → Nat} {N b : Nat} {Sc Sm : yS} {bI now f : Int32} (hb : b < 30) (hbI : nn bI b) (hD : DB1 b Sc Sm) (hs : DS1 cK b Sc Sm) (hn : Sm.2.1 8 48 0 = now) (ht : Sm.2.1 8 24 b = Sc.1 (384 + b) 1) : ∃ Sc' Sm', f_X0_putAt N Sc (384 + b) f now = some (0, Sc') ∧ f_X12_arrive N Sm bI f = some (0, Sm') ∧ DB1 b Sc' Sm' ∧ DS1 cK b Sc' Sm' ∧ FR (pBg b) Sc Sc' ∧ wF (235 + 37 * b) (272 + 37 * b) Sm Sm' ∧ Sc'.1 (384 + b) 6 = -1 ∧ ((f = Sc.1 (384 + b) 1 ∧ Sc'.1 (384 + b) 5 = -1 ∧ Sc'.1 (384 + b) 8 = now) ∨ (¬ f = Sc.1 (384 + b) 1 ∧ Sc'.1 (384 + b) 5 = f ∧ Sc'.1 (384 + b) 8 = Sc.1 (384 + b) 8)) := by
  have d : ∀ j k, j < 5 → bSl j = k → Sm.2.1 8 48 (235 + 37 * b + j) = Sc.1 (384 + b) k := fun j k hj hk => by rw [← hk]; exact hD j hj
  unfold f_X0_putAt f_X0_putAt_0 f_X0_putAt_50 f_X12_arrive f_X12_arrive_0 f_X12_arrive_67
  rw [sq_s, sq_s, em_setBag hbI hb (nn_l 1 (by decide)) (by decide), bS_s, em_setBag hbI hb (nn_l 2 (by decide)) (by decide), bS_s, gA_nn hbI hb]
  have hto : (yI (yI Sc (384 + b) 6 (-1)) (384 + b) 7 (-1)).1 (384 + b) 1 = Sc.1 (384 + b) 1 := by
    rw [yI_1n _ _ (by omega), yI_1n _ _ (by omega)]
  rw [hto]
  simp only [yA_yA, yA_same]
  rw [yA_2n _ _ (by decide), ht]
  by_cases c : f = Sc.1 (384 + b) 1
  · rw [if_neg (fun q => q c), if_neg (fun q => q c.symm), sq_s, sq_s, em_setBag hbI hb (nn_l 0 (by decide)) (by decide), bS_s, gA_nn (nn_l 0 (by decide)) (by decide), em_setBag hbI hb (nn_l 3 (by decide)) (by decide), bS_s]
    simp only [yA_yA, yA_same]
    have hw0 : upd (upd (upd (Sm.2.1 8 48) (235 + 37 * b + 1) (-1)) (235 + 37 * b + 2) (-1)) (235 + 37 * b + 0) (-1) 0 = now := by
      rw [upd_o _ _ (by omega), upd_o _ _ (by omega), upd_o _ _ (by omega)]
      exact hn
    rw [hw0]
    have H4 : (yA Sm 8 48 (upd (upd (upd (upd (Sm.2.1 8 48) (235 + 37 * b + 1) (-1)) (235 + 37 * b + 2) (-1)) (235 + 37 * b + 0) (-1)) (235 + 37 * b + 3) now)).2.1 8 48 (235 + 37 * b + 4) = (yI (yI (yI (yI Sc (384 + b) 6 (-1)) (384 + b) 7 (-1)) (384 + b) 5 (-1)) (384 + b) 8 now).1 (384 + b) 10 := by
      rw [yA_same, upd_o _ _ (by omega), upd_o _ _ (by omega), upd_o _ _ (by omega), upd_o _ _ (by omega), yI_1n _ _ (by omega), yI_1n _ _ (by omega), yI_1n _ _ (by omega), yI_1n _ _ (by omega)]
      exact d 4 10 (by decide) rfl
    have HS : DS1 cK b (yI (yI (yI (yI Sc (384 + b) 6 (-1)) (384 + b) 7 (-1)) (384 + b) 5 (-1)) (384 + b) 8 now) (yA Sm 8 48 (upd (upd (upd (upd (Sm.2.1 8 48) (235 + 37 * b + 1) (-1)) (235 + 37 * b + 2) (-1)) (235 + 37 * b + 0) (-1)) (235 + 37 * b + 3) now)) := by
      obtain ⟨n, n1, n2, n3⟩ := hs
      refine ⟨n, ?_, n2, fun j hj => ?_⟩
      · rw [yI_1n _ _ (by omega), yI_1n _ _ (by omega), yI_1n _ _ (by omega), yI_1n _ _ (by omega)]
        exact n1
      · rw [yA_same, upd_o _ _ (by omega), upd_o _ _ (by omega), upd_o _ _ (by omega), upd_o _ _ (by omega)]
        exact n3 j hj
    have HN : (yA Sm 8 48 (upd (upd (upd (upd (Sm.2.1 8 48) (235 + 37 * b + 1) (-1)) (235 + 37 * b + 2) (-1)) (235 + 37 * b + 0) (-1)) (235 + 37 * b + 3) now)).2.1 8 48 0 = now := by
      rw [yA_same, upd_o _ _ (by omega)]
      exact hw0
    obtain ⟨Sc', Sm', a1, a2, a3, a4, a5, a6⟩ := led_both (N := N) (pl := 300) hb hbI H4 HS HN
    · rw [a1, bS_s, a2, bS_s]
      have g : ∀ k, k ≠ 9 → k ≠ 10 → Sc'.1 (384 + b) k = (yI (yI (yI (yI Sc (384 + b) 6 (-1)) (384 + b) 7 (-1)) (384 + b) 5 (-1)) (384 + b) 8 now).1 (384 + b) k := fun k h1 h2 => (a5 (384 + b) k (fun z => by have := z.2; omega)).1
      have g6 : Sc'.1 (384 + b) 6 = -1 := by rw [g 6 (by decide) (by decide), yI_1n _ _ (by omega), yI_1n _ _ (by omega), yI_1n _ _ (by omega), yI_1s]
      have g7 : Sc'.1 (384 + b) 7 = -1 := by rw [g 7 (by decide) (by decide), yI_1n _ _ (by omega), yI_1n _ _ (by omega), yI_1s]
      have g5 : Sc'.1 (384 + b) 5 = -1 := by rw [g 5 (by decide) (by decide), yI_1n _ _ (by omega), yI_1s]
      have g8 : Sc'.1 (384 + b) 8 = now := by rw [g 8 (by decide) (by decide), yI_1s]
      refine ⟨Sc', Sm', rfl, rfl, ?_, a4, ?_, ?_, g6, Or.inl ⟨c, g5, g8⟩⟩
      · intro j hj
        rcases (show j = 0 ∨ j = 1 ∨ j = 2 ∨ j = 3 ∨ j = 4 by omega) with rfl | rfl | rfl | rfl | rfl
        · rw [a6.2 _ (by omega), yA_same, upd_o _ _ (by omega), upd_s]; exact g5.symm
        · rw [a6.2 _ (by omega), yA_same, upd_o _ _ (by omega), upd_o _ _ (by omega), upd_o _ _ (by omega), upd_s]; exact g6.symm
        · rw [a6.2 _ (by omega), yA_same, upd_o _ _ (by omega), upd_o _ _ (by omega), upd_s]; exact g7.symm
        · rw [a6.2 _ (by omega), yA_same, upd_s]; exact g8.symm
        · exact a3
      · refine FR_trans (FR_trans (FR_I _ _ _ _ ⟨rfl, by omega⟩) (FR_trans (FR_I _ _ _ _ ⟨rfl, by omega⟩) (FR_trans (FR_I _ _ _ _ ⟨rfl, by omega⟩) (FR_I _ _ _ _ ⟨rfl, by omega⟩)))) (FR_mono a5 (fun o k z => ⟨z.1, by omega⟩))
      · refine wF_trans ⟨FR_A _ _ _ _ ⟨rfl, rfl⟩, fun i hi => ?_⟩ (wF_mono a6 (by omega) (by omega))
        rw [yA_same, upd_o _ _ (by omega), upd_o _ _ (by omega), upd_o _ _ (by omega), upd_o _ _ (by omega)]
  · rw [if_pos c, if_pos (fun q => c q.symm), sq_s, em_setBag hbI hb (nn_l 0 (by decide)) (by decide), bS_s]
    simp only [yA_yA, yA_same]
    have H4 : (yA Sm 8 48 (upd (upd (upd (Sm.2.1 8 48) (235 + 37 * b + 1) (-1)) (235 + 37 * b + 2) (-1)) (235 + 37 * b + 0) f)).2.1 8 48 (235 + 37 * b + 4) = (yI (yI (yI Sc (384 + b) 6 (-1)) (384 + b) 7 (-1)) (384 + b) 5 f).1 (384 + b) 10 := by
      rw [yA_same, upd_o _ _ (by omega), upd_o _ _ (by omega), upd_o _ _ (by omega), yI_1n _ _ (by omega), yI_1n _ _ (by omega), yI_1n _ _ (by omega)]
      exact d 4 10 (by decide) rfl
    have HS : DS1 cK b (yI (yI (yI Sc (384 + b) 6 (-1)) (384 + b) 7 (-1)) (384 + b) 5 f) (yA Sm 8 48 (upd (upd (upd (Sm.2.1 8 48) (235 + 37 * b + 1) (-1)) (235 + 37 * b + 2) (-1)) (235 + 37 * b + 0) f)) := by
      obtain ⟨n, n1, n2, n3⟩ := hs
      refine ⟨n, ?_, n2, fun j hj => ?_⟩
      · rw [yI_1n _ _ (by omega), yI_1n _ _ (by omega), yI_1n _ _ (by omega)]
        exact n1
      · rw [yA_same, upd_o _ _ (by omega), upd_o _ _ (by omega), upd_o _ _ (by omega)]
        exact n3 j hj
    have HN : (yA Sm 8 48 (upd (upd (upd (Sm.2.1 8 48) (235 + 37 * b + 1) (-1)) (235 + 37 * b + 2) (-1)) (235 + 37 * b + 0) f)).2.1 8 48 0 = now := by
      rw [yA_same, upd_o _ _ (by omega), upd_o _ _ (by omega), upd_o _ _ (by omega)]
      exact hn
    obtain ⟨Sc', Sm', a1, a2, a3, a4, a5, a6⟩ := led_both (N := N) (pl := f) hb hbI H4 HS HN
    · rw [a1, bS_s, a2, bS_s]
      have g : ∀ k, k ≠ 9 → k ≠ 10 → Sc'.1 (384 + b) k = (yI (yI (yI Sc (384 + b) 6 (-1)) (384 + b) 7 (-1)) (384 + b) 5 f).1 (384 + b) k := fun k h1 h2 => (a5 (384 + b) k (fun z => by have := z.2; omega)).1
      have g6 : Sc'.1 (384 + b) 6 = -1 := by rw [g 6 (by decide) (by decide), yI_1n _ _ (by omega), yI_1n _ _ (by omega), yI_1s]
      have g7 : Sc'.1 (384 + b) 7 = -1 := by rw [g 7 (by decide) (by decide), yI_1n _ _ (by omega), yI_1s]
      have g5 : Sc'.1 (384 + b) 5 = f := by rw [g 5 (by decide) (by decide), yI_1s]
      have g8 : Sc'.1 (384 + b) 8 = Sc.1 (384 + b) 8 := by rw [g 8 (by decide) (by decide), yI_1n _ _ (by omega), yI_1n _ _ (by omega), yI_1n _ _ (by omega)]
      refine ⟨Sc', Sm', rfl, rfl, ?_, a4, ?_, ?_, g6, Or.inr ⟨c, g5, g8⟩⟩
      · intro j hj
        rcases (show j = 0 ∨ j = 1 ∨ j = 2 ∨ j = 3 ∨ j = 4 by omega) with rfl | rfl | rfl | rfl | rfl
        · rw [a6.2 _ (by omega), yA_same, upd_s]; exact g5.symm
        · rw [a6.2 _ (by omega), yA_same, upd_o _ _ (by omega), upd_o _ _ (by omega), upd_s]; exact g6.symm
        · rw [a6.2 _ (by omega), yA_same, upd_o _ _ (by omega), upd_s]; exact g7.symm
        · rw [a6.2 _ (by omega), yA_same, upd_o _ _ (by omega), upd_o _ _ (by omega), upd_o _ _ (by omega)]
          exact (d 3 8 (by decide) rfl).trans g8.symm
        · exact a3
      · refine FR_trans (FR_trans (FR_I _ _ _ _ ⟨rfl, by omega⟩) (FR_trans (FR_I _ _ _ _ ⟨rfl, by omega⟩) (FR_I _ _ _ _ ⟨rfl, by omega⟩))) (FR_mono a5 (fun o k z => ⟨z.1, by omega⟩))
      · refine wF_trans ⟨FR_A _ _ _ _ ⟨rfl, rfl⟩, fun i hi => ?_⟩ (wF_mono a6 (by omega) (by omega))
        rw [yA_same, upd_o _ _ (by omega), upd_o _ _ (by omega), upd_o _ _ (by omega)]
