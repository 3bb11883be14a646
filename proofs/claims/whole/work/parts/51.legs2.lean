theorem cLeg_i {S : yS} {nl : Nat} {l1 l2 l3 l4 : Int32} {g : Nat → Int32} {o s : Nat} (h : ¬ (o = 1 ∧ s = 5)) (h' : o ≠ 64 + nl) : (cLeg S nl l1 l2 l3 l4 g).1 o s = S.1 o s := by
  unfold cLeg cLeg0
  rw [yI_1n _ _ h, yA_1, yA_1, (yNw_o h').1]
theorem cLeg_n {S : yS} {nl : Nat} {l1 l2 l3 l4 : Int32} {g : Nat → Int32} {s : Nat} : (cLeg S nl l1 l2 l3 l4 g).1 (64 + nl) s = nLeg l1 l2 l3 l4 s := by
  unfold cLeg cLeg0
  rw [yI_1n _ _ (by omega), yA_1, yA_1, yNw_s]
theorem cLeg_5 {S : yS} {nl : Nat} {l1 l2 l3 l4 : Int32} {g : Nat → Int32} : (cLeg S nl l1 l2 l3 l4 g).1 1 5 = Int32.ofNat (nl + 1) := by
  unfold cLeg
  rw [yI_1s]
theorem cLeg_a {S : yS} {nl : Nat} {l1 l2 l3 l4 : Int32} {g : Nat → Int32} {o s : Nat} (h : ¬ (o = 1 ∧ s = 7)) (h2 : ¬ (o = 1 ∧ s = 4)) (h' : o ≠ 64 + nl) : (cLeg S nl l1 l2 l3 l4 g).2.1 o s = S.2.1 o s := by
  unfold cLeg cLeg0
  rw [yI_2, yA_2n _ _ h, yA_2n _ _ h2, (yNw_o h').2]
theorem cLeg_4 {S : yS} {nl : Nat} {l1 l2 l3 l4 : Int32} {g : Nat → Int32} : (cLeg S nl l1 l2 l3 l4 g).2.1 1 4 = upd (S.2.1 1 4) nl 1 := by
  unfold cLeg cLeg0
  rw [yI_2, yA_2n _ _ (by decide), yA_same]
theorem cLeg_7 {S : yS} {nl : Nat} {l1 l2 l3 l4 : Int32} {g : Nat → Int32} : (cLeg S nl l1 l2 l3 l4 g).2.1 1 7 = g := by
  unfold cLeg
  rw [yI_2, yA_same]
theorem mLeg_r {S : yS} {nl : Nat} {l1 l2 l3 l4 : Int32} {f : Nat → Int32} : (mLeg S nl l1 l2 l3 l4 f).2.1 8 2 = upd (S.2.1 8 2) nl l1 ∧ (mLeg S nl l1 l2 l3 l4 f).2.1 8 3 = upd (S.2.1 8 3) nl l2 ∧ (mLeg S nl l1 l2 l3 l4 f).2.1 8 4 = upd (S.2.1 8 4) nl l3 ∧ (mLeg S nl l1 l2 l3 l4 f).2.1 8 5 = upd (S.2.1 8 5) nl l4 ∧ (mLeg S nl l1 l2 l3 l4 f).2.1 8 8 = upd (S.2.1 8 8) nl 0 ∧ (mLeg S nl l1 l2 l3 l4 f).2.1 8 6 = S.2.1 8 6 ∧ (mLeg S nl l1 l2 l3 l4 f).2.1 8 7 = S.2.1 8 7 ∧ (mLeg S nl l1 l2 l3 l4 f).2.1 8 10 = f ∧ (mLeg S nl l1 l2 l3 l4 f).1 8 9 = Int32.ofNat (nl + 1) := ⟨rfl, rfl, rfl, rfl, rfl, rfl, rfl, rfl, rfl⟩
theorem RG_leg {nl a b m : Nat} {Sc Sm : yS} {l1 l2 l3 l4 : Int32} {f g : Nat → Int32} (h : RG nl Sc Sm) (hn : nl < 12) (ha : nn l1 a) (ha8 : a < 8) (hb : nn l2 b) (hb8 : b < 8) (hm : nn l3 m) (hm1 : 10 ≤ m) (hm2 : m ≤ 400) : RG (nl + 1) (cLeg Sc nl l1 l2 l3 l4 g) (mLeg Sm nl l1 l2 l3 l4 f) := by
  obtain ⟨h1, h2, h3, h4, h5⟩ := h
  obtain ⟨m2, m3, m4, m5, m8, m6, m7, m10, m9⟩ := mLeg_r (S := Sm) (nl := nl) (l1 := l1) (l2 := l2) (l3 := l3) (l4 := l4) (f := f)
  refine ⟨?_, hn, ?_, fun i hi => ?_, fun i hi hi12 => ?_⟩
  · rw [cLeg_5]
    exact nn_lit (nl + 1) (by omega)
  · rw [cLeg_5, m9]
  · by_cases e : i = nl
    · subst e
      refine ⟨0, ?_⟩
      unfold R1
      rw [cLeg_4, m2, m3, m4, m5, m8, upd_s, upd_s, upd_s, upd_s, upd_s, upd_s]
      rw [cLeg_n, cLeg_n, cLeg_n, cLeg_n, cLeg_n]
      exact ⟨rfl, ⟨a, ha, ha8⟩, ⟨b, hb, hb8⟩, ⟨m, hm, hm1, hm2⟩, rfl, rfl, rfl, rfl, nn_lit 0 (by decide), by decide, rfl, fun j hj => absurd hj (Nat.not_lt_zero j)⟩
    · obtain ⟨k, hk⟩ := h4 i (by omega)
      refine ⟨k, ?_⟩
      have ne : 64 + i ≠ 64 + nl := by omega
      have n1 : ∀ s : Nat, ¬ (64 + i = 1 ∧ s = 5) := fun s z => by omega
      have n2 : ∀ s t : Nat, ¬ (64 + i = 1 ∧ s = t) := fun s t z => by omega
      unfold R1 at hk ⊢
      rw [cLeg_4, m2, m3, m4, m5, m8, m6, m7, upd_o _ _ e, upd_o _ _ e, upd_o _ _ e, upd_o _ _ e, upd_o _ _ e, upd_o _ _ e]
      rw [cLeg_i (n1 0) ne, cLeg_i (n1 1) ne, cLeg_i (n1 2) ne, cLeg_i (n1 3) ne, cLeg_i (n1 4) ne, cLeg_a (n2 5 7) (n2 5 4) ne, cLeg_a (n2 6 7) (n2 6 4) ne]
      exact hk
  · rw [cLeg_4, upd_o _ _ (show i ≠ nl by omega), cLeg_i (fun z => by omega) (by omega)]
    exact h5 i (by omega) hi12
/-- the fields are as they were -/
theorem RF_congr {nf : Nat} {Sc Sm Sc' Sm' : yS} (h : RF nf Sc Sm) (e1 : Sc'.1 1 3 = Sc.1 1 3) (e2 : Sm'.1 8 1 = Sm.1 8 1) (e3 : Sc'.2.1 1 0 = Sc.2.1 1 0) (e4 : Sc'.2.1 1 1 = Sc.2.1 1 1) (e5 : Sc'.2.1 1 2 = Sc.2.1 1 2) (e6 : Sm'.2.1 8 0 = Sm.2.1 8 0) (e7 : ∀ i, 3 ≤ i → i < 19 → Sm'.2.1 8 48 i = Sm.2.1 8 48 i) : RF nf Sc' Sm' := by
  obtain ⟨h1, h2, h3, h4⟩ := h
  refine ⟨by rw [e1]; exact h1, h2, by rw [e1, e2]; exact h3, fun i hi => ?_⟩
  rw [e3, e4, e5, e6, e7 _ (by omega) (by omega), e7 _ (by omega) (by omega)]
  exact h4 i hi
theorem RF_leg {nf nl : Nat} {Sc Sm : yS} {l1 l2 l3 l4 : Int32} {f g : Nat → Int32} (h : RF nf Sc Sm) : RF nf (cLeg Sc nl l1 l2 l3 l4 g) (mLeg Sm nl l1 l2 l3 l4 f) :=
  RF_congr h (cLeg_i (by decide) (by omega)) rfl (cLeg_a (by decide) (by decide) (by omega)) (cLeg_a (by decide) (by decide) (by omega)) (cLeg_a (by decide) (by decide) (by omega)) rfl (fun _ _ _ => rfl)
theorem RF_ground {nf i k : Nat} {Sc Sm : yS} {q r : Int32} (h : RF nf Sc Sm) : RF nf (cGr Sc (64 + i) k q r) (mGr Sm i k q r) :=
  RF_congr h (cGr_i (fun z => by omega)) rfl (cGr_a (by omega)) (cGr_a (by omega)) (cGr_a (by omega)) rfl (fun _ _ _ => rfl)
/-- what was told of the weather is as it was -/
theorem RT_congr {k : Nat} {Sc Sm Sc' Sm' : yS} (h : RT k Sc Sm) (e1 : Sc'.1 1 6 = Sc.1 1 6) (e2 : Sm'.1 8 15 = Sm.1 8 15) (a1 : Sc'.2.1 1 8 = Sc.2.1 1 8) (a2 : Sc'.2.1 1 9 = Sc.2.1 1 9) (a3 : Sc'.2.1 1 10 = Sc.2.1 1 10) (a4 : Sc'.2.1 1 11 = Sc.2.1 1 11) (b1 : Sm'.2.1 8 11 = Sm.2.1 8 11) (b2 : Sm'.2.1 8 12 = Sm.2.1 8 12) (b3 : Sm'.2.1 8 13 = Sm.2.1 8 13) (b4 : Sm'.2.1 8 14 = Sm.2.1 8 14) : RT k Sc' Sm' := by
  unfold RT at h ⊢
  rw [e1, e2, a1, a2, a3, a4, b1, b2, b3, b4]
  exact h
theorem RR_congr {k k' : Nat} {Sc Sm Sc' Sm' : yS} (h : RR k k' Sc Sm) (e1 : Sc'.1 4 0 = Sc.1 4 0) (e2 : Sc'.1 5 0 = Sc.1 5 0) (e3 : Sm'.1 8 41 = Sm.1 8 41) (e4 : Sm'.1 8 42 = Sm.1 8 42) (a1 : Sc'.2.1 4 3 = Sc.2.1 4 3) (a2 : Sc'.2.1 4 4 = Sc.2.1 4 4) (a3 : Sc'.2.1 5 3 = Sc.2.1 5 3) (a4 : Sc'.2.1 5 4 = Sc.2.1 5 4) (b1 : Sm'.2.1 8 39 = Sm.2.1 8 39) (b2 : Sm'.2.1 8 40 = Sm.2.1 8 40) : RR k k' Sc' Sm' := by
  unfold RR at h ⊢
  rw [e1, e2, e3, e4, a1, a2, a3, a4, b1, b2]
  exact h
theorem RW_congr {k : Nat} {Sc Sm Sc' Sm' : yS} (h : RW k Sc Sm) (e0 : Sc'.1 3 0 = Sc.1 3 0) (e1 : Sc'.1 3 1 = Sc.1 3 1) (e2 : Sm'.1 8 34 = Sm.1 8 34) (a : Sc'.2.1 3 = Sc.2.1 3) (b2 : Sm'.2.1 8 48 2 = Sm.2.1 8 48 2) (b : ∀ i, 1465 ≤ i → i < 2305 → Sm'.2.1 8 48 i = Sm.2.1 8 48 i) : RW k Sc' Sm' := by
  obtain ⟨h1, h2, h3, h4, h5⟩ := h
  refine ⟨by rw [e1]; exact h1, h2, by rw [e1, b2]; exact h3, by rw [e0, e2]; exact h4, fun i hi => ?_⟩
  rw [a, b _ (by omega) (by omega), b _ (by omega) (by omega), b _ (by omega) (by omega), b _ (by omega) (by omega), b _ (by omega) (by omega), b _ (by omega) (by omega), b _ (by omega) (by omega)]
  exact h5 i hi
theorem RG_congr {nl : Nat} {Sc Sm Sc' Sm' : yS} (h : RG nl Sc Sm) (e1 : Sc'.1 1 5 = Sc.1 1 5) (e2 : Sm'.1 8 9 = Sm.1 8 9) (a : Sc'.2.1 1 4 = Sc.2.1 1 4) (p : ∀ i, i < 12 → Sc'.1 (64 + i) = Sc.1 (64 + i) ∧ Sc'.2.1 (64 + i) = Sc.2.1 (64 + i)) (b : ∀ s, 2 ≤ s → s ≤ 8 → Sm'.2.1 8 s = Sm.2.1 8 s) : RG nl Sc' Sm' := by
  obtain ⟨h1, h2, h3, h4, h5⟩ := h
  refine ⟨by rw [e1]; exact h1, h2, by rw [e1, e2]; exact h3, fun i hi => ?_, fun i hi hi12 => ?_⟩
  · obtain ⟨k, hk⟩ := h4 i hi
    refine ⟨k, ?_⟩
    unfold R1 at hk ⊢
    rw [a, (p i (by omega)).1, (p i (by omega)).2, b 2 (by decide) (by decide), b 3 (by decide) (by decide), b 4 (by decide) (by decide), b 5 (by decide) (by decide), b 6 (by decide) (by decide), b 7 (by decide) (by decide), b 8 (by decide) (by decide)]
    exact hk
  · rw [a, (p i hi12).1]
    exact h5 i hi hi12
