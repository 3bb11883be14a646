/-! PLAN -/
/-- the flights that wait, listed on both sides -/
def WL (ng k : Nat) (g : Nat → Nat) (S M : yS) : Prop := (∀ i, i < k → nn (S.2.1 9 0 i) (g i) ∧ M.2.1 10 0 i = S.2.1 9 0 i ∧ g i < ng) ∧ ∀ i j, i < j → j < k → g i < g j
theorem e_waits {N g : Nat} {S : yS} : f_X1_waits N S (512 + g) = some (b01 (S.1 (512 + g) 4 = 0)) := by
  unfold f_X1_waits f_X1_waits_0 f_X1_waits_12
  by_cases z : S.1 (512 + g) 4 = 0
  · rw [if_neg (fun q => q z), gP_t (Or.inr rfl), b01_t z]
  · rw [if_pos z, gP_t (Or.inl rfl), b01_f z]
theorem wait_loop {cK : Nat → Nat} {N nf nl np nq nb ng : Nat} {KM : yS → Int32 → Int32 → Option (Int32 × yS)} {l1 : Int32} (hKM : ∀ S l1 l3, f_X12_plan_63 N S l1 l3 = KM S l1 l3) : ∀ (d i n m k : Nat) (g : Nat → Nat) (S M : yS), i + d = ng → d < n → d < m → k ≤ i → k ≤ 6 → ST cK nf nl np nq nb ng S M → DY cK nf nl np nq nb ng S M → WL ng k g S M → (∀ j, j < k → g j < i ∧ S.1 (512 + g j) 4 = 0) → ∃ S' M' k' g', f_X10_listWaiting_4 n N S (Int32.ofNat k) (Int32.ofNat i) = some (Int32.ofNat k', S') ∧ f_X12_plan_25 m N M l1 (Int32.ofNat k) (Int32.ofNat i) = KM M' l1 (Int32.ofNat k') ∧ k' ≤ 6 ∧ WL ng k' g' S' M' ∧ (∀ j, j < k' → S'.1 (512 + g' j) 4 = 0) ∧ FR (fun o k => o = 9 ∧ k = 0) S S' ∧ FR (fun o k => o = 10 ∧ k = 0) M M' := by
  intro d
  induction d with
  | zero =>
    intro i n m k g S M hi hn hm hk hk6 hT hD hW hg
    obtain ⟨n, rfl⟩ : ∃ x, n = x + 1 := ⟨n - 1, by omega⟩
    obtain ⟨m, rfl⟩ : ∃ x, m = x + 1 := ⟨m - 1, by omega⟩
    have ng24 : ng ≤ 24 := hT.2.2.2.2.2.2.1.2.2.2.2.1
    have c := hT.2.2.2.2.2.2.1.2.2.2
    have le := (nn_le c.1 (nn_lit i (by omega))).mpr (by omega)
    refine ⟨S, M, k, g, ?_, ?_, hk6, hW, fun j hj => (hg j hj).2, FR_refl _ _, FR_refl _ _⟩
    · rw [f_X10_listWaiting_4, if_pos le]
      rfl
    · rw [f_X12_plan_25, c.2.2, if_pos le, hKM]
  | succ d ih =>
    intro i n m k g S M hi hn hm hk hk6 hT hD hW hg
    obtain ⟨n, rfl⟩ : ∃ x, n = x + 1 := ⟨n - 1, by omega⟩
    obtain ⟨m, rfl⟩ : ∃ x, m = x + 1 := ⟨m - 1, by omega⟩
    have ng24 : ng ≤ 24 := hT.2.2.2.2.2.2.1.2.2.2.2.1
    have c := hT.2.2.2.2.2.2.1.2.2.2
    have ni := nn_lit i (by omega)
    have nk := nn_lit k (by omega)
    have nle : ¬ S.1 2 12 ≤ Int32.ofNat i := fun z => by have := (nn_le c.1 ni).mp z; omega
    have ex : S.2.1 2 11 i = 1 := (hT.2.2.2.2.2.2.2.2.2.2.1 i (by omega)).1
    by_cases q : k = 6
    · subst q
      refine ⟨S, M, 6, g, ?_, ?_, hk6, hW, fun j hj => (hg j hj).2, FR_refl _ _, FR_refl _ _⟩
      · rw [f_X10_listWaiting_4, if_neg nle, if_pos (Int32.le_refl _)]
        rfl
      · rw [f_X12_plan_25, c.2.2, if_neg nle, if_pos (show (6 : Int32) ≤ Int32.ofNat 6 by decide), hKM]
    · have n6 : ¬ Int32.ofNat 6 ≤ Int32.ofNat k := fun z => by have := (nn_le (nn_lit 6 (by decide)) nk).mp z; omega
      have u0 : M.2.1 8 48 (1345 + 5 * i + 0) = S.1 (512 + i) 4 := hD.2.2.2.2.2.2.2.1 i (by omega) 0 (by decide)
      have wm := w_m (N := N) ni (by omega : i < 24) c.2.2 (nn_idx' c.1 ni (by omega)) u0
      rw [f_X10_listWaiting_4, if_neg nle, if_neg n6, gR_nn ni (by omega) ex, e_waits, bV_s, f_X12_plan_25, c.2.2, if_neg nle, if_neg (show ¬ (6 : Int32) ≤ Int32.ofNat k from n6), wm, bV_s]
      unfold f_X10_listWaiting_37 f_X12_plan_57
      rw [y_int1]
      by_cases z : S.1 (512 + i) 4 = 0
      · have hT1 : ST cK nf nl np nq nb ng (yA S 9 0 (upd (S.2.1 9 0) k (Int32.ofNat i))) (yA M 10 0 (upd (M.2.1 10 0) k (Int32.ofNat i))) ∧ DY cK nf nl np nq nb ng (yA S 9 0 (upd (S.2.1 9 0) k (Int32.ofNat i))) (yA M 10 0 (upd (M.2.1 10 0) k (Int32.ofNat i))) := row_ST hT hD (FR_A _ _ _ _ (by unfold pRC; omega)) (FR_A _ _ _ _ (by unfold pRM; omega))
        obtain ⟨S', M', k', g', a1, a2, a3, a4, a5, a6, a7⟩ := ih (i + 1) n m (k + 1) (fun j => if j = k then i else g j) _ _ (by omega) (by omega) (by omega) (by omega) (by omega) hT1.1 hT1.2 ⟨fun j hj => by
          show nn ((yA S 9 0 (upd (S.2.1 9 0) k (Int32.ofNat i))).2.1 9 0 j) (if j = k then i else g j) ∧ (yA M 10 0 (upd (M.2.1 10 0) k (Int32.ofNat i))).2.1 10 0 j = (yA S 9 0 (upd (S.2.1 9 0) k (Int32.ofNat i))).2.1 9 0 j ∧ (if j = k then i else g j) < ng
          rw [yA_same, yA_same]
          by_cases e : j = k
          · rw [if_pos e, e, upd_s, upd_s]
            exact ⟨ni, rfl, by omega⟩
          · rw [if_neg e, upd_o _ _ e, upd_o _ _ e]
            exact hW.1 j (by omega), fun x y hxy hy => by
          show (if x = k then i else g x) < (if y = k then i else g y)
          rw [if_neg (show ¬ x = k by omega)]
          by_cases e : y = k
          · rw [if_pos e]; exact (hg x (by omega)).1
          · rw [if_neg e]; exact hW.2 x y hxy (by omega)⟩ (fun j hj => by
          show (if j = k then i else g j) < i + 1 ∧ S.1 (512 + (if j = k then i else g j)) 4 = 0
          by_cases e : j = k
          · rw [if_pos e]; exact ⟨by omega, z⟩
          · rw [if_neg e]
            have := hg j (by omega)
            exact ⟨by omega, this.2⟩)
        refine ⟨S', M', k', g', ?_, ?_, a3, a4, a5, FR_trans (FR_A _ _ _ _ ⟨rfl, rfl⟩) a6, FR_trans (FR_A _ _ _ _ ⟨rfl, rfl⟩) a7⟩
        · rw [b01_t z, if_neg (show ¬ (1 : Int32) = 0 by decide), gA_nn nk (by omega), sq_s, y_int1]
          exact a1
        · rw [b01_t z, if_neg (show ¬ (1 : Int32) = 0 by decide), gA_nn nk (by omega), sq_s, y_int1]
          exact a2
      · obtain ⟨S', M', k', g', a1, a2, a3, a4, a5, a6, a7⟩ := ih (i + 1) n m k g S M (by omega) (by omega) (by omega) (by omega) hk6 hT hD hW (fun j hj => by have := hg j hj; exact ⟨by omega, this.2⟩)
        refine ⟨S', M', k', g', ?_, ?_, a3, a4, a5, a6, a7⟩
        · rw [b01_f z, if_pos rfl]
          exact a1
        · rw [b01_f z, if_pos rfl]
          exact a2
/-- the others are given up -/
theorem others_loop {cK : Nat → Nat} {N nf nl np nq nb ng k : Nat} {g : Nat → Nat} {k76 : yS → Int32 → Int32 → Int32 → Int32 → Int32 → Option (Int32 × yS)} {kI l1 l4 l5 mask : Int32} (hk : nn kI k) (k6 : k ≤ 6) : ∀ (d i n m : Nat) (S M : yS), i + d = k → d < n → d < m → ST cK nf nl np nq nb ng S M → DY cK nf nl np nq nb ng S M → WL ng k g S M → (∀ j, i ≤ j → j < k → S.1 (512 + g j) 4 = 0) → ∃ S' M', f_X10_giveUpOthers_3 n N S kI mask (Int32.ofNat i) = some (0, S') ∧ (∃ m', 0 < m' ∧ f_X12_plan_87 m N k76 M l1 kI l4 l5 mask (Int32.ofNat i) = f_X12_plan_87 m' N k76 M' l1 kI l4 l5 mask (Int32.ofNat k)) ∧ ST cK nf nl np nq nb ng S' M' ∧ DY cK nf nl np nq nb ng S' M' ∧ QF cK S M S' M' := by
  intro d
  induction d with
  | zero =>
    intro i n m S M hi hn hm hT hD hW hg
    obtain ⟨n, rfl⟩ : ∃ x, n = x + 1 := ⟨n - 1, by omega⟩
    refine ⟨S, M, ?_, ⟨m, by omega, by rw [show i = k by omega]⟩, hT, hD, QF_refl _ _⟩
    rw [f_X10_giveUpOthers_3, if_pos ((nn_le hk (nn_lit i (by omega))).mpr (by omega))]
    rfl
  | succ d ih =>
    intro i n m S M hi hn hm hT hD hW hg
    obtain ⟨n, rfl⟩ : ∃ x, n = x + 1 := ⟨n - 1, by omega⟩
    obtain ⟨m, rfl⟩ : ∃ x, m = x + 1 := ⟨m - 1, by omega⟩
    have ni := nn_lit i (by omega)
    have nle : ¬ kI ≤ Int32.ofNat i := fun z => by have := (nn_le hk ni).mp z; omega
    have n6 : ¬ Int32.ofNat 6 ≤ Int32.ofNat i := fun z => by have := (nn_le (nn_lit 6 (by decide)) ni).mp z; omega
    rw [f_X10_giveUpOthers_3, if_neg nle, if_neg n6, f_X12_plan_87, if_neg nle]
    unfold f_X10_giveUpOthers_42 f_X12_plan_112
    rw [y_int1]
    by_cases z : ¬ ((mask >>> (Int32.ofNat i &&& 31)) &&& 1) = 0
    · rw [if_pos z, if_pos z]
      exact ih (i + 1) n m S M (by omega) (by omega) (by omega) hT hD hW (fun j a b => hg j (by omega) b)
    · obtain ⟨w1, w2, w3⟩ := hW.1 i (by omega)
      have ng24 : ng ≤ 24 := hT.2.2.2.2.2.2.1.2.2.2.2.1
      have ex : S.2.1 2 11 (g i) = 1 := (hT.2.2.2.2.2.2.2.2.2.2.1 (g i) w3).1
      have hs := hg i (Nat.le_refl _) (by omega)
      have hD1 := DY_st (v := 3) (t := S.1 2 13) hD hT.2.2.2.2.2.2.1 hT.2.1.2.1 w3 hs
      have hq : QF cK S M (yI (yI S (512 + g i) 4 3) (512 + g i) 6 (S.1 2 13)) (yA M 8 48 (upd (upd (M.2.1 8 48) (1345 + 5 * g i + 0) 3) (1345 + 5 * g i + 2) (S.1 2 13))) := ⟨FR_trans (FR_I _ _ _ _ (by unfold pQC; omega)) (FR_I _ _ _ _ (by unfold pQC; omega)), FR_A _ _ _ _ ⟨rfl, Or.inr (Or.inl rfl)⟩, fun i' a b => by rw [yA_same, upd_o _ _ (by omega), upd_o _ _ (by omega)]⟩
      have c9 : ∀ o k, o ≠ 512 + g i → (yI (yI S (512 + g i) 4 3) (512 + g i) 6 (S.1 2 13)).1 o k = S.1 o k := fun o k h => by rw [yI_1n _ _ (fun z => h z.1), yI_1n _ _ (fun z => h z.1)]
      obtain ⟨S', M', a1, ⟨m', a2, a2'⟩, a3, a4, a5⟩ := ih (i + 1) n m _ _ (by omega) (by omega) (by omega) (ST_QF hT hq) hD1 ⟨fun j hj => by
        rw [yA_2n _ _ (by decide)]
        exact hW.1 j hj, hW.2⟩ (fun j a b => by
        have := hW.2 i j (by omega) b
        rw [c9 _ _ (by omega)]
        exact hg j (by omega) b)
      refine ⟨S', M', ?_, ⟨m', a2, ?_⟩, a3, a4, QF_trans hq a5⟩
      · rw [if_neg z, gA_nn ni (by omega), gR_nn w1 (by omega) ex]
        unfold f_X1_finish f_X1_finish_0
        rw [sq_s, sq_s, bS_s]
        exact a1
      · rw [if_neg z, gA_nn ni (by omega), w2]
        unfold f_X12_endFlight f_X12_endFlight_0
        rw [em_flW w1 (by omega) (nn_l 0 (by decide)) (by decide), bS_s, gA_nn (nn_l 0 (by decide)) (by decide), em_flW w1 (by omega) (nn_l 2 (by decide)) (by decide), bS_s, bS_s]
        simp only [yA_yA, yA_same]
        rw [upd_o _ _ (by omega), hD.1]
        exact a2'
