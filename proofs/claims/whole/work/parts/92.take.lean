/-! BITS of a mask -/
set_option maxRecDepth 20000 in
theorem tb_sm : ∀ k, k < 30 → (Int32.ofNat k &&& 31).toBitVec.smod 32 = BitVec.ofNat 32 k := by decide +kernel
set_option maxRecDepth 20000 in
theorem tb_one : ∀ b, b < 30 → ∀ k, k < 30 → ((1 : Int32) <<< (Int32.ofNat b &&& 31)).toBitVec.getLsbD k = decide (k = b) := by decide +kernel
def tb (x : Int32) (k : Nat) : Bool := x.toBitVec.getLsbD k
theorem tb_test {x kI : Int32} {k : Nat} (hk : nn kI k) (h : k < 30) : (x >>> (kI &&& 31)) &&& 1 = 1 ↔ tb x k = true := by
  rw [hk.1, ← Int32.toBitVec_inj, Int32.toBitVec_and, Int32.toBitVec_shiftRight, tb_sm k h]
  show (x.toBitVec.sshiftRight (BitVec.ofNat 32 k).toNat) &&& 1#32 = 1#32 ↔ _
  rw [BitVec.and_one_eq_setWidth_ofBool_getLsbD, BitVec.toNat_ofNat, Nat.mod_eq_of_lt (by omega), BitVec.getLsbD_sshiftRight, if_pos (by omega)]
  unfold tb
  rw [Nat.add_zero]
  cases x.toBitVec.getLsbD k <;> simp
theorem tb_set {x bI : Int32} {b k : Nat} (hb : nn bI b) (h : b < 30) (hk : k < 30) : tb (x ||| ((1 : Int32) <<< (bI &&& 31))) k = (tb x k || decide (k = b)) := by
  unfold tb
  rw [hb.1, Int32.toBitVec_or, BitVec.getLsbD_or, tb_one b h k hk]
theorem tb_zero (k : Nat) : tb 0 k = false := by
  unfold tb
  simp
/-! A BAG GOES ABOARD -/
theorem embark_both {cK : Nat → Nat} {N b : Nat} {Sc Sm : yS} {bI now pI : Int32} (hb : b < 30) (hbI : nn bI b) (hD : DB1 b Sc Sm) (hs : DS1 cK b Sc Sm) (hn : Sm.2.1 8 48 0 = now) : ∃ Sc' Sm', f_X0_embark N Sc (384 + b) pI now = some (0, Sc') ∧ (∀ (K : yS → Option (Int32 × yS)), (bS (f_X12_setBag N Sm bI 0 (-1)) fun w1 S1 => bS (f_X12_setBag N S1 bI 1 pI) fun w2 S2 => bS (f_X12_led N S2 bI (100 + pI)) fun w3 S3 => K S3) = K Sm') ∧ DB1 b Sc' Sm' ∧ DS1 cK b Sc' Sm' ∧ FR (pBg b) Sc Sc' ∧ wF (235 + 37 * b) (272 + 37 * b) Sm Sm' ∧ Sc'.1 (384 + b) 5 = -1 ∧ Sc'.1 (384 + b) 8 = Sc.1 (384 + b) 8 ∧ Sc'.1 (384 + b) 6 = pI := by
  have d : ∀ j k, j < 5 → bSl j = k → Sm.2.1 8 48 (235 + 37 * b + j) = Sc.1 (384 + b) k := fun j k hj hk => by rw [← hk]; exact hD j hj
  have H4 : (yA Sm 8 48 (upd (upd (Sm.2.1 8 48) (235 + 37 * b + 0) (-1)) (235 + 37 * b + 1) pI)).2.1 8 48 (235 + 37 * b + 4) = (yI (yI Sc (384 + b) 5 (-1)) (384 + b) 6 pI).1 (384 + b) 10 := by
    rw [yA_same, upd_o _ _ (by omega), upd_o _ _ (by omega), yI_1n _ _ (by omega), yI_1n _ _ (by omega)]
    exact d 4 10 (by decide) rfl
  have HS : DS1 cK b (yI (yI Sc (384 + b) 5 (-1)) (384 + b) 6 pI) (yA Sm 8 48 (upd (upd (Sm.2.1 8 48) (235 + 37 * b + 0) (-1)) (235 + 37 * b + 1) pI)) := by
    obtain ⟨n, n1, n2, n3⟩ := hs
    refine ⟨n, ?_, n2, fun j hj => ?_⟩
    · rw [yI_1n _ _ (by omega), yI_1n _ _ (by omega)]
      exact n1
    · rw [yA_same, upd_o _ _ (by omega), upd_o _ _ (by omega)]
      exact n3 j hj
  have HN : (yA Sm 8 48 (upd (upd (Sm.2.1 8 48) (235 + 37 * b + 0) (-1)) (235 + 37 * b + 1) pI)).2.1 8 48 0 = now := by
    rw [yA_same, upd_o _ _ (by omega), upd_o _ _ (by omega)]
    exact hn
  obtain ⟨Sc', Sm', a1, a2, a3, a4, a5, a6⟩ := led_both (N := N) (pl := 100 + pI) hb hbI H4 HS HN
  have g : ∀ k, k ≠ 9 → k ≠ 10 → Sc'.1 (384 + b) k = (yI (yI Sc (384 + b) 5 (-1)) (384 + b) 6 pI).1 (384 + b) k := fun k h1 h2 => (a5 (384 + b) k (fun z => by have := z.2; omega)).1
  have g5 : Sc'.1 (384 + b) 5 = -1 := by rw [g 5 (by decide) (by decide), yI_1n _ _ (by omega), yI_1s]
  have g6 : Sc'.1 (384 + b) 6 = pI := by rw [g 6 (by decide) (by decide), yI_1s]
  have g7 : Sc'.1 (384 + b) 7 = Sc.1 (384 + b) 7 := by rw [g 7 (by decide) (by decide), yI_1n _ _ (by omega), yI_1n _ _ (by omega)]
  have g8 : Sc'.1 (384 + b) 8 = Sc.1 (384 + b) 8 := by rw [g 8 (by decide) (by decide), yI_1n _ _ (by omega), yI_1n _ _ (by omega)]
  refine ⟨Sc', Sm', ?_, fun K => ?_, ?_, a4, ?_, ?_, g5, g8, g6⟩
  · unfold f_X0_embark f_X0_embark_0
    rw [sq_s, sq_s, a1, bS_s]
  · rw [em_setBag hbI hb (nn_l 0 (by decide)) (by decide), bS_s, em_setBag hbI hb (nn_l 1 (by decide)) (by decide), bS_s]
    simp only [yA_yA, yA_same]
    rw [a2, bS_s]
  · intro j hj
    rcases (show j = 0 ∨ j = 1 ∨ j = 2 ∨ j = 3 ∨ j = 4 by omega) with rfl | rfl | rfl | rfl | rfl
    · rw [a6.2 _ (by omega), yA_same, upd_o _ _ (by omega), upd_s]; exact g5.symm
    · rw [a6.2 _ (by omega), yA_same, upd_s]; exact g6.symm
    · rw [a6.2 _ (by omega), yA_same, upd_o _ _ (by omega), upd_o _ _ (by omega)]; exact (d 2 7 (by decide) rfl).trans g7.symm
    · rw [a6.2 _ (by omega), yA_same, upd_o _ _ (by omega), upd_o _ _ (by omega)]; exact (d 3 8 (by decide) rfl).trans g8.symm
    · exact a3
  · exact FR_trans (FR_trans (FR_I _ _ _ _ ⟨rfl, by omega⟩) (FR_I _ _ _ _ ⟨rfl, by omega⟩)) (FR_mono a5 (fun o k z => ⟨z.1, by omega⟩))
  · refine wF_trans ⟨FR_A _ _ _ _ ⟨rfl, rfl⟩, fun i hi => ?_⟩ (wF_mono a6 (by omega) (by omega))
    rw [yA_same, upd_o _ _ (by omega), upd_o _ _ (by omega)]
/-! THE CHOICE of the next bag -/
theorem oB_asym {S : yS} {a b : Nat} (h : oB S a b) : ¬ oB S b a := by
  intro g
  unfold oB at h g
  rcases h with h | ⟨h1, h2 | ⟨h2, h3⟩⟩ <;> rcases g with g | ⟨g1, g2 | ⟨g2, g3⟩⟩
  · exact Int32.lt_irrefl (Int32.lt_trans h g)
  · rw [g1] at h; exact Int32.lt_irrefl h
  · rw [g1] at h; exact Int32.lt_irrefl h
  · rw [h1] at g; exact Int32.lt_irrefl g
  · exact Int32.lt_irrefl (Int32.lt_trans h2 g2)
  · rw [g2] at h2; exact Int32.lt_irrefl h2
  · rw [h1] at g; exact Int32.lt_irrefl g
  · rw [h2] at g2; exact Int32.lt_irrefl g2
  · omega
/-- what the choosing loop does at its end -/
def chF (N : Nat) (k214 : yS → Int32 → Int32 → Int32 → Int32 → Int32 → Int32 → Option (Int32 × yS)) (S : yS) (l2 l4 l5 l6 l7 l8 l9 : Int32) : Option (Int32 × yS) := if ¬ l9 = -1 then gA 30 l9 fun j1 => if (S.2.1 8 24 j1) = l7 then f_X12_start_397 N k214 S l2 l4 l5 l6 l7 (l8 ||| (1 <<< (l9 &&& 31))) l9 else gA 12 l4 fun j2 => gA 30 l9 fun j3 => gA 64 ((8 * l7) + (S.2.1 8 24 j3)) fun j4 => gA 30 l9 fun j5 => gA 64 ((8 * l5) + (S.2.1 8 24 j5)) fun j6 => if ¬ ((S.2.1 8 4 j2) + (S.2.1 8 10 j4)) = (S.2.1 8 10 j6) then f_X12_start_402 N k214 S l2 l4 l5 l6 l7 (l8 ||| (1 <<< (l9 &&& 31))) l9 0 else f_X12_start_397 N k214 S l2 l4 l5 l6 l7 (l8 ||| (1 <<< (l9 &&& 31))) l9 else some (0, S)
/-- b is the best of those below k that are left -/
def chB (Sc : yS) (P : Nat → Prop) (k : Nat) : Option Nat → Prop
  | none => ∀ a, a < k → ¬ P a
  | some b => b < k ∧ P b ∧ ∀ a, a < k → P a → a = b ∨ oB Sc b a
theorem choose_loop {N nb : Nat} {Sc Sm : yS} {l2 l4 l5 l6 l7 l8 : Int32} {k214 : yS → Int32 → Int32 → Int32 → Int32 → Int32 → Int32 → Option (Int32 × yS)} (hn : nn (Sm.1 8 28) nb) (hnb : nb ≤ 30) (hD : ∀ b, b < nb → DB1 b Sc Sm) (hK : ∀ b, b < nb → Sm.2.1 8 26 b = Sc.1 (384 + b) 3 ∧ Sm.2.1 8 27 b = Sc.1 (384 + b) 4) : ∀ (d k n : Nat) (best : Option Nat), k + d = nb → d < n → chB Sc (fun b => ¬ tb l8 b = true ∧ Sc.1 (384 + b) 5 = l5) k best → ∃ best', chB Sc (fun b => ¬ tb l8 b = true ∧ Sc.1 (384 + b) 5 = l5) nb best' ∧ f_X12_start_220 n N k214 Sm l2 l4 l5 l6 l7 l8 (encN best) (Int32.ofNat k) = chF N k214 Sm l2 l4 l5 l6 l7 l8 (encN best') := by
  intro d
  induction d with
  | zero =>
    intro k n best hk hm hb
    obtain ⟨n, rfl⟩ : ∃ x, n = x + 1 := ⟨n - 1, by omega⟩
    have e : k = nb := by omega
    subst e
    refine ⟨best, hb, ?_⟩
    rw [f_X12_start_220, if_pos ((nn_le hn (nn_lit k (by omega))).mpr (Nat.le_refl _))]
    rfl
  | succ d ih =>
    intro k n best hk hm hb
    obtain ⟨n, rfl⟩ : ∃ x, n = x + 1 := ⟨n - 1, by omega⟩
    have nk := nn_lit k (by omega)
    have k30 : k < 30 := by omega
    have step : ∀ best2, chB Sc (fun b => ¬ tb l8 b = true ∧ Sc.1 (384 + b) 5 = l5) (k + 1) best2 → f_X12_start_220 (n + 1) N k214 Sm l2 l4 l5 l6 l7 l8 (encN best) (Int32.ofNat k) = f_X12_start_220 n N k214 Sm l2 l4 l5 l6 l7 l8 (encN best2) (Int32.ofNat (k + 1)) → ∃ best', chB Sc (fun b => ¬ tb l8 b = true ∧ Sc.1 (384 + b) 5 = l5) nb best' ∧ f_X12_start_220 (n + 1) N k214 Sm l2 l4 l5 l6 l7 l8 (encN best) (Int32.ofNat k) = chF N k214 Sm l2 l4 l5 l6 l7 l8 (encN best') := by
      intro best2 h1 h2
      rw [h2]
      exact ih (k + 1) n best2 (by omega) (by omega) h1
    have keep : ∀ hP : ¬ (¬ tb l8 k = true ∧ Sc.1 (384 + k) 5 = l5), chB Sc (fun b => ¬ tb l8 b = true ∧ Sc.1 (384 + b) 5 = l5) (k + 1) best := by
      intro hP
      cases best with
      | none =>
        intro a ha hp
        by_cases e : a = k
        · rw [e] at hp; exact hP hp
        · exact hb a (by omega) hp
      | some b =>
        obtain ⟨b1, b2, b3⟩ := hb
        refine ⟨by omega, b2, fun a ha hp => ?_⟩
        by_cases e : a = k
        · rw [e] at hp; exact absurd hp hP
        · exact b3 a (by omega) hp
    have nle : ¬ Sm.1 8 28 ≤ Int32.ofNat k := fun q => by have := (nn_le hn nk).mp q; omega
    have w0 : Sm.2.1 8 48 (235 + 37 * k + 0) = Sc.1 (384 + k) 5 := hD k (by omega) 0 (by decide)
    have e316 : ∀ x, f_X12_start_316 N k214 (fun S l2 l4 l5 l6 l7 l8 l9 l10 => f_X12_start_220 n N k214 S l2 l4 l5 l6 l7 l8 l9 l10) Sm l2 l4 l5 l6 l7 l8 x (Int32.ofNat k) = f_X12_start_220 n N k214 Sm l2 l4 l5 l6 l7 l8 x (Int32.ofNat (k + 1)) := by
      intro x
      unfold f_X12_start_316
      rw [y_int1]
    have e312 : f_X12_start_312 N k214 (fun S l2 l4 l5 l6 l7 l8 l9 l10 => f_X12_start_220 n N k214 S l2 l4 l5 l6 l7 l8 l9 l10) Sm l2 l4 l5 l6 l7 l8 (Int32.ofNat k) = f_X12_start_220 n N k214 Sm l2 l4 l5 l6 l7 l8 (Int32.ofNat k) (Int32.ofNat (k + 1)) := by
      unfold f_X12_start_312
      exact e316 _
    by_cases ct : tb l8 k = true
    · refine step best (keep (fun z => z.1 ct)) ?_
      rw [f_X12_start_220, if_neg nle, if_pos ((tb_test nk k30).mpr ct), e316]
    · by_cases cf : Sc.1 (384 + k) 5 = l5
      · cases best with
        | none =>
          refine step (some k) ⟨by omega, ⟨ct, cf⟩, fun a ha hp => ?_⟩ ?_
          · by_cases e : a = k
            · exact Or.inl e
            · exact absurd hp (hb a (by omega))
          · rw [f_X12_start_220, if_neg nle, if_neg (fun z => ct ((tb_test nk k30).mp z)), em_bagOf nk k30 (nn_l 0 (by decide)) (by decide), bV_s, w0, if_pos cf, if_pos (show encN none = -1 from rfl), e312]
            rfl
        | some b =>
          obtain ⟨b1, b2, b3⟩ := hb
          have nb' := nn_lit b (by omega)
          have tr : ∀ a, a < k + 1 → (¬ tb l8 a = true ∧ Sc.1 (384 + a) 5 = l5) → oB Sc k b → a = k ∨ oB Sc k a := by
            intro a ha hp ho
            by_cases e : a = k
            · exact Or.inl e
            · rcases b3 a (by omega) hp with z | z
              · rw [z]; exact Or.inr ho
              · right
                unfold oB at ho z ⊢
                rcases ho with ho | ⟨o1, o2 | ⟨o2, o3⟩⟩ <;> rcases z with z | ⟨z1, z2 | ⟨z2, z3⟩⟩
                · exact Or.inl (Int32.lt_trans ho z)
                · exact Or.inl (z1 ▸ ho)
                · exact Or.inl (z1 ▸ ho)
                · exact Or.inl (by rw [o1]; exact z)
                · exact Or.inr ⟨o1.trans z1, Or.inl (Int32.lt_trans o2 z2)⟩
                · exact Or.inr ⟨o1.trans z1, Or.inl (z2 ▸ o2)⟩
                · exact Or.inl (by rw [o1]; exact z)
                · exact Or.inr ⟨o1.trans z1, Or.inl (by rw [o2]; exact z2)⟩
                · omega
          have kept : ∀ ho : oB Sc b k, chB Sc (fun b => ¬ tb l8 b = true ∧ Sc.1 (384 + b) 5 = l5) (k + 1) (some b) := fun ho => ⟨by omega, b2, fun a ha hp => by
            by_cases e : a = k
            · rw [e]; exact Or.inr ho
            · exact b3 a (by omega) hp⟩
          obtain ⟨kk1, kk2⟩ := hK k (by omega)
          obtain ⟨kb1, kb2⟩ := hK b (by omega)
          have em : f_X12_start_220 (n + 1) N k214 Sm l2 l4 l5 l6 l7 l8 (encN (some b)) (Int32.ofNat k) = if Sc.1 (384 + k) 3 < Sc.1 (384 + b) 3 then f_X12_start_220 n N k214 Sm l2 l4 l5 l6 l7 l8 (Int32.ofNat k) (Int32.ofNat (k + 1)) else if ¬ Sc.1 (384 + k) 3 = Sc.1 (384 + b) 3 then f_X12_start_220 n N k214 Sm l2 l4 l5 l6 l7 l8 (encN (some b)) (Int32.ofNat (k + 1)) else if Sc.1 (384 + b) 4 ≤ Sc.1 (384 + k) 4 then f_X12_start_220 n N k214 Sm l2 l4 l5 l6 l7 l8 (encN (some b)) (Int32.ofNat (k + 1)) else f_X12_start_220 n N k214 Sm l2 l4 l5 l6 l7 l8 (Int32.ofNat k) (Int32.ofNat (k + 1)) := by
            rw [f_X12_start_220, if_neg nle, if_neg (fun z => ct ((tb_test nk k30).mp z)), em_bagOf nk k30 (nn_l 0 (by decide)) (by decide), bV_s, w0, if_pos cf, if_neg (encN_ne b (by omega))]
            simp only [show encN (some b) = Int32.ofNat b from rfl, gA_nn nk k30, gA_nn nb' (show b < 30 by omega), kk1, kk2, kb1, kb2, e312, e316]
          by_cases r1 : Sc.1 (384 + k) 3 < Sc.1 (384 + b) 3
          · exact step (some k) ⟨by omega, ⟨ct, cf⟩, fun a ha hp => tr a ha hp (Or.inl r1)⟩ (by rw [em, if_pos r1]; rfl)
          · by_cases r2 : Sc.1 (384 + k) 3 = Sc.1 (384 + b) 3
            · by_cases r3 : Sc.1 (384 + b) 4 ≤ Sc.1 (384 + k) 4
              · refine step (some b) (kept ?_) (by rw [em, if_neg r1, if_neg (fun z => z r2), if_pos r3])
                by_cases r4 : Sc.1 (384 + b) 4 = Sc.1 (384 + k) 4
                · exact Or.inr ⟨r2.symm, Or.inr ⟨r4, by omega⟩⟩
                · exact Or.inr ⟨r2.symm, Or.inl (Int32.lt_of_le_of_ne r3 r4)⟩
              · exact step (some k) ⟨by omega, ⟨ct, cf⟩, fun a ha hp => tr a ha hp (Or.inr ⟨r2, Or.inl (Int32.not_le.mp r3)⟩)⟩ (by rw [em, if_neg r1, if_neg (fun z => z r2), if_neg r3]; rfl)
            · refine step (some b) (kept (Or.inl ?_)) (by rw [em, if_neg r1, if_pos r2])
              exact Int32.lt_of_le_of_ne (Int32.not_lt.mp r1) (fun z => r2 z.symm)
      · refine step best (keep (fun z => cf z.2)) ?_
        rw [f_X12_start_220, if_neg nle, if_neg (fun z => ct ((tb_test nk k30).mp z)), em_bagOf nk k30 (nn_l 0 (by decide)) (by decide), bV_s, w0, if_neg cf, e316]
