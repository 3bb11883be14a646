/-! TRIED -/
/-- the ground of a trial -/
def TB (cK : Nat → Nat) (kw nf nl np nq nb ng : Nat) (O OM : yS) : Prop := ST cK nf nl np nq nb ng O OM ∧ DY cK nf nl np nq nb ng O OM ∧ KP np nq nb ng O OM ∧ RW kw O OM ∧ cK 1000 = kw ∧ ∀ b, b < nb → nn (O.1 (384 + b) 10) (cK (1001 + b))
/-- in the midst of it -/
def TS (cK : Nat → Nat) (nf nl np nq nb ng : Nat) (O OM S M : yS) : Prop := ST cK nf nl np nq nb ng S M ∧ DY cK nf nl np nq nb ng S M ∧ FR pKT O S ∧ FR pKM OM M
theorem TS_QH {cK : Nat → Nat} {nf nl np nq nb ng : Nat} {O OM S M S' M' : yS} (h : TS cK nf nl np nq nb ng O OM S M) (hT : ST cK nf nl np nq nb ng S' M') (hD : DY cK nf nl np nq nb ng S' M') (q : QH cK S M S' M') : TS cK nf nl np nq nb ng O OM S' M' := ⟨hT, hD, FR_trans h.2.2.1 (FR_mono q.1 (fun o k z => Or.inl z)), FR_trans h.2.2.2 (FR_mono q.2.1 (fun o k z => by unfold pQM at z; unfold pKM; omega))⟩
/-- the words and steps that were there stand as they were -/
theorem rows_same {cK : Nat → Nat} {nf nl np nq nb ng kw : Nat} {O OM S M : yS} (hO : DY cK nf nl np nq nb ng O OM) (hD : DY cK nf nl np nq nb ng S M) (h : cK 1000 = kw) : (∀ j i, 2 ≤ j → j < 9 → i < kw → S.2.1 3 j i = O.2.1 3 j i) ∧ ∀ b, b < nb → ∀ j, j < 2 * cK (1001 + b) → S.2.1 (384 + b) 9 j = O.2.1 (384 + b) 9 j := by
  refine ⟨fun j i a b c => ?_, fun b hb j hj => ?_⟩
  · obtain ⟨k, _, _, d⟩ := hD.2.2.2.1
    obtain ⟨k', _, _, d'⟩ := hO.2.2.2.1
    rw [d j i a b (by omega), d' j i a b (by omega)]
  · obtain ⟨_, ⟨n, _, ⟨_, _, d⟩, _⟩, _⟩ := hD.2.2.2.2.2.2.1 b hb
    obtain ⟨_, ⟨n', _, ⟨_, _, d'⟩, _⟩, _⟩ := hO.2.2.2.2.2.2.1 b hb
    rw [d j hj, d' j hj]
theorem pI1_KT {o k : Nat} (h : pI1 o k) : pKT o k := by
  obtain ⟨a, b⟩ := h
  unfold pKT pQH pQC
  rcases a with a | a
  · exact Or.inl (Or.inl (Or.inr (Or.inr (Or.inl ⟨a, b⟩))))
  · exact Or.inl (Or.inl (Or.inr (Or.inr (Or.inr (Or.inl ⟨a, b⟩)))))
theorem end_trial {cK : Nat → Nat} {N kw nf nl np nq nb ng : Nat} {O OM S M : yS} (hN : 2400 < N) (hB : TB cK kw nf nl np nq nb ng O OM) (hS : TS cK nf nl np nq nb ng O OM S M) : ∃ v S1 M1 S' M', f_X10_coinNow N S = some (v, S1) ∧ f_X12_coinNow N M = some (v, M1) ∧ f_X10_giveBack N S1 = some (0, S') ∧ f_X12_putBack N M1 = some (0, M') ∧ TS cK nf nl np nq nb ng O OM S' M' ∧ RSd np nq nb ng O S' ∧ (∀ i, i < 2305 → M'.2.1 8 48 i = OM.2.1 8 48 i) ∧ kR S M S' M' := by
  obtain ⟨bT, bD, bP, bW, b1, bS⟩ := hB
  obtain ⟨hT, hD, F, G⟩ := hS
  obtain ⟨v, S1, M1, e1, e2, e3, e4⟩ := coinNow_both (by omega : 60 < N) hT hD
  obtain ⟨hT1, hD1⟩ := irr_both hT hD e3 (pPy_pI e4)
  have F1 : FR pKT O S1 := FR_trans F (FR_mono e3 (fun o k z => pI1_KT z))
  have G1 : FR pKM OM M1 := FR_trans G (FR_mono e4 (fun o k z => by unfold pPy at z; unfold pKM; omega))
  obtain ⟨S', g1, g2, g3, g4⟩ := back_class (M := M1) hN bT bD bP (FR_mono F1 (fun o k z => Or.inl z))
  obtain ⟨A, m1, m2⟩ := back_m (N := N) (S := M1) hN
  have F2 : FR pKT O S' := FR_trans F1 (FR_mono g3 (fun o k z => Or.inl z))
  have G2 : FR pKM OM (yA M1 8 48 A) := FR_trans G1 (FR_A _ _ _ _ (Or.inl ⟨rfl, by omega⟩))
  have w : ∀ i, i < 2305 → (yA M1 8 48 A).2.1 8 48 i = OM.2.1 8 48 i := fun i hi => by
    rw [yA_same, m2 i hi, (G1 8 49 (by unfold pKM; omega)).2]
    exact bP.2.2.2.2.2.2.2 i hi
  obtain ⟨r1, r2⟩ := rows_same bD hD1 b1
  obtain ⟨hT2, hD2⟩ := fin_both bT bD bW b1 bS F2 g4 (fun j i a b c => by rw [g2]; exact r1 j i a b c) (fun b hb j hj => by rw [g2]; exact r2 b hb j hj) G2 w
  exact ⟨v, S1, M1, S', _, e1, e2, g1, m1, ⟨hT2, hD2, F2, G2⟩, g4, w, kR_trans (kR_FR e3 e4 (fun k z => by unfold pI1 at z; omega) (fun k a b z => by unfold pPy at z; omega)) (kR_FR g3 (FR_A (p := fun o k => o = 8 ∧ k = 48) _ _ _ _ ⟨rfl, rfl⟩) (fun k z => by unfold pQH pQC at z; omega) (fun k a b z => by have := z.2; omega))⟩
/-- out of a trial: the ghosts go -/
theorem out_trial {cK cK0 : Nat → Nat} {nf nl np nq nb ng r x : Nat} {Sc Sm S M : yS} (hA : RA cK0 nf nl np nq nb ng r x Sc Sm) (e : ∀ z, z < 1000 → cK z = cK0 z) (hT : ST cK nf nl np nq nb ng S M) (hD : DY cK nf nl np nq nb ng S M) : ST cK0 nf nl np nq nb ng S M ∧ DY cK0 nf nl np nq nb ng S M := by
  have hT0 := ST_gh hT (fun z hz => (e z hz).symm)
  refine ⟨hT0, DY_gh hD hT0.1.2.1 hT0.2.1.2.1 hT0.2.2.2.2.2.2.1.1.2.1 hT0.2.2.2.2.2.2.1.2.2.1.2.1 (fun z hz => (e z hz).symm) (fun k _ => ?_) (fun b n hb _ _ => ?_)⟩
  · rw [hA.2.2.2.2 1000 (by decide) (by decide)]
    exact ⟨Nat.zero_le _, fun j i _ _ h => absurd h (by omega)⟩
  · have := hT0.2.2.2.2.2.2.1.2.2.1.2.1
    rw [hA.2.2.2.2 (1001 + b) (by omega) (by omega)]
    exact ⟨Nat.zero_le _, fun j h => absurd h (by omega)⟩
def okTr (now l : Int32) : Prop := (0 ≤ l ∧ l ≤ 200) ∧ ¬ 3000 < now + l
theorem e_try {N : Nat} {S : yS} {l : Int32} : (okTr (S.1 2 13) l → f_X11_mayTry N S l = some 1) ∧ (¬ okTr (S.1 2 13) l → f_X11_mayTry N S l = some 0) := by
  unfold f_X11_mayTry f_X11_mayTry_0 f_X11_mayTry_30 f_X11_mayTry_31 okTr
  rw [e_within, bV_s, gP_t (show (0 : Int32) = 0 ∨ (0 : Int32) = 1 from Or.inl rfl), gP_t (show (1 : Int32) = 0 ∨ (1 : Int32) = 1 from Or.inr rfl)]
  by_cases c : 0 ≤ l ∧ l ≤ 200
  · rw [b01_t c, if_neg (show ¬ (1 : Int32) = 0 by decide)]
    by_cases d : 3000 < S.1 2 13 + l
    · rw [if_pos d]; exact ⟨fun z => absurd d z.2, fun _ => rfl⟩
    · rw [if_neg d]; exact ⟨fun _ => rfl, fun z => absurd ⟨c, d⟩ z⟩
  · rw [b01_f c, if_pos rfl]; exact ⟨fun z => absurd z.1 c, fun _ => rfl⟩
theorem em_try {N : Nat} {S : yS} {now l : Int32} (h : S.2.1 8 48 0 = now) : (okTr now l → f_X12_canTry N S l = some 1) ∧ (¬ okTr now l → f_X12_canTry N S l = some 0) := by
  unfold f_X12_canTry f_X12_canTry_0 f_X12_canTry_29 f_X12_canTry_30 okTr
  rw [e_in, bV_s, gP_t (show (0 : Int32) = 0 ∨ (0 : Int32) = 1 from Or.inl rfl), gP_t (show (1 : Int32) = 0 ∨ (1 : Int32) = 1 from Or.inr rfl), gA_nn (nn_l 0 (by decide)) (by decide), h]
  by_cases c : 0 ≤ l ∧ l ≤ 200
  · rw [b01_t c, if_neg (show ¬ (1 : Int32) = 0 by decide)]
    by_cases d : 3000 < now + l
    · rw [if_pos d]; exact ⟨fun z => absurd d z.2, fun _ => rfl⟩
    · rw [if_neg d]; exact ⟨fun _ => rfl, fun z => absurd ⟨c, d⟩ z⟩
  · rw [b01_f c, if_pos rfl]; exact ⟨fun z => absurd z.1 c, fun _ => rfl⟩
theorem okTr_n {now l : Int32} {t : Nat} (ht : nn now t) (t3 : t ≤ 3000) (h : okTr now l) : ∃ q, nn l q ∧ q ≤ 200 ∧ t + q ≤ 3000 := by
  have hq := nn_of h.1.1
  have q2 := (nn_le hq (nn_l 200 (by decide))).mp h.1.2
  have hs := nn_add ht hq (by omega)
  exact ⟨_, hq, q2, Nat.le_of_not_lt (fun z => h.2 ((nn_lt (nn_l 3000 (by decide)) hs).mpr z))⟩
theorem C_tried {N : Nat} {Sc Sm : yS} (h : RAe Sc Sm) (hN : 2400 < N) (l : Int32) : cAll (f_X11_tried N Sc l) (f_X12_tried N Sm l) := by
  have h1 := RA_clear h
  obtain ⟨cK0, nf, nl, np, nq, nb, ng, r, x, hA⟩ := h
  obtain ⟨hT1, hD1⟩ := clear_both hA.1 hA.2.1
  obtain ⟨t, ht, t3⟩ := hD1.2.2.1
  obtain ⟨c1, c2⟩ := e_try (N := N) (S := Sc) (l := l)
  obtain ⟨m1, m2⟩ := em_try (N := N) (S := yI Sm 8 47 0) (l := l) hD1.1
  unfold f_X11_tried f_X11_tried_0 f_X12_tried f_X12_tried_0
  rw [sq_s]
  by_cases ok : okTr (Sc.1 2 13) l
  · obtain ⟨q, q1, q2, q3⟩ := okTr_n ht t3 ok
    obtain ⟨cK, O, OM, kw, k1, k2, k3, k4, k5, k6, k7, k8, k9, k10, k11, k12⟩ := keep_both hN hT1 hD1
    have tO : nn (O.1 2 13) t := by rw [(k12 2 13 (by unfold pKK; omega)).1]; exact ht
    have hB : TB cK kw nf nl np nq nb ng O OM := ⟨k3, k4, k5, k9, k10, k11⟩
    obtain ⟨S1, M1, g1, g2, g3, g4, g5, g6⟩ := go_both (N := N) (by omega) (by omega) q1 k3 k4 tO q3
    have hS := TS_QH (O := O) (OM := OM) ⟨k3, k4, FR_refl _ _, FR_refl _ _⟩ g3 g4 g6
    obtain ⟨v, S2, M2, S', M', e1, e2, e3, e4, e5, e6, e7, e8⟩ := end_trial hN hB hS
    obtain ⟨a1, a2⟩ := out_trial hA k7 e5.1 e5.2.1
    refine ⟨v, S', M', ?_, ?_, RA_kR hA a1 a2 (kR_trans kR_cl (kR_trans k6 (kR_trans (kR_QH g6) e8)))⟩
    · rw [c1 ok, bV_s, if_pos (show ¬ (1 : Int32) = 0 by decide), k1, bS_s, g1, bS_s, e1, bS_s, e3, bS_s]
    · rw [m1 ok, bV_s, if_pos (show ¬ (1 : Int32) = 0 by decide), k2, bS_s, g2, bS_s, e2, bS_s, e4, bS_s]
  · rw [c2 ok, bV_s, m2 ok, bV_s, if_neg (show ¬ ¬ (0 : Int32) = 0 from fun w => w rfl), if_neg (show ¬ ¬ (0 : Int32) = 0 from fun w => w rfl)]
    exact ⟨-1, _, _, rfl, rfl, h1⟩
