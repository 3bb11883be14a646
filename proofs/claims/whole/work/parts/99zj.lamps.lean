/-! LAMPS, the call -/
theorem lp_2 {cK : Nat → Nat} {N n0 kw nf nl np nq nb ng t q D : Nat} {O OM : yS} {l1 l2 : Int32} (h : EN cK N kw nf nl np nq nb ng t q D 2 O OM l1 l2) : ∀ (d a m : Nat) (S M : yS) (l4 l5 l6 r4 r5 : Int32), a + d = nf → d < m → JL cK nf nl np nq nb ng D 2 O OM (2 ^ (8 - a)) S M l4 l5 l6 r4 r5 → lmP cK N n0 nf nl np nq nb ng D 2 O OM l1 l2 (2 ^ (8 - a)) 0 S l4 l5 l6 (f_X12_lamps_82 m N M l1 l2 r4 r5 (Int32.ofNat a)) (endM l1) := by
  have h0 := h
  obtain ⟨hN, hB, ht, hq, q2, h3, hk, hD, nf8⟩ := h
  intro d
  induction d with
  | zero =>
    intro a m S M l4 l5 l6 r4 r5 ha hm hJ
    obtain ⟨m, rfl⟩ : ∃ x, m = x + 1 := ⟨m - 1, by omega⟩
    have e : a = nf := by omega
    subst e
    have hT := hJ.1.1
    have na := nn_lit a (by omega)
    have m1 : nn (M.1 8 1) a := by rw [hT.1.2.2.1]; exact hT.1.1
    have p2 : 2 ^ (8 - a) ≤ 256 := Nat.pow_le_pow_right (n := 2) (by decide) (show 8 - a ≤ 8 by omega)
    have u := lmP_skip (N := N) (n0 := n0) (l2 := l2) (d := 2 ^ (8 - a)) (p := 0) (y := endM l1) hk (by omega) (by rw [Nat.zero_add]; exact hJ) (fun m _ b z => by
      have := pw_3 a (by omega) m (by omega) (by omega) (fun i i1 i3 => ((hD i i1).mp (z.2 i i1 i3)).1)
      rw [z.1] at this
      exact absurd this (by decide))
    rw [Nat.zero_add] at u
    rw [f_X12_lamps_82, if_neg (show ¬ l1 ≤ 0 from fun z => by have := (nn_le hk (nn_l 0 (by decide))).mp z; omega)]
    unfold f_X12_lamps_96
    rw [if_pos ((nn_le m1 na).mpr (Nat.le_refl _)), sq_s]
    exact u
  | succ d ih =>
    intro a m S M l4 l5 l6 r4 r5 ha hm hJ
    obtain ⟨m, rfl⟩ : ∃ x, m = x + 1 := ⟨m - 1, by omega⟩
    have hT := hJ.1.1
    have na := nn_lit a (by omega)
    have m1 : nn (M.1 8 1) nf := by rw [hT.1.2.2.1]; exact hT.1.1
    obtain ⟨p5, p6⟩ := pw_7 a (by omega)
    have e8 : 8 - (a + 1) = 7 - a := by omega
    rw [f_X12_lamps_82, if_neg (show ¬ l1 ≤ 0 from fun z => by have := (nn_le hk (nn_l 0 (by decide))).mp z; omega)]
    unfold f_X12_lamps_96
    rw [if_neg (show ¬ M.1 8 1 ≤ Int32.ofNat a from fun z => by have := (nn_le m1 na).mp z; omega), if_neg (show ¬ l1 ≤ 1 from fun z => by have := (nn_le hk (nn_l 1 (by decide))).mp z; omega)]
    unfold f_X12_lamps_112
    rw [y_int1, show 2 ^ (8 - a) = 2 ^ (7 - a) + 2 ^ (8 - (a + 1)) by rw [e8]; exact p5]
    refine lmP_of (in_2 (k82 := fun S l1 l2 l4 l5 l6 => f_X12_lamps_82 m N S l1 l2 l4 l5 l6) h0 (by omega) d (a + 1) N S M l4 l5 l6 r4 r5 (by omega) (by omega) (by omega) (by rw [e8, ← p5]; exact hJ)) (fun S M l4 l5 l6 r4 r5 hJ => ?_)
    have := ih (a + 1) m S M l4 l5 l6 r4 r5 (by omega) (by omega) (by rw [e8]; exact hJ)
    rw [e8] at this
    exact this
/-- the class at the end -/
theorem end_c {N n0 nf D bm : Nat} {S : yS} {l1 l2 l5 l6 : Int32} (hN : 60 < N) (n1 : 1 ≤ n0) (h : nn (S.1 1 3) nf) (nf8 : nf ≤ 8) (hm : bm < 256) : ∃ R, lmC N n0 0 D l1 l2 S (Int32.ofNat bm) l5 l6 = some (l5, yI (yA S 0 7 R) 0 8 (Int32.ofNat (cntB bm nf))) ∧ ∀ j, j < nf → mB bm j = true → R (cntB bm j) = Int32.ofNat j := by
  obtain ⟨R, r1, _, r3⟩ := list_loop (N := N) (m := bm) h nf8 hm nf 0 N (S.2.1 0 7) (by omega) (by omega)
  obtain ⟨n, rfl⟩ : ∃ x, n0 = x + 1 := ⟨n0 - 1, by omega⟩
  refine ⟨R, ?_, fun j a b => r3 j (Nat.zero_le _) a b⟩
  unfold lmC
  show f_X11_lamps_56 (n + 1) N S l1 l2 _ _ l5 l6 (Int32.ofNat 0 - 1) = _
  rw [yA_self] at r1
  have r1' : f_X2_listFields N S (Int32.ofNat bm) = some (Int32.ofNat (cntB bm nf), yA S 0 7 R) := r1
  rw [f_X11_lamps_56, if_pos (show Int32.ofNat 0 - 1 < 0 by decide), r1', bS_s, sq_s]
theorem pc_at : ∀ m, m < 256 → ∀ i, i < pcB m → ∃ j, j < 8 ∧ mB m j = true ∧ cntB m j = i := by
  intro m _
  have : ∀ d i, i < cntB m d → ∃ j, j < d ∧ mB m j = true ∧ cntB m j = i := by
    intro d
    induction d with
    | zero => intro i h; exact absurd h (Nat.not_lt_zero _)
    | succ d ih =>
      intro i h
      have u : cntB m (d + 1) = cntB m d + if mB m d = true then 1 else 0 := rfl
      by_cases c : mB m d = true
      · rw [if_pos c] at u
        by_cases e : i = cntB m d
        · exact ⟨d, by omega, c, e.symm⟩
        · obtain ⟨j, a, b⟩ := ih i (by omega)
          exact ⟨j, by omega, b⟩
      · rw [if_neg c] at u
        obtain ⟨j, a, b⟩ := ih i (by omega)
        exact ⟨j, by omega, b⟩
  exact fun i h => this 8 i h
theorem C_lamps {N : Nat} {Sc Sm : yS} (h : RAe Sc Sm) (hN : 2400 < N) (l1 l2 : Int32) : cAll (f_X11_lamps N Sc l1 l2) (f_X12_lamps N Sm l1 l2) := by
  have h1 := RA_clear h
  obtain ⟨cK0, nf, nl, np, nq, nb, ng, r, x, hA⟩ := h
  obtain ⟨hT1, hD1⟩ := clear_both hA.1 hA.2.1
  obtain ⟨t, ht, t3⟩ := hD1.2.2.1
  obtain ⟨c1, c2⟩ := e_try (N := N) (S := Sc) (l := l2)
  obtain ⟨m1, m2⟩ := em_try (N := N) (S := yI Sm 8 47 0) (l := l2) hD1.1
  have nf8 : nf ≤ 8 := hT1.1.2.1
  obtain ⟨D, d1, d2, d3⟩ := dark_c (N := N) (by omega) hT1.1.1 nf8
  have mfe : nn ((yI Sm 8 47 0).1 8 1) nf := by rw [hT1.1.2.2.1]; exact hT1.1.1
  have hDm : ∀ j, j < nf → (mB D j = true ↔ ¬ (yI Sm 8 47 0).2.1 8 48 (3 + 2 * j) = 1) := fun j hj => by
    obtain ⟨y1, y2, y3, y4, _⟩ := hT1.1.2.2.2 j (by omega)
    rw [d3 j (by omega), y2]
    constructor
    · intro z w
      rw [w] at z; exact absurd z.2 (by decide)
    · intro z
      exact ⟨hj, y4.resolve_right z⟩
  have hDn : ∀ j, j < 8 → mB D j = true → j < nf := fun j hj e => ((d3 j hj).mp e).1
  have pD := pc_nf hDn nf8
  have pD8 := pc_8 D d2
  have nD : nn (Int32.ofNat (pcB D)) (pcB D) := nn_lit _ (by omega)
  -- the reference up to its checks
  have cl := cnt_loop (N := N) (M := yI Sm 8 47 0) (l1 := l1) (l2 := l2) (KM := fun M l1 l2 l3 => bV (f_X12_canTry N M l2) fun w1 => if w1 = 0 then f_X12_lamps_59 N M else bV (f_X12_in N M l1 0 2) fun w2 => if w2 = 0 then f_X12_lamps_59 N M else if l1 ≤ l3 then bS (f_X12_putAside N M) fun w3 S1 => if l1 ≤ 0 then f_X12_lamps_80 N S1 l1 l2 ((-1)) 0 ((-1)) else f_X12_lamps_80 N S1 l1 l2 ((-1)) 0 0 else f_X12_lamps_59 N M) mfe nf8 d2 hDm (fun n x l4 le => by rw [f_X12_lamps_10, if_pos le]) nf 0 N (by omega) (by omega)
  rw [← pD] at cl
  have cl' : f_X12_lamps_10 N N (yI Sm 8 47 0) l1 l2 0 0 = _ := cl
  unfold f_X11_lamps f_X11_lamps_0 f_X12_lamps f_X12_lamps_0
  rw [sq_s, cl', d1, bV_s]
  unfold f_X11_lamps_33 f_X12_lamps_59
  by_cases ok : okTr (Sc.1 2 13) l2
  rotate_left
  · rw [c2 ok, bV_s, if_pos rfl, m2 ok, bV_s, if_pos rfl]
    exact ⟨-1, _, _, rfl, rfl, h1⟩
  rw [c1 ok, bV_s, if_neg (show ¬ (1 : Int32) = 0 by decide), m1 ok, bV_s, if_neg (show ¬ (1 : Int32) = 0 by decide), e_within, e_in, bV_s, bV_s]
  by_cases c : 0 ≤ l1 ∧ l1 ≤ 2
  rotate_left
  · rw [b01_f c, if_pos rfl, if_pos rfl]
    exact ⟨-1, _, _, rfl, rfl, h1⟩
  rw [b01_t c, if_neg (show ¬ (1 : Int32) = 0 by decide), if_neg (show ¬ (1 : Int32) = 0 by decide), bc_n d2, bV_s]
  obtain ⟨k, hk, _, k2⟩ := nn_btw (nn_l 0 (by decide)) (nn_l 2 (by decide)) c
  by_cases le : l1 ≤ Int32.ofNat (pcB D)
  rotate_left
  · rw [if_neg le, if_neg le]
    exact ⟨-1, _, _, rfl, rfl, h1⟩
  have kD : k ≤ pcB D := (nn_le hk nD).mp le
  rw [if_pos le, if_pos le]
  obtain ⟨q, q1, q2, q3⟩ := okTr_n ht t3 ok
  obtain ⟨cK, O, OM, kw, k1, k2', k3, k4, k5, k6, k7, k8, k9, k10, k11, k12⟩ := keep_both hN hT1 hD1
  have tO : nn (O.1 2 13) t := by rw [(k12 2 13 (by unfold pKK; omega)).1]; exact ht
  have hB : TB cK kw nf nl np nq nb ng O OM := ⟨k3, k4, k5, k9, k10, k11⟩
  have hDO : ∀ j, j < 8 → (mB D j = true ↔ j < nf ∧ O.2.1 1 1 j = 0) := fun j hj => by
    rw [(k12 1 1 (by unfold pKK; omega)).2]; exact d3 j hj
  have hE : EN cK N kw nf nl np nq nb ng t q D k O OM l1 l2 := ⟨hN, hB, tO, q1, q2, q3, hk, hDO, nf8⟩
  have hJ : JL cK nf nl np nq nb ng D k O OM 256 O OM 0 (-1) 0 (-1) 0 := ⟨⟨k3, k4, FR_refl _ _, FR_refl _ _⟩, ⟨⟨fun _ => ⟨rfl, rfl⟩, fun _ _ => ⟨rfl, rfl⟩⟩, rfl, rfl, rfl, fun _ _ _ _ => rfl, fun _ _ _ _ => rfl, fun _ _ _ _ => rfl, fun _ _ _ _ => rfl⟩, Or.inl ⟨rfl, rfl, rfl, rfl, rfl, fun m a b => by omega⟩⟩
  rw [k1, bS_s, k2', bS_s]
  unfold f_X12_lamps_80
  have run : lmP cK N (N - 256) nf nl np nq nb ng D k O OM l1 l2 256 0 O 0 (-1) 0 (if l1 ≤ 0 then f_X12_lamps_82 N N OM l1 l2 (-1) 0 (-1) else f_X12_lamps_82 N N OM l1 l2 (-1) 0 0) (endM l1) := by
    rcases (show k = 0 ∨ k = 1 ∨ k = 2 by omega) with rfl | rfl | rfl
    · rw [if_pos ((nn_le hk (nn_l 0 (by decide))).mpr (Nat.le_refl _))]
      exact lp_0 hE hJ
    · rw [if_neg (show ¬ l1 ≤ 0 from fun z => by have := (nn_le hk (nn_l 0 (by decide))).mp z; omega)]
      exact lp_1 hE nf 0 N O OM 0 (-1) 0 (-1) 0 (by omega) (by omega) hJ
    · rw [if_neg (show ¬ l1 ≤ 0 from fun z => by have := (nn_le hk (nn_l 0 (by decide))).mp z; omega)]
      exact lp_2 hE nf 0 N O OM 0 (-1) 0 (-1) 0 (by omega) (by omega) hJ
  obtain ⟨S', M', l4', l5', l6', r4', r5', u1, u2, u3, ⟨u4, _⟩, u5⟩ := run
  obtain ⟨bm, b1, b2, b3, b4, b5, b6, b7⟩ : ∃ bm, bm < 256 ∧ qD D k bm ∧ l4' = Int32.ofNat bm ∧ l5' = r4' ∧ ¬ r4' = -1 ∧ l6' = r5' ∧ ∀ j, j < 8 → mB bm j = true → M'.2.1 8 45 (cntB bm j) = Int32.ofNat j := by
    rcases u5 with ⟨_, _, _, _, _, z⟩ | z
    · obtain ⟨s1, s2, s3⟩ := sm_b D d2 k (by omega) kD
      exact absurd ⟨s2, s3⟩ (z _ (Nat.zero_le _) s1)
    · exact z
  obtain ⟨R, e1, e2⟩ := end_c (N := N) (n0 := N - 256) (D := D) (l1 := l1) (l2 := l2) (l5 := l5') (l6 := l6') (by omega) (by omega) u3.1.1.1 nf8 b1
  have cb : cntB bm nf = k := by
    rw [← pc_nf (fun j hj e => hDn j hj (b2.2 j hj e)) nf8]; exact b2.1
  rw [cb] at e1
  obtain ⟨a1, a2⟩ := out_trial hA k7 u3.1 u3.2.1
  obtain ⟨w1, w2⟩ := row_ST (Sc' := yI (yA S' 0 7 R) 0 8 (Int32.ofNat k)) (Sm' := yI M' 8 46 l1) a1 a2 (FR_trans (FR_A _ _ _ _ (by unfold pRC; omega)) (FR_I _ _ _ _ (by unfold pRC; omega))) (FR_I _ _ _ _ (by unfold pRM; omega))
  have kk : kS Sc Sm S' M' := kS_trans (kS_of kR_cl) (kS_trans (kS_of k6) u4)
  refine ⟨l5', yI (yA S' 0 7 R) 0 8 (Int32.ofNat k), yI M' 8 46 l1, ?_, ?_, cK0, nf, nl, np, nq, nb, ng, k, x, w1, w2, ⟨?_, by omega, ?_, fun i hi => ?_⟩, ?_, hA.2.2.2.2⟩
  · have : lmC N (N - 256) 256 D l1 l2 O 0 (-1) 0 = f_X11_lamps_56 N N O l1 l2 (Int32.ofNat D) 0 (-1) 0 255 := by
      unfold lmC
      rw [show N - 256 + 256 = N by omega]
      rfl
    rw [← this, u1, b3, e1]
  · rw [u2, b4]; rfl
  · rw [yI_1s]; exact nn_lit k (by omega)
  · rw [yI_1s, yI_1s]; exact hk.1
  · obtain ⟨j, j1, j2, j3⟩ := pc_at bm b1 i (by rw [b2.1]; exact hi)
    rw [yI_2, yI_2, yA_same, ← j3, e2 j (hDn j j1 (b2.2 j j1 j2)) j2]
    exact b7 j j1 j2
  · exact K_RX hA.2.2.2.1 ⟨((yI_1n _ _ (by decide)).trans rfl).trans (kk.1 5).1, (yA_2n _ _ (by decide)).trans (kk.1 5).2⟩ ⟨((yI_1n _ _ (by decide)).trans rfl).trans (kk.1 6).1, (yA_2n _ _ (by decide)).trans (kk.1 6).2⟩ ⟨((yI_1n _ _ (by decide)).trans rfl).trans (kk.2 43 (by decide)).1, (kk.2 43 (by decide)).2⟩ ⟨((yI_1n _ _ (by decide)).trans rfl).trans (kk.2 44 (by decide)).1, (kk.2 44 (by decide)).2⟩
