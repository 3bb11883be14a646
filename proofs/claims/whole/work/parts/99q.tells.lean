/-! SET, FORCE, SIGN, END, WORD, PILOT, FLIGHT -/
theorem RW_lag {k : Nat} {Sc Sm : yS} {v : Int32} (h : RW k Sc Sm) : RW k (yI Sc 3 0 v) (yI (yI Sm 8 47 0) 8 34 v) := by
  refine ⟨?_, h.2.1, ?_, ?_, h.2.2.2.2⟩
  · rw [yI_1n _ _ (by decide)]; exact h.1
  · rw [yI_1n _ _ (by decide)]; exact h.2.2.1
  · rw [yI_1s, yI_1s]
theorem C_set {N : Nat} {Sc Sm : yS} (h : RAe Sc Sm) (l1 l2 : Int32) : cAll (f_X11_set N Sc l1 l2) (f_X12_set N Sm l1 l2) := by
  have h0 := h
  obtain ⟨cK, nf, nl, np, nq, nb, ng, r, x, hA⟩ := h
  have hT := hA.1
  have hD := hA.2.1
  obtain ⟨v, Sc', Sm', e1, e2, hc⟩ := set_both (N := N) hT.2.2.2.2.2.1 l1 l2
  refine ⟨v, Sc', Sm', e1, e2, ?_⟩
  obtain ⟨s1, s2, s3⟩ := hT.2.2.2.2.2.1
  rcases hc with ⟨c1, c2⟩ | ⟨_, c1, c2⟩ | ⟨_, c1, c2⟩ | ⟨_, c1, c2⟩
  · rw [c1, c2]; exact RA_clear h0
  · rw [c1, c2]
    obtain ⟨t1, t2, t3, t4, t5, t6, t7, t8, t9, t10, t11, t12, t13, t14⟩ := id hT
    obtain ⟨d1, d2, d3, ⟨kw, d4, d4', d4''⟩, d5, d6, d7, d8, d9⟩ := id hD
    have nl12 : nl ≤ 12 := t2.2.1
    have np8 : np ≤ 8 := t7.1.2.1
    have nq8 : nq ≤ 8 := t7.2.1.2.1
    have nb30 : nb ≤ 30 := t7.2.2.1.2.1
    have ng24 : ng ≤ 24 := t7.2.2.2.2.1
    have F : FR (fun o k => o = 3 ∧ k = 0) Sc (yI Sc 3 0 l2) := FR_I _ _ _ _ ⟨rfl, rfl⟩
    have G : FR (fun o k => o = 8 ∧ (k = 47 ∨ k = 34)) Sm (yI (yI Sm 8 47 0) 8 34 l2) := FR_trans (FR_I _ _ _ _ ⟨rfl, Or.inl rfl⟩) (FR_I _ _ _ _ ⟨rfl, Or.inr rfl⟩)
    refine RA_of (cK' := cK) (nf' := nf) (nl' := nl) (np' := np) (nq' := nq) (nb' := nb) (ng' := ng) hA F G (fun k _ _ z => by have := z.1; omega) (fun k a b z => by have := z.2; omega) (fun _ _ => rfl) ⟨⟨K_RF t1 (fun k _ => F 1 k (by omega)) (fun k _ => G 8 k (by omega)) (fun i _ _ => rfl), K_RG t2 (fun k _ _ => F 1 k (by omega)) (fun l k _ => F (64 + l) k (by omega)) (fun k _ _ => G 8 k (by omega)), ⟨K_RD t3.1 (F 1 7 (by omega)) (G 8 10 (by omega)), K_cE t3.2 nl12 nb30 (fun l k _ _ => F (64 + l) k (by omega)) (fun b k _ _ => F (384 + b) k (by omega))⟩, K_RT t4 (fun k _ _ _ => F 1 k (by omega)) (fun k _ _ => G 8 k (by omega)), K_RR t5 (fun k _ => ⟨F 4 k (by omega), F 5 k (by omega)⟩) (fun k _ _ => G 8 k (by omega)), ⟨?_, ?_, ?_⟩, K_oC t7 (fun k _ => F 2 k (by omega)) (fun k _ => G 8 k (by omega)), fun p hp => K_P0 (t8 p hp) rfl (fun k _ => (F (128 + p) k (by omega)).1) (fun k _ _ => rfl), t9, fun b hb => K_B0 (t10 b hb) (Nat.le_refl _) rfl (fun k _ => (F (384 + b) k (by omega)).1) (fun k _ _ => rfl), fun g hg => K_L0 (t11 g hg) (Nat.le_refl _) (Nat.le_refl _) (Nat.le_refl _) rfl (fun k _ => (F (512 + g) k (by omega)).1) (fun k _ _ => rfl), K_oR t12 nb30 (F 2 10 (by omega)) (fun b k _ _ => F (384 + b) k (by omega)), K_oN t13 (Nat.le_refl _) (Nat.le_refl _) (Nat.le_refl _) (Nat.le_refl _) (fun p _ _ => ⟨rfl, (F (128 + p) 20 (by omega)).1⟩) (fun p _ _ => ⟨rfl, (F (256 + p) 4 (by omega)).1⟩) (fun p _ _ => ⟨rfl, (F (384 + p) 11 (by omega)).1⟩) (fun p _ _ => ⟨rfl, (F (512 + p) 10 (by omega)).1⟩) (fun o k _ _ => (F o k (by omega)).1), K_gB t14 nl12 (Nat.le_refl _) (fun l k _ => F (64 + l) k (by omega))⟩, ?_⟩
    · rw [yI_1s, yI_1s]
    · rw [yI_1n _ _ (by decide), yI_1n _ _ (by decide), yI_1n _ _ (by decide)]; exact s2
    · rw [yI_1n _ _ (by decide), yI_1n _ _ (by decide), yI_1n _ _ (by decide)]; exact s3
    · refine ⟨d1, d2, d3, ⟨kw, RW_lag d4, d4', d4''⟩, fun p hp j hj => ?_, fun q hq j hj => ?_, RBd_fr d7 nb30 (fun b hb k => F (384 + b) k (by omega)) (fun i _ _ => rfl), fun g hg j hj => ?_, fun p hp => PI_keep (d9 p hp) (fun k => (F (128 + p) k (by omega)).1) rfl (fun j _ => rfl) (fun l _ => (F (64 + l) 2 (by omega)).1) (fun g _ hne => ?_)⟩
      · rw [(F (128 + p) (pS j) (by omega)).1]; exact d5 p hp j hj
      · rw [(F (256 + q) j (by omega)).1]; exact d6 q hq j hj
      · rw [(F (512 + g) (fSl j) (by omega)).1]; exact d8 g hg j hj
      · rw [(F (512 + g) 7 (by omega)).1, (F (512 + g) 4 (by omega)).1, (F (512 + g) 1 (by omega)).1, (F (512 + g) 2 (by omega)).1]
        exact ⟨rfl, hne, rfl, rfl⟩
  · rw [c1, c2]
    have F : FR pcSe Sc (yI Sc 2 15 l2) := FR_I _ _ _ _ ⟨rfl, Or.inl rfl⟩
    have G : FR pmSe Sm (yI (yI Sm 8 47 0) 8 35 l2) := FR_trans (FR_I _ _ _ _ ⟨rfl, Or.inl rfl⟩) (FR_I _ _ _ _ ⟨rfl, Or.inr (Or.inl rfl)⟩)
    refine RA_of (cK' := cK) hA F G (fun k _ _ z => by have := z.1; omega) (fun k a b z => by have := z.2; omega) (fun _ _ => rfl) (ST_set hT hD F G ⟨?_, ?_, ?_⟩)
    · rw [yI_1n _ _ (by decide), yI_1n _ _ (by decide), yI_1n _ _ (by decide)]; exact s1
    · rw [yI_1s, yI_1s]
    · rw [yI_1n _ _ (by decide), yI_1n _ _ (by decide), yI_1n _ _ (by decide)]; exact s3
  · rw [c1, c2]
    have F : FR pcSe Sc (yI Sc 2 16 l2) := FR_I _ _ _ _ ⟨rfl, Or.inr rfl⟩
    have G : FR pmSe Sm (yI (yI Sm 8 47 0) 8 36 l2) := FR_trans (FR_I _ _ _ _ ⟨rfl, Or.inl rfl⟩) (FR_I _ _ _ _ ⟨rfl, Or.inr (Or.inr rfl)⟩)
    refine RA_of (cK' := cK) hA F G (fun k _ _ z => by have := z.1; omega) (fun k a b z => by have := z.2; omega) (fun _ _ => rfl) (ST_set hT hD F G ⟨?_, ?_, ?_⟩)
    · rw [yI_1n _ _ (by decide), yI_1n _ _ (by decide), yI_1n _ _ (by decide)]; exact s1
    · rw [yI_1n _ _ (by decide), yI_1n _ _ (by decide), yI_1n _ _ (by decide)]; exact s2
    · rw [yI_1s, yI_1s]
/-- the signs may change -/
theorem RA_sg {pc pm : Nat → Nat → Prop} {cK : Nat → Nat} {nf nl np nq nb ng r x x' : Nat} {Sc Sm Sc' Sm' : yS} (h : RA cK nf nl np nq nb ng r x Sc Sm) (F : FR pc Sc Sc') (G : FR pm Sm Sm') (hc : ∀ k, 7 ≤ k → k ≤ 8 → ¬ pc 0 k) (hm : ∀ k, 45 ≤ k → k ≤ 46 → ¬ pm 8 k) (hX : RX x' Sc' Sm') (hn : ST cK nf nl np nq nb ng Sc' Sm' ∧ DY cK nf nl np nq nb ng Sc' Sm') : RAe Sc' Sm' := by
  obtain ⟨hT, hD, hR, _, hZ⟩ := h
  exact ⟨cK, nf, nl, np, nq, nb, ng, r, x', hn.1, hn.2, K_RO hR (F 0 7 (hc 7 (by decide) (by decide))) (F 0 8 (hc 8 (by decide) (by decide))) (G 8 45 (hm 45 (by decide) (by decide))) (G 8 46 (hm 46 (by decide) (by decide))), hX, hZ⟩
theorem C_sign {N : Nat} {Sc Sm : yS} (h : RAe Sc Sm) (hN : 60 < N) (l : Int32) : cAll (f_X11_sign N Sc l) (f_X12_sign N Sm l) := by
  obtain ⟨cK, nf, nl, np, nq, nb, ng, r, x, hA⟩ := h
  obtain ⟨v, Sc', Sm', n', e1, e2, hX, F, G⟩ := sign_both hA.2.2.2.1 hN l
  exact ⟨v, Sc', Sm', e1, e2, RA_sg hA F G (fun k _ _ z => by have := z.2; omega) (fun k a b z => by have := z.2; omega) hX (ST_sign hA.1 hA.2.1 F G)⟩
theorem C_end {N : Nat} {Sc Sm : yS} (h : RAe Sc Sm) (l : Int32) : cAll (f_X11_end N Sc l) (f_X12_end N Sm l) := by
  obtain ⟨cK, nf, nl, np, nq, nb, ng, r, x, hA⟩ := h
  obtain ⟨v, Sc', Sm', n', e1, e2, hX, F, G⟩ := end_both (N := N) hA.2.2.2.1 l
  exact ⟨v, Sc', Sm', e1, e2, RA_sg hA F G (fun k _ _ z => by have := z.2; omega) (fun k a b z => by have := z.2; omega) hX (ST_sign hA.1 hA.2.1 F G)⟩
theorem C_force {N : Nat} {Sc Sm : yS} (h : RAe Sc Sm) (hN : 60 < N) (l1 l2 : Int32) : cAll (f_X11_force N Sc l1 l2) (f_X12_force N Sm l1 l2) := by
  obtain ⟨cK, nf, nl, np, nq, nb, ng, r, x, hA⟩ := h
  obtain ⟨a, b, hR, hK⟩ := hA.1.2.2.2.2.1
  obtain ⟨v, Sc', Sm', e1, e2, hX, hn, F, G⟩ := force_both hA.2.2.2.1 hR hK hN l1 l2
  exact ⟨v, Sc', Sm', e1, e2, RA_sg hA F G (fun k _ _ z => by unfold pFoC at z; omega) (fun k a b z => by have := z.2; omega) hX (ST_force hA.1 hA.2.1 F G hn)⟩
theorem C_word {N : Nat} {Sc Sm : yS} (h : RAe Sc Sm) (fi le se cl wi : Int32) : cAll (f_X11_word N Sc fi le se cl wi) (f_X12_word N Sm fi le se cl wi) := by
  have h0 := h
  obtain ⟨cK, nf, nl, np, nq, nb, ng, r, x, hA⟩ := h
  have hT := hA.1
  have hD := hA.2.1
  obtain ⟨d1, d2, d3, ⟨kw, d4, d4', d4''⟩, d5, d6, d7, d8, d9⟩ := id hD
  obtain ⟨a1, a2⟩ := e_word (N := N) d4 fi le se cl wi
  obtain ⟨b1, b2⟩ := em_word (N := N) d4 hT.1.2.2.1 hT.2.1.2.2.1 d1 fi le se cl wi
  by_cases ok : okWord kw (Sc.1 1 3) (Sc.1 1 5) (Sc.1 2 13) fi le se cl wi
  · have k120 : kw < 120 := by
      unfold okWord at ok
      omega
    have nb30 : nb ≤ 30 := hT.2.2.2.2.2.2.1.2.2.1.2.1
    have np8 : np ≤ 8 := hT.2.2.2.2.2.2.1.1.2.1
    have nq8 : nq ≤ 8 := hT.2.2.2.2.2.2.1.2.1.2.1
    have ng24 : ng ≤ 24 := hT.2.2.2.2.2.2.1.2.2.2.2.1
    rw [a1 ok, b1 ok]
    have F : FR (fun o k => o = 3 ∧ k ≠ 0) Sc (cWord Sc kw fi (Sc.1 2 13) le se cl wi) := by
      unfold cWord
      exact FR_trans (FR_A _ _ _ _ ⟨rfl, by decide⟩) (FR_trans (FR_A _ _ _ _ ⟨rfl, by decide⟩) (FR_trans (FR_A _ _ _ _ ⟨rfl, by decide⟩) (FR_trans (FR_A _ _ _ _ ⟨rfl, by decide⟩) (FR_trans (FR_A _ _ _ _ ⟨rfl, by decide⟩) (FR_trans (FR_A _ _ _ _ ⟨rfl, by decide⟩) (FR_trans (FR_A _ _ _ _ ⟨rfl, by decide⟩) (FR_I _ _ _ _ ⟨rfl, by decide⟩)))))))
    have G : FR (fun o k => o = 8 ∧ (k = 47 ∨ k = 48)) Sm (yA (yI Sm 8 47 0) 8 48 (mWordA (Sm.2.1 8 48) kw fi (Sc.1 2 13) le se cl wi (Sc.1 3 0))) := FR_trans (FR_I _ _ _ _ ⟨rfl, Or.inl rfl⟩) (FR_A _ _ _ _ ⟨rfl, Or.inr rfl⟩)
    have w : ∀ i, i ≠ 2 → i < 1465 → (yA (yI Sm 8 47 0) 8 48 (mWordA (Sm.2.1 8 48) kw fi (Sc.1 2 13) le se cl wi (Sc.1 3 0))).2.1 8 48 i = Sm.2.1 8 48 i := fun i h2 h1 => by rw [yA_same]; exact mWordA_lo h1 h2
    refine ⟨_, _, _, rfl, rfl, RA_of (cK' := cK) (nf' := nf) (nl' := nl) (np' := np) (nq' := nq) (nb' := nb) (ng' := ng) hA F G (fun k _ _ z => by have := z.1; omega) (fun k a b z => by have := z.2; omega) (fun _ _ => rfl) ⟨ST_FR hT (FR_mono F (fun o k z => by unfold pQC; omega)) (FR_mono G (fun o k z => by unfold pQM; omega)) (fun i a b => w i (by omega) (by omega)), ?_, ?_, ?_, ⟨kw + 1, RW_word d4 k120 fi (Sc.1 2 13) le se cl wi, by omega, ?_⟩, fun p hp j hj => ?_, fun q hq j hj => ?_, RBd_fr d7 nb30 (fun b hb k => F (384 + b) k (by omega)) (fun i _ _ => w i (by omega) (by omega)), fun g hg j hj => ?_, fun p hp => PI_keep (d9 p hp) (fun k => (F (128 + p) k (by omega)).1) (F (128 + p) 19 (by omega)).2 (fun j _ => w _ (by omega) (by omega)) (fun l _ => (F (64 + l) 2 (by omega)).1) (fun g _ hne => ?_)⟩⟩
    · rw [w 0 (by omega) (by omega), (F 2 13 (by omega)).1]; exact d1
    · rw [w 1 (by omega) (by omega), (F 2 14 (by omega)).1]; exact d2
    · rw [(F 2 13 (by omega)).1]; exact d3
    · intro j i h1 h2 h3
      have e : (cWord Sc kw fi (Sc.1 2 13) le se cl wi).2.1 3 j i = Sc.2.1 3 j i := by
        rcases (show j = 2 ∨ j = 3 ∨ j = 4 ∨ j = 5 ∨ j = 6 ∨ j = 7 ∨ j = 8 by omega) with rfl | rfl | rfl | rfl | rfl | rfl | rfl <;> exact upd_o _ _ (show i ≠ kw by omega)
      rw [e]
      exact d4'' j i h1 h2 h3
    · rw [w _ (by omega) (by omega), (F (128 + p) (pS j) (by omega)).1]; exact d5 p hp j hj
    · rw [w _ (by omega) (by omega), (F (256 + q) j (by omega)).1]; exact d6 q hq j hj
    · rw [w _ (by omega) (by omega), (F (512 + g) (fSl j) (by omega)).1]; exact d8 g hg j hj
    · rw [(F (512 + g) 7 (by omega)).1, (F (512 + g) 4 (by omega)).1, (F (512 + g) 1 (by omega)).1, (F (512 + g) 2 (by omega)).1]
      exact ⟨rfl, hne, rfl, rfl⟩
  · rw [a2 ok, b2 ok]
    exact ⟨-1, _, _, rfl, rfl, RA_clear h0⟩
theorem C_pilot {N : Nat} {Sc Sm : yS} (h : RAe Sc Sm) (l1 l2 : Int32) : cAll (f_X11_pilot N Sc l1 l2) (f_X12_pilot N Sm l1 l2) := by
  have h0 := h
  obtain ⟨cK, nf, nl, np, nq, nb, ng, r, x, hA⟩ := h
  have hT := hA.1
  have hD := hA.2.1
  obtain ⟨t1, t2, t3, t4, t5, t6, t7, t8, t9, t10, t11, t12, t13, t14⟩ := id hT
  obtain ⟨a1, a2⟩ := e_pilot (N := N) t7.2.1.1 (fun hn => t13.2.1 nq (Nat.le_refl _) hn) l1 l2
  obtain ⟨b1, b2⟩ := em_pilot (N := N) t7.2.1.1 t7.2.1.2.1 t7.2.1.2.2 t1.2.2.1 t2.2.2.1 l1 l2
  by_cases ok : okPil nq (Sc.1 1 3) (Sc.1 1 5) l1 l2
  · have hn : nq < 8 := ok.2.2
    rw [a1 ok, b1 ok]
    have F : FR (pcPi nq) Sc (cPil Sc nq l1 l2) := fun o k z => by
      unfold pcPi at z
      unfold cPil
      have h1 : o ≠ 256 + nq := by omega
      exact ⟨by rw [yI_1n _ _ (by omega), yA_1, (yNw_o h1).1], by rw [yI_2, yA_2n _ _ (by omega), (yNw_o h1).2]⟩
    have G : FR pmPi Sm (mPil Sm nq l1 l2) := FR_trans (FR_I _ _ _ _ ⟨rfl, by decide⟩) (FR_trans (FR_A _ _ _ _ ⟨rfl, by decide⟩) (FR_I _ _ _ _ ⟨rfl, by decide⟩))
    have w48 : (mPil Sm nq l1 l2).2.1 8 48 = mPilA (Sm.2.1 8 48) nq l1 l2 := by unfold mPil; rw [yI_2, yA_same]
    have cN : ∀ k, (cPil Sc nq l1 l2).1 (256 + nq) k = nPil l1 l2 k := fun k => by
      unfold cPil
      rw [yI_1n _ _ (by omega), yA_1, yNw_s]
    refine ⟨_, _, _, rfl, rfl, RA_of (cK' := cK) hA F G (fun k _ _ z => by unfold pcPi at z; omega) (fun k a b z => by have := z.2; omega) (fun _ _ => rfl) (ST_pilot hT hD hn F G ?_ ?_ ?_ (fun i hi => ?_) (fun j hj => ?_))⟩
    · unfold cPil
      rw [yI_2, yA_same]
    · unfold cPil
      rw [yI_1s]
    · unfold mPil
      rw [yI_1s]
    · rw [w48]
      unfold mPilA
      rw [upd_o _ _ (by omega), upd_o _ _ (by omega), upd_o _ _ (by omega), upd_o _ _ (by omega)]
    · rw [w48, cN]
      unfold mPilA
      rcases (show j = 0 ∨ j = 1 ∨ j = 2 ∨ j = 3 by omega) with rfl | rfl | rfl | rfl
      · rw [upd_o _ _ (by omega), upd_o _ _ (by omega), upd_o _ _ (by omega), upd_s]; rfl
      · rw [upd_o _ _ (by omega), upd_o _ _ (by omega), upd_s]; rfl
      · rw [upd_o _ _ (by omega), upd_s]; rfl
      · rw [upd_s]; rfl
  · rw [a2 ok, b2 ok]
    exact ⟨-1, _, _, rfl, rfl, RA_clear h0⟩
