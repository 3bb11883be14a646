theorem pF_FR {S S' : yS} (h : pF S S') : FR pFoC S S' := by
  intro o k n
  have h7 : o ≠ 7 := fun q => n (Or.inl q)
  exact ⟨congrFun (h.1 o h7).1 k, congrFun (h.1 o h7).2 k⟩
theorem pAdr_FR {S S' : yS} (h : FR pAdr S S') : FR pFoC S S' := FR_mono h (fun o k z => Or.inr (Or.inr ⟨Or.inl z.1, z.2⟩))
theorem pAdl_FR {S S' : yS} (h : FR pAdl S S') : FR pFoC S S' := FR_mono h (fun o k z => Or.inr (Or.inr ⟨Or.inr z.1, z.2⟩))
theorem pOp_FR {S S' : yS} (h : FR pOp S S') : FR pFoM S S' := FR_mono h (fun o k z => ⟨z.1, by rcases z.2 with q | q <;> omega⟩)
/-- both keep a text: rules -/
theorem keep_bothr {N n k k8 k9 : Nat} {Sc Sm S2 T : yS} {l1 l2 l3 : Int32} {s : Nat → Nat} {Q : zP} (hN : 60 < N) (hR : RR k8 k9 Sc Sm) (hK : RK k8 k9 Sc Sm) (h1 : nn l1 k) (hk : k < 2) (ha : k8 < 20) (hs : ∀ i, s i < 256) (hQ : zAcc k s n 0 (zIni k) Q) (hb : ∀ i, i < n → Sm.2.1 8 43 i &&& 255 = Int32.ofNat (s i)) (hC : pC S2 (zFin Q)) (hl : (zFin Q).length ≤ n) (hck : zCk (zFin Q)) (hF : ∀ o, o = 4 ∨ o = 5 → S2.1 o = Sc.1 o ∧ S2.2.1 o = Sc.2.1 o) (h54 : T.1 8 54 = -1) (hT : FR pOp Sm T) (h3 : nn l3 n) : ∃ Sc' Sm', f_X8r_add N S2 l1 l2 (S2.1 7 1) = some (Int32.ofNat (k8 + 1), Sc') ∧ f_X12_force_141 N T l1 l2 l3 = some (Int32.ofNat (k8 + 1), Sm') ∧ RR (k8 + 1) k9 Sc' Sm' ∧ RK (k8 + 1) k9 Sc' Sm' ∧ FR pAdr S2 Sc' ∧ FR pKe T Sm' := by
  obtain ⟨r1, r2, r3, r4, r5, r6, r7, r8⟩ := hR
  have h60 := hQ.1
  have tI : ∀ j, ¬ ((50 ≤ j ∧ j ≤ 55) ∨ j = 57) → T.1 8 j = Sm.1 8 j ∧ T.2.1 8 j = Sm.2.1 8 j := fun j hj => hT 8 j (fun z => hj z.2)
  have kl : l1 = 2 ↔ k = 2 := nn_eq h1 (nn_l 2 (by decide))
  have hka : nn (S2.1 4 0) k8 := by rw [(hF 4 (by omega)).1]; exact r1
  obtain ⟨Sc', c1, c2, c3, c4, c5, c6, c7, c8⟩ := e_addr (N := N) (l1 := l1) (l2 := l2) hka ha hC.1 (by omega) hC.2
  have hta : nn (T.1 8 41) k8 := by rw [(tI 41 (by omega)).1, r3]; exact r1
  obtain ⟨Sm', A, m1, m2, m3, m4, m5, m6, m7, m8, m9, m10⟩ := em_finr (N := N) (l2 := l2) hN h54 h3 h60 (show ¬ l1 = 2 from fun q => by have := kl.mp q; omega) hta ha
  rw [(hF 4 (by omega)).2] at c3 c4 c5
  have c7' : ∀ r, r < k8 → ∀ i, i < 60 → Sc'.2.1 4 6 (r * 60 + i) = Sc.2.1 4 6 (r * 60 + i) := fun r hr i hi => by rw [c7 r hr i hi, (hF 4 (by omega)).2]
  have oI : Sc'.1 5 0 = Sc.1 5 0 := by rw [(c8 5 0 (fun z => by have := z.1; omega)).1, (hF 5 (by omega)).1]
  have oA : ∀ j, Sc'.2.1 5 j = Sc.2.1 5 j := fun j => by rw [(c8 5 j (fun z => by have := z.1; omega)).2, (hF 5 (by omega)).2]
  rw [(tI 38 (by omega)).2] at m7
  rw [(tI 39 (by omega)).2] at m8
  rw [(tI 40 (by omega)).2] at m9
  rw [(tI 42 (by omega)).1] at m3
  have m5' : ∀ j, j < n → A (60 * (0 + k8) + j) &&& 255 = Int32.ofNat (s j) := fun j hj => by rw [m5 j hj, (tI 43 (by omega)).2, hb j hj]
  have m6' : ∀ j, (j < 60 * (0 + k8) ∨ 60 * (0 + k8) + n ≤ j) → Sm'.2.1 8 37 j = Sm.2.1 8 37 j := fun j hj => by rw [m4, m6 j hj, (tI 37 (by omega)).2]
  refine ⟨Sc', Sm', c1, m1, ⟨by rw [c2]; exact nn_lit _ (by omega), by omega, by rw [m2, c2], by rw [oI]; exact r4, r5, by rw [oI, m3]; exact r6, fun i hi => ?_, fun i hi => ?_⟩, ⟨fun r hr => ?_, fun r hr => ?_⟩, c8, m10⟩
  · rw [c3, c4, m8, m9, Nat.zero_add]
    by_cases e : i = k8
    · rw [e, upd_s, upd_s, upd_s, upd_s]
      exact ⟨rfl, rfl⟩
    · rw [upd_o _ _ e, upd_o _ _ e, upd_o _ _ e, upd_o _ _ e]
      exact r7 i (by omega)
  · rw [oA, oA, m8, m9, upd_o _ _ (by omega), upd_o _ _ (by omega)]
    exact r8 i hi
  · by_cases e : r = k8
    · subst e
      refine ⟨k, by omega, by rw [c3, upd_s]; exact h1.1, ?_⟩
      exact ⟨s, n, Q, hs, hQ, fun i hi => by rw [m4]; exact m5' i hi, by rw [m7, upd_s]; exact h3, by rw [c5, upd_s]; exact hC.1, hl, hck, c6⟩
    · obtain ⟨k', a1, a2, a3⟩ := hK.1 r (by omega)
      exact ⟨k', a1, by rw [c3, upd_o _ _ e]; exact a2, RK1_keep a3 (fun i hi => by rw [m6' _ (by omega)]) (by rw [m7, upd_o _ _ (by omega)]) (by rw [c5, upd_o _ _ e]) (fun i hi => c7' r (by omega) i hi)⟩
  · exact RK1_keep (hK.2 r hr) (fun i hi => by rw [m6' _ (by omega)]) (by rw [m7, upd_o _ _ (by omega)]) (by rw [oA]) (fun i hi => by rw [oA])
/-- both keep a text: laws -/
theorem keep_bothl {N n k k8 k9 : Nat} {Sc Sm S2 T : yS} {l1 l2 l3 : Int32} {s : Nat → Nat} {Q : zP} (hN : 60 < N) (hR : RR k8 k9 Sc Sm) (hK : RK k8 k9 Sc Sm) (h1 : nn l1 k) (hk : k = 2) (ha : k9 < 12) (hs : ∀ i, s i < 256) (hQ : zAcc k s n 0 (zIni k) Q) (hb : ∀ i, i < n → Sm.2.1 8 43 i &&& 255 = Int32.ofNat (s i)) (hC : pC S2 (zFin Q)) (hl : (zFin Q).length ≤ n) (hck : zCk (zFin Q)) (hF : ∀ o, o = 4 ∨ o = 5 → S2.1 o = Sc.1 o ∧ S2.2.1 o = Sc.2.1 o) (h54 : T.1 8 54 = -1) (hT : FR pOp Sm T) (h3 : nn l3 n) : ∃ Sc' Sm', f_X8l_add N S2 l1 l2 (S2.1 7 1) = some (Int32.ofNat (k9 + 1), Sc') ∧ f_X12_force_141 N T l1 l2 l3 = some (Int32.ofNat (k9 + 1), Sm') ∧ RR k8 (k9 + 1) Sc' Sm' ∧ RK k8 (k9 + 1) Sc' Sm' ∧ FR pAdl S2 Sc' ∧ FR pKe T Sm' := by
  obtain ⟨r1, r2, r3, r4, r5, r6, r7, r8⟩ := hR
  have h60 := hQ.1
  have tI : ∀ j, ¬ ((50 ≤ j ∧ j ≤ 55) ∨ j = 57) → T.1 8 j = Sm.1 8 j ∧ T.2.1 8 j = Sm.2.1 8 j := fun j hj => hT 8 j (fun z => hj z.2)
  have kl : l1 = 2 ↔ k = 2 := nn_eq h1 (nn_l 2 (by decide))
  have hka : nn (S2.1 5 0) k9 := by rw [(hF 5 (by omega)).1]; exact r4
  obtain ⟨Sc', c1, c2, c3, c4, c5, c6, c7, c8⟩ := e_addl (N := N) (l1 := l1) (l2 := l2) hka ha hC.1 (by omega) hC.2
  have hta : nn (T.1 8 42) k9 := by rw [(tI 42 (by omega)).1, r6]; exact r4
  obtain ⟨Sm', A, m1, m2, m3, m4, m5, m6, m7, m8, m9, m10⟩ := em_finl (N := N) (l2 := l2) hN h54 h3 h60 (kl.mpr hk) hta ha
  rw [(hF 5 (by omega)).2] at c3 c4 c5
  have c7' : ∀ r, r < k9 → ∀ i, i < 60 → Sc'.2.1 5 6 (r * 60 + i) = Sc.2.1 5 6 (r * 60 + i) := fun r hr i hi => by rw [c7 r hr i hi, (hF 5 (by omega)).2]
  have oI : Sc'.1 4 0 = Sc.1 4 0 := by rw [(c8 4 0 (fun z => by have := z.1; omega)).1, (hF 4 (by omega)).1]
  have oA : ∀ j, Sc'.2.1 4 j = Sc.2.1 4 j := fun j => by rw [(c8 4 j (fun z => by have := z.1; omega)).2, (hF 4 (by omega)).2]
  rw [(tI 38 (by omega)).2] at m7
  rw [(tI 39 (by omega)).2] at m8
  rw [(tI 40 (by omega)).2] at m9
  rw [(tI 41 (by omega)).1] at m3
  have m5' : ∀ j, j < n → A (60 * (20 + k9) + j) &&& 255 = Int32.ofNat (s j) := fun j hj => by rw [m5 j hj, (tI 43 (by omega)).2, hb j hj]
  have m6' : ∀ j, (j < 60 * (20 + k9) ∨ 60 * (20 + k9) + n ≤ j) → Sm'.2.1 8 37 j = Sm.2.1 8 37 j := fun j hj => by rw [m4, m6 j hj, (tI 37 (by omega)).2]
  refine ⟨Sc', Sm', c1, m1, ⟨by rw [oI]; exact r1, r2, by rw [oI, m3]; exact r3, by rw [c2]; exact nn_lit _ (by omega), by omega, by rw [m2, c2], fun i hi => ?_, fun i hi => ?_⟩, ⟨fun r hr => ?_, fun r hr => ?_⟩, c8, m10⟩
  · rw [oA, oA, m8, m9, upd_o _ _ (by omega), upd_o _ _ (by omega)]
    exact r7 i hi
  · rw [c3, c4, m8, m9]
    by_cases e : i = k9
    · rw [e, upd_s, upd_s, upd_s, upd_s]
      exact ⟨kl.mpr hk, kl.mpr hk, rfl⟩
    · rw [upd_o _ _ e, upd_o _ _ e, upd_o _ _ (by omega), upd_o _ _ (by omega)]
      exact r8 i (by omega)
  · obtain ⟨k', a1, a2, a3⟩ := hK.1 r hr
    have hr20 : r < 20 := by omega
    exact ⟨k', a1, by rw [oA]; exact a2, RK1_keep a3 (fun i hi => by rw [m6' _ (by omega)]) (by rw [m7, upd_o _ _ (by omega)]) (by rw [oA]) (fun i hi => by rw [oA])⟩
  · by_cases e : r = k9
    · subst e
      have hk2 : k = 2 := hk
      subst hk2
      exact ⟨s, n, Q, hs, hQ, fun i hi => by rw [m4]; exact m5' i hi, by rw [m7, upd_s]; exact h3, by rw [c5, upd_s]; exact hC.1, hl, hck, c6⟩
    · exact RK1_keep (hK.2 r (by omega)) (fun i hi => by rw [m6' _ (by omega)]) (by rw [m7, upd_o _ _ (by omega)]) (by rw [c5, upd_o _ _ e]) (fun i hi => c7' r (by omega) i hi)
theorem force_both {N n k8 k9 : Nat} {Sc Sm : yS} (hX : RX n Sc Sm) (hR : RR k8 k9 Sc Sm) (hK : RK k8 k9 Sc Sm) (hN : 60 < N) (l1 l2 : Int32) : ∃ v Sc' Sm', f_X11_force N Sc l1 l2 = some (v, Sc') ∧ f_X12_force N Sm l1 l2 = some (v, Sm') ∧ RX 0 Sc' Sm' ∧ (∃ a b, RR a b Sc' Sm' ∧ RK a b Sc' Sm') ∧ FR pFoC Sc Sc' ∧ FR pFoM Sm Sm' := by
  have hR1 : RR k8 k9 (yI Sc 0 6 0) (yI (yI Sm 8 47 0) 8 44 0) := RR_congr hR rfl rfl rfl rfl rfl rfl rfl rfl rfl rfl
  have hK1 : RK k8 k9 (yI Sc 0 6 0) (yI (yI Sm 8 47 0) 8 44 0) := RK_congr hK rfl rfl rfl rfl rfl rfl rfl
  have hX1 : RX 0 (yI Sc 0 6 0) (yI (yI Sm 8 47 0) 8 44 0) := ⟨nn_l 0 (by decide), by omega, rfl, fun i hi => by omega⟩
  have Fc : FR pFoC Sc (yI Sc 0 6 0) := FR_I _ _ _ _ (Or.inr (Or.inl ⟨rfl, rfl⟩))
  have Fm : FR pFoM Sm (yI (yI Sm 8 47 0) 8 44 0) := FR_trans (FR_I _ _ _ _ ⟨rfl, by omega⟩) (FR_I _ _ _ _ ⟨rfl, by omega⟩)
  obtain ⟨c1, c2⟩ := e_mayForce (N := N) hR1 l1 l2
  obtain ⟨m1, m2⟩ := em_mayForce (N := N) hR l1 l2
  have ec : f_X11_force N Sc l1 l2 = bV (f_X11_mayForce N (yI Sc 0 6 0) l1 l2) fun w1 => if ¬ w1 = 0 then bS (f_X4_firstWrong N (yI Sc 0 6 0) (Sc.1 0 6) l1) fun w2 S2 => if w2 = -1 then if ¬ l1 = 2 then bS (f_X8r_add N S2 l1 l2 (S2.1 7 1)) fun w3 S3 => some (w3, S3) else bS (f_X8l_add N S2 l1 l2 (S2.1 7 1)) fun w4 S4 => some (w4, S4) else some (-1 - w2, S2) else some (-100, yI Sc 0 6 0) := rfl
  by_cases ok : okFo k8 k9 l1 l2
  · rw [ec, c1 ok, m1 ok, bV_s, if_pos i10]
    obtain ⟨k, hk, hk2, ha⟩ : ∃ k, nn l1 k ∧ k ≤ 2 ∧ (k ≠ 2 → k8 < 20) ∧ (k = 2 → k9 < 12) := by
      rcases ok with ⟨z, _, y⟩ | ⟨z | z, _, y⟩
      · exact ⟨2, by rw [z]; exact nn_l 2 (by decide), by decide, fun q => absurd rfl q, fun _ => y⟩
      · exact ⟨0, by rw [z]; exact nn_l 0 (by decide), by decide, fun _ => y, fun q => by omega⟩
      · exact ⟨1, by rw [z]; exact nn_l 1 (by decide), by decide, fun _ => y, fun q => by omega⟩
    have kl : l1 = 2 ↔ k = 2 := nn_eq hk (nn_l 2 (by decide))
    obtain ⟨x1, x2, x3, x4⟩ := hX
    have hs : ∀ i, (fun i => if i < n then (Sc.2.1 0 5 i).toNatClampNeg else 0) i < 256 := by
      intro i
      show (if i < n then (Sc.2.1 0 5 i).toNatClampNeg else 0) < 256
      by_cases z : i < n
      · obtain ⟨_, x, h1, h2⟩ := x4 i z
        rw [if_pos z, h2, (nn_lit x (by omega)).nat]
        exact h1
      · rw [if_neg z]
        decide
    have hv : ∀ i, i < n → Sc.2.1 0 5 i = Int32.ofNat ((fun i => if i < n then (Sc.2.1 0 5 i).toNatClampNeg else 0) i) := by
      intro i z
      show _ = Int32.ofNat (if i < n then (Sc.2.1 0 5 i).toNatClampNeg else 0)
      obtain ⟨_, x, h1, h2⟩ := x4 i z
      rw [if_pos z, h2, (nn_lit x (by omega)).nat]
    generalize (fun i => if i < n then (Sc.2.1 0 5 i).toNatClampNeg else 0) = s at hs hv
    have hb : ∀ i, i < n → (yI (yI Sm 8 47 0) 8 44 0).2.1 8 43 i &&& 255 = Int32.ofNat (s i) := fun i hi => by
      rw [← hv i hi]
      exact (x4 i hi).1
    have h3 : nn (Sm.1 8 44) n := by rw [x3]; exact x1
    rcases p_first (N := N) (S := yI Sc 0 6 0) hN hk x1 x2 hs (fun j hj => hv j (by omega)) with ⟨S2, Q, e1, q1, q2, q3, q4, q5⟩ | ⟨S2, j, e1, q1, q2⟩
    · rw [e1, bS_s, if_pos rfl]
      have f0 : ∀ o, o ≠ 7 → S2.1 o = (yI Sc 0 6 0).1 o ∧ S2.2.1 o = (yI Sc 0 6 0).2.1 o := q5.1
      rcases em_read (N := N) (l2 := l2) hN hk hk2 h3 x2 hs hb with ⟨j, S', e2, p1, p2⟩ | ⟨Q', T, e2, p1, p2, p3⟩
      · exact (zAcc_not q1 p1).elim
      · have hQ := zAcc_uniq q1 p1
        subst hQ
        rw [e2]
        by_cases h2 : k = 2
        · rw [if_neg (fun q => q (kl.mpr h2))]
          obtain ⟨Sc', Sm', a1, a2, a3, a4, a5, a6⟩ := keep_bothl (l2 := l2) hN hR1 hK1 hk h2 (ha.2 h2) hs q1 hb q2 q3 q4 (fun o ho => f0 o (by omega)) p2 p3 h3
          refine ⟨_, Sc', Sm', by rw [a1, bS_s], a2, ?_, ⟨_, _, a3, a4⟩, FR_trans Fc (FR_trans (pF_FR q5) (pAdl_FR a5)), FR_trans Fm (FR_trans (pOp_FR p3) (pKe_FR a6))⟩
          have g1 : Sc'.1 0 6 = 0 := by rw [(a5 0 6 (fun z => by have := z.1; omega)).1, (f0 0 (by decide)).1]; rfl
          have g2 : Sm'.1 8 44 = 0 := by rw [(a6 8 44 (fun z => by have := z.2; omega)).1, (p3 8 44 (fun z => by have := z.2; omega)).1]; rfl
          exact ⟨by rw [g1]; exact nn_l 0 (by decide), by omega, by rw [g1, g2], fun i hi => by omega⟩
        · rw [if_pos (fun q => h2 (kl.mp q))]
          obtain ⟨Sc', Sm', a1, a2, a3, a4, a5, a6⟩ := keep_bothr (l2 := l2) hN hR1 hK1 hk (by omega) (ha.1 h2) hs q1 hb q2 q3 q4 (fun o ho => f0 o (by omega)) p2 p3 h3
          refine ⟨_, Sc', Sm', by rw [a1, bS_s], a2, ?_, ⟨_, _, a3, a4⟩, FR_trans Fc (FR_trans (pF_FR q5) (pAdr_FR a5)), FR_trans Fm (FR_trans (pOp_FR p3) (pKe_FR a6))⟩
          have g1 : Sc'.1 0 6 = 0 := by rw [(a5 0 6 (fun z => by have := z.1; omega)).1, (f0 0 (by decide)).1]; rfl
          have g2 : Sm'.1 8 44 = 0 := by rw [(a6 8 44 (fun z => by have := z.2; omega)).1, (p3 8 44 (fun z => by have := z.2; omega)).1]; rfl
          exact ⟨by rw [g1]; exact nn_l 0 (by decide), by omega, by rw [g1, g2], fun i hi => by omega⟩
    · have hj60 : j ≤ 60 := by have := q1.2.1; omega
      rw [e1, bS_s, if_neg (zne hj60)]
      rcases em_read (N := N) (l2 := l2) hN hk hk2 h3 x2 hs hb with ⟨j', S', e2, p1, p2⟩ | ⟨Q', T, e2, p1, p2, p3⟩
      · have hj := zFail_eq q1 p1
        subst hj
        have FC := pF_FR q2
        have FM := pOp_FR p2
        refine ⟨_, S2, S', rfl, e2, ?_, ⟨k8, k9, ?_, ?_⟩, FR_trans Fc FC, FR_trans Fm FM⟩
        · exact RX_congr hX1 (congrFun (q2.1 0 (by decide)).1 6) (p2 8 44 (fun z => by have := z.2; omega)).1 (congrFun (q2.1 0 (by decide)).2 5) (p2 8 43 (fun z => by have := z.2; omega)).2
        · exact RR_congr hR1 (congrFun (q2.1 4 (by decide)).1 0) (congrFun (q2.1 5 (by decide)).1 0) (p2 8 41 (fun z => by have := z.2; omega)).1 (p2 8 42 (fun z => by have := z.2; omega)).1 (congrFun (q2.1 4 (by decide)).2 3) (congrFun (q2.1 4 (by decide)).2 4) (congrFun (q2.1 5 (by decide)).2 3) (congrFun (q2.1 5 (by decide)).2 4) (p2 8 39 (fun z => by have := z.2; omega)).2 (p2 8 40 (fun z => by have := z.2; omega)).2
        · exact RK_congr hK1 (congrFun (q2.1 4 (by decide)).2 3) (congrFun (q2.1 4 (by decide)).2 5) (congrFun (q2.1 4 (by decide)).2 6) (congrFun (q2.1 5 (by decide)).2 5) (congrFun (q2.1 5 (by decide)).2 6) (p2 8 37 (fun z => by have := z.2; omega)).2 (p2 8 38 (fun z => by have := z.2; omega)).2
      · exact (zAcc_not p1 q1).elim
  · rw [ec, c2 ok, m2 ok, bV_s, if_neg (fun q => q rfl)]
    exact ⟨_, _, _, rfl, rfl, hX1, ⟨k8, k9, hR1, hK1⟩, Fc, Fm⟩
