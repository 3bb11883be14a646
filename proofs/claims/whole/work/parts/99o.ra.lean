/-! ALL TOGETHER -/
def RA (cK : Nat → Nat) (nf nl np nq nb ng r x : Nat) (Sc Sm : yS) : Prop := ST cK nf nl np nq nb ng Sc Sm ∧ DY cK nf nl np nq nb ng Sc Sm ∧ RO r Sc Sm ∧ RX x Sc Sm ∧ ∀ z, 1000 ≤ z → z < 1031 → cK z = 0
def RAe (Sc Sm : yS) : Prop := ∃ cK nf nl np nq nb ng r x, RA cK nf nl np nq nb ng r x Sc Sm
/-- both answer the same, and all stays related -/
def cAll (fc fm : Option (Int32 × yS)) : Prop := ∃ v Sc' Sm', fc = some (v, Sc') ∧ fm = some (v, Sm') ∧ RAe Sc' Sm'
theorem K_RO {r : Nat} {Sc Sm Sc' Sm' : yS} (h : RO r Sc Sm) (c7 : sm Sc Sc' 0 7) (c8 : sm Sc Sc' 0 8) (m5 : sm Sm Sm' 8 45) (m6 : sm Sm Sm' 8 46) : RO r Sc' Sm' := by
  unfold RO at h ⊢
  rw [c8.1, c7.2, m5.2, m6.1]
  exact h
theorem K_RX {x : Nat} {Sc Sm Sc' Sm' : yS} (h : RX x Sc Sm) (c5 : sm Sc Sc' 0 5) (c6 : sm Sc Sc' 0 6) (m3 : sm Sm Sm' 8 43) (m4 : sm Sm Sm' 8 44) : RX x Sc' Sm' := RX_congr h c6.1 m4.1 c5.2 m3.2
theorem RA_clear {Sc Sm : yS} (h : RAe Sc Sm) : RAe Sc (yI Sm 8 47 0) := by
  obtain ⟨cK, nf, nl, np, nq, nb, ng, r, x, hT, hD, hR, hX, hZ⟩ := h
  obtain ⟨a, b⟩ := clear_both hT hD
  exact ⟨cK, nf, nl, np, nq, nb, ng, r, x, a, b, hR, hX, hZ⟩
/-- a call that touches neither the row of answers nor the signs -/
theorem RA_of {pc pm : Nat → Nat → Prop} {cK cK' : Nat → Nat} {nf nl np nq nb ng r x nf' nl' np' nq' nb' ng' : Nat} {Sc Sm Sc' Sm' : yS} (h : RA cK nf nl np nq nb ng r x Sc Sm) (F : FR pc Sc Sc') (G : FR pm Sm Sm') (hc : ∀ k, 5 ≤ k → k ≤ 8 → ¬ pc 0 k) (hm : ∀ k, 43 ≤ k → k ≤ 46 → ¬ pm 8 k) (hz : ∀ z, 1000 ≤ z → cK' z = cK z) (hn : ST cK' nf' nl' np' nq' nb' ng' Sc' Sm' ∧ DY cK' nf' nl' np' nq' nb' ng' Sc' Sm') : RAe Sc' Sm' := by
  obtain ⟨hT, hD, hR, hX, hZ⟩ := h
  exact ⟨cK', nf', nl', np', nq', nb', ng', r, x, hn.1, hn.2, K_RO hR (F 0 7 (hc 7 (by decide) (by decide))) (F 0 8 (hc 8 (by decide) (by decide))) (G 8 45 (hm 45 (by decide) (by decide))) (G 8 46 (hm 46 (by decide) (by decide))), K_RX hX (F 0 5 (hc 5 (by decide) (by decide))) (F 0 6 (hc 6 (by decide) (by decide))) (G 8 43 (hm 43 (by decide) (by decide))) (G 8 44 (hm 44 (by decide) (by decide))), fun z a b => by rw [hz z a]; exact hZ z a b⟩
theorem C_lamp {N : Nat} {Sc Sm : yS} (h : RAe Sc Sm) {l1 l2 : Int32} (hl : l2 = 0 ∨ l2 = 1) : cAll (f_X11_lamp N Sc l1 l2) (f_X12_lamp N Sm l1 l2) := by
  have h0 := h
  obtain ⟨cK, nf, nl, np, nq, nb, ng, r, x, hA⟩ := h
  have hT := hA.1
  have hF := hT.1
  unfold f_X11_lamp f_X11_lamp_0 f_X12_lamp f_X12_lamp_0 f_X12_lamp_35
  rw [e_isField, bV_s, sq_s, em_isField, bV_s, show (yI Sm 8 47 0).1 8 1 = Sc.1 1 3 from hF.2.2.1, vz hl]
  by_cases c : 0 ≤ l1 ∧ l1 ≤ Sc.1 1 3 - 1
  · obtain ⟨f, f1, f2⟩ := nn_idx hF.1 c
    have f8 : f < 8 := by have := hF.2.1; omega
    have ix := nn_add (nn_add (nn_l 3 (by decide)) (nn_mul (nn_l 2 (by decide)) f1 (by omega)) (by omega)) (nn_l 0 (by decide)) (by omega)
    rw [Nat.add_zero] at ix
    rw [b01_t c, if_pos (show ¬ (1 : Int32) = 0 by decide), if_pos (show ¬ (1 : Int32) = 0 by decide), gA_nn f1 f8, sq_s, gA_nn ix (by omega), gA_nn ix (by omega), sq_s, sq_s]
    have e : (if l2 = 0 then some ((1 : Int32), yA (yI Sm 8 47 0) 8 48 (upd ((yI Sm 8 47 0).2.1 8 48) (3 + 2 * f) 0)) else some (1, yA (yI Sm 8 47 0) 8 48 (upd ((yI Sm 8 47 0).2.1 8 48) (3 + 2 * f) 1))) = some (1, yA (yI Sm 8 47 0) 8 48 (upd ((yI Sm 8 47 0).2.1 8 48) (3 + 2 * f) l2)) := by
      rcases hl with e | e
      · rw [e, if_pos rfl]
      · rw [e, if_neg (by decide)]
    rw [e]
    have hC : FR pcFi Sc (yA Sc 1 1 (upd (Sc.2.1 1 1) f l2)) := FR_A _ _ _ _ ⟨rfl, by decide⟩
    have hM : FR pmFi Sm (yA (yI Sm 8 47 0) 8 48 (upd ((yI Sm 8 47 0).2.1 8 48) (3 + 2 * f) l2)) := FR_trans (FR_I _ _ _ _ ⟨rfl, Or.inl rfl⟩) (FR_A _ _ _ _ ⟨rfl, Or.inr (Or.inr rfl)⟩)
    refine ⟨1, _, _, rfl, rfl, RA_of (cK' := cK) hA hC hM (fun k _ _ z => by have := z.1; omega) (fun k a b z => by have := z.2; omega) (fun _ _ => rfl) (ST_lamp hT hA.2.1 hC hM ?_ (fun i hi => ?_))⟩
    · refine ⟨hF.1, hF.2.1, hF.2.2.1, fun i hi => ?_⟩
      obtain ⟨y1, y2, y3, y4, s, s1, s2⟩ := hF.2.2.2 i hi
      have e4 : (yA (yI Sm 8 47 0) 8 48 (upd ((yI Sm 8 47 0).2.1 8 48) (3 + 2 * f) l2)).2.1 8 48 (4 + 2 * i) = Sm.2.1 8 48 (4 + 2 * i) := by rw [yA_same, upd_o _ _ (by omega)]; rfl
      refine ⟨?_, ?_, ?_, ?_, s, by rw [e4]; exact s1, s2⟩
      · rw [yA_2n _ _ (by decide), yA_2n _ _ (by decide)]; exact y1
      · rw [yA_same, yA_same]
        by_cases z : i = f
        · rw [z, upd_s, upd_s]
        · rw [upd_o _ _ z, upd_o _ _ (by omega)]; exact y2
      · rw [e4, yA_2n _ _ (by decide)]; exact y3
      · rw [yA_same]
        by_cases z : i = f
        · rw [z, upd_s]; exact hl
        · rw [upd_o _ _ (by omega)]; exact y4
    · rw [yA_same, upd_o _ _ (by omega)]; rfl
  · rw [b01_f c, if_neg (show ¬ ¬ (0 : Int32) = 0 from fun w => w rfl), if_neg (show ¬ ¬ (0 : Int32) = 0 from fun w => w rfl)]
    exact ⟨0, _, _, rfl, rfl, RA_clear h0⟩
theorem C_field {N : Nat} {Sc Sm : yS} (h : RAe Sc Sm) {a l c : Int32} (hl : l = 0 ∨ l = 1) : cAll (f_X11_field N Sc a l c) (f_X12_field N Sm a l c) := by
  have h0 := h
  obtain ⟨cK, nf, nl, np, nq, nb, ng, r, x, hA⟩ := h
  have hT := hA.1
  rw [e_field hT.1 hl, em_field hT.1 hl]
  by_cases k : (0 ≤ a ∧ a ≤ 99) ∧ (0 ≤ c ∧ c ≤ 9) ∧ nf < 8
  · rw [if_pos k, if_pos k]
    have hC : FR pcFi Sc (cField Sc nf a l c) := FR_trans (FR_A _ _ _ _ ⟨rfl, by decide⟩) (FR_trans (FR_A _ _ _ _ ⟨rfl, by decide⟩) (FR_trans (FR_A _ _ _ _ ⟨rfl, by decide⟩) (FR_I _ _ _ _ ⟨rfl, by decide⟩)))
    have hM : FR pmFi Sm (mField Sm nf a l c) := FR_trans (FR_I _ _ _ _ ⟨rfl, by decide⟩) (FR_trans (FR_A _ _ _ _ ⟨rfl, by decide⟩) (FR_trans (FR_A _ _ _ _ ⟨rfl, by decide⟩) (FR_I _ _ _ _ ⟨rfl, by decide⟩)))
    refine ⟨_, _, _, rfl, rfl, RA_of (cK' := cK) hA hC hM (fun k _ _ z => by have := z.1; omega) (fun k a b z => by have := z.2; omega) (fun _ _ => rfl) (ST_field hT hA.2.1 hC hM (RF_field hT.1 hl k.2.1 k.2.2) (fun i hi => ?_))⟩
    show upd (upd (Sm.2.1 8 48) (3 + 2 * nf) l) (4 + 2 * nf) c i = Sm.2.1 8 48 i
    rw [upd_o _ _ (by omega), upd_o _ _ (by omega)]
  · rw [if_neg k, if_neg k]
    exact ⟨-1, _, _, rfl, rfl, RA_clear h0⟩
theorem C_weather {N : Nat} {Sc Sm : yS} (h : RAe Sc Sm) (l q c w : Int32) : cAll (f_X11_weather N Sc l q c w) (f_X12_weather N Sm l q c w) := by
  have h0 := h
  obtain ⟨cK, nf, nl, np, nq, nb, ng, r, x, hA⟩ := h
  have hT := hA.1
  obtain ⟨k7, hW, hB⟩ := hT.2.2.2.1
  obtain ⟨e1, e2⟩ := e_weather (N := N) hW l q c w
  obtain ⟨m1, m2⟩ := em_weather (N := N) hW hT.2.1.2.2.1 l q c w
  by_cases k : okWea 0 k7 (Sc.1 1 5) l q c w
  · rw [e1 k, m1 k]
    have k60 : k7 < 60 := k.2.2.2.2
    have hC : FR pcWe Sc (cWea Sc k7 l q c w) := FR_trans (FR_A _ _ _ _ ⟨rfl, by decide⟩) (FR_trans (FR_A _ _ _ _ ⟨rfl, by decide⟩) (FR_trans (FR_A _ _ _ _ ⟨rfl, by decide⟩) (FR_trans (FR_A _ _ _ _ ⟨rfl, by decide⟩) (FR_I _ _ _ _ ⟨rfl, by decide⟩))))
    have hM : FR pmWe Sm (mWea Sm k7 l q c w) := FR_trans (FR_I _ _ _ _ ⟨rfl, by decide⟩) (FR_trans (FR_A _ _ _ _ ⟨rfl, by decide⟩) (FR_trans (FR_A _ _ _ _ ⟨rfl, by decide⟩) (FR_trans (FR_A _ _ _ _ ⟨rfl, by decide⟩) (FR_trans (FR_A _ _ _ _ ⟨rfl, by decide⟩) (FR_I _ _ _ _ ⟨rfl, by decide⟩)))))
    refine ⟨_, _, _, rfl, rfl, RA_of (cK' := cK) hA hC hM (fun k _ _ z => by have := z.1; omega) (fun k a b z => by have := z.2; omega) (fun _ _ => rfl) (ST_weather hT hA.2.1 hC hM ⟨k7 + 1, RT_weather hW k60 l q c w, fun i hi => ?_⟩)⟩
    show -9 ≤ upd (Sc.2.1 1 11) k7 w i ∧ upd (Sc.2.1 1 11) k7 w i ≤ 9
    by_cases z : i = k7
    · rw [z, upd_s]; exact k.2.2.2.1
    · rw [upd_o _ _ z]; exact hB i (by omega)
  · rw [e2 k, m2 k]
    exact ⟨-1, _, _, rfl, rfl, RA_clear h0⟩
theorem C_ground {N : Nat} {Sc Sm : yS} (h : RAe Sc Sm) (l q r : Int32) : cAll (f_X11_ground N Sc l q r) (f_X12_ground N Sm l q r) := by
  have h0 := h
  obtain ⟨cK, nf, nl, np, nq, nb, ng, rr, x, hA⟩ := h
  have hT := hA.1
  have hG := hT.2.1
  have nl12 : nl ≤ 12 := hG.2.1
  by_cases c : 0 ≤ l ∧ l ≤ Sc.1 1 5 - 1
  · obtain ⟨i, i1, i2⟩ := nn_idx hG.1 c
    obtain ⟨k, hR⟩ := hG.2.2.2.1 i i2
    obtain ⟨e1, e2⟩ := e_ground (N := N) (q := q) (r := r) hG i1 i2 hR
    obtain ⟨m1, m2⟩ := em_ground (N := N) (q := q) (r := r) hG i1 i2 hR
    by_cases o : okGr (Sc.1 1 5) (Sc.1 (64 + i) 2) k l q r
    · rw [e1 o, m1 o]
      obtain ⟨o1, ⟨r0, r3⟩, ⟨q0, q1⟩, k4⟩ := o
      have hC : FR (pcGr i) Sc (cGr Sc (64 + i) k q r) := FR_trans (FR_A _ _ _ _ ⟨rfl, by decide⟩) (FR_trans (FR_A _ _ _ _ ⟨rfl, by decide⟩) (FR_I _ _ _ _ ⟨rfl, by decide⟩))
      have hM : FR pmGr Sm (mGr Sm i k q r) := FR_trans (FR_I _ _ _ _ ⟨rfl, by decide⟩) (FR_trans (FR_A _ _ _ _ ⟨rfl, by decide⟩) (FR_trans (FR_A _ _ _ _ ⟨rfl, by decide⟩) (FR_A _ _ _ _ ⟨rfl, by decide⟩)))
      refine ⟨_, _, _, rfl, rfl, RA_of (cK' := cK) hA hC hM (fun k _ _ z => by have := z.1; omega) (fun k a b z => by have := z.2; omega) (fun _ _ => rfl) (ST_ground hT hA.2.1 (by omega) hC hM (RG_ground hG i2 hR k4 q r) (fun l' hl' => ?_))⟩
      obtain ⟨k', M, w1, w2, w3, w4, w5, w6⟩ := hT.2.2.2.2.2.2.2.2.2.2.2.2.2 l' hl'
      by_cases z : l' = i
      · subst z
        have ek := nn_inj w1 hR.2.2.2.2.2.2.2.2.1
        subst ek
        refine ⟨k' + 1, M, ?_, by omega, ?_, fun j hj => ?_, ?_, ?_⟩
        · show nn ((yI _ (64 + l') 4 (Int32.ofNat (k' + 1))).1 (64 + l') 4) (k' + 1)
          rw [yI_1s]; exact nn_lit _ (by omega)
        · rw [(hC _ 2 (fun z => by have := z.2; omega)).1]; exact w3
        · have e5 : (cGr Sc (64 + l') k' q r).2.1 (64 + l') 5 = upd (Sc.2.1 (64 + l') 5) k' q := by
            unfold cGr
            rw [yI_2, yA_2n _ _ (by omega), yA_same]
          have e6 : (cGr Sc (64 + l') k' q r).2.1 (64 + l') 6 = upd (Sc.2.1 (64 + l') 6) k' r := by
            unfold cGr
            rw [yI_2, yA_same]
          rw [e5, e6]
          by_cases y : j = k'
          · rw [y, upd_s, upd_s]
            have nq := nn_of (Int32.le_trans (by decide) q0)
            have nr := nn_of r0
            have m1' := nn_sub w3 (nn_l 1 (by decide)) (by obtain ⟨M2, u1, u2, u3⟩ := hR.2.2.2.1; have := nn_inj u1 w3; omega)
            exact ⟨⟨_, nq, by have := (nn_le nq m1').mp q1; omega⟩, _, nr, (nn_le nr (nn_l 3 (by decide))).mp r3⟩
          · rw [upd_o _ _ y, upd_o _ _ y]; exact w4 j (by omega)
        · rw [(hC _ 0 (fun z => by have := z.2; omega)).1]; exact w5
        · rw [(hC _ 1 (fun z => by have := z.2; omega)).1]; exact w6
      · have cc : ∀ s, (cGr Sc (64 + i) k q r).1 (64 + l') s = Sc.1 (64 + l') s ∧ (cGr Sc (64 + i) k q r).2.1 (64 + l') s = Sc.2.1 (64 + l') s := fun s => hC (64 + l') s (fun z => by have := z.1; omega)
        refine ⟨k', M, by rw [(cc 4).1]; exact w1, w2, by rw [(cc 2).1]; exact w3, fun j hj => by rw [(cc 5).2, (cc 6).2]; exact w4 j hj, by rw [(cc 0).1]; exact w5, by rw [(cc 1).1]; exact w6⟩
    · rw [e2 o, m2 o]
      exact ⟨-1, _, _, rfl, rfl, RA_clear h0⟩
  · obtain ⟨a, b⟩ := ground_no (N := N) (q := q) (r := r) hG c
    rw [a, b]
    exact ⟨-1, _, _, rfl, rfl, RA_clear h0⟩
