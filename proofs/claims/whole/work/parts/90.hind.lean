/-! STARTS: why not, and what the rule says -/
def cry (Sc : yS) (p l fi : Nat) : Int32 := if (50 * ((Sc.1 (128 + p) 2 - (Sc.1 (128 + p) 5 / 20)) - Sc.1 (64 + l) 3)) < (Sc.1 (128 + p) 1 - (5 * Sc.2.1 1 0 fi)) then (50 * ((Sc.1 (128 + p) 2 - (Sc.1 (128 + p) 5 / 20)) - Sc.1 (64 + l) 3)) else (Sc.1 (128 + p) 1 - (5 * Sc.2.1 1 0 fi))
theorem e_carry {N p l fi : Nat} {S : yS} (hf : nn (S.1 (128 + p) 8) fi) (h8 : fi < 8) : f_X10_carriedAtMost N S (128 + p) (64 + l) = some (cry S p l fi) := by
  unfold f_X10_carriedAtMost f_X10_carriedAtMost_0
  rw [gA_nn hf h8]
  rfl
theorem em_carry {N p l fi : Nat} {Sc Sm : yS} {pI lI f : Int32} (hpI : nn pI p) (hp : p < 8) (hlI : nn lI l) (hl : l < 12) (hf : nn f fi) (h8 : fi < 8) (x3 : Sm.2.1 8 17 p = Sc.1 (128 + p) 1) (x4 : Sm.2.1 8 18 p = Sc.1 (128 + p) 2) (y1 : Sm.2.1 8 0 fi = Sc.2.1 1 0 fi) (r8 : Sm.2.1 8 5 l = Sc.1 (64 + l) 3) (u5 : Sm.2.1 8 48 (19 + 23 * p + 5) = Sc.1 (128 + p) 5) : f_X12_carries N Sm pI lI f = some (cry Sc p l fi) := by
  unfold f_X12_carries f_X12_carries_0
  rw [gA_nn hpI hp, gA_nn hf h8, gA_nn hpI hp, em_planeR hpI hp (nn_l 5 (by decide)) (by decide), bV_s, gA_nn hlI hl, x3, x4, y1, r8, u5]
  rfl
theorem hind_both {cK : Nat → Nat} {N nf nl np nq nb ng g : Nat} {Sc Sm : yS} {gI : Int32} (hT : ST cK nf nl np nq nb ng Sc Sm) (hD : DY cK nf nl np nq nb ng Sc Sm) (hg : g < ng) (hgI : nn gI g) : ∃ h p q l, f_X10_hindrance N Sc (512 + g) = some h ∧ nn (Sc.1 (512 + g) 0) p ∧ p < np ∧ nn (Sc.1 (512 + g) 1) q ∧ q < nq ∧ nn (Sc.1 (512 + g) 2) l ∧ l < nl ∧ (¬ h = 0 → ∀ kp, f_X12_whyNot N Sm gI kp = some (h, Sm)) ∧ (h = 0 → (∃ fi, nn (Sc.1 (128 + p) 8) fi ∧ fi < nf) ∧ (Sc.1 (128 + p) 8 = Sc.1 (64 + l) 0 ∨ Sc.1 (128 + p) 8 = Sc.1 (64 + l) 1) ∧ Sc.1 (256 + q) 0 = Sc.1 (128 + p) 8 ∧ ∀ kp, f_X12_whyNot N Sm gI kp = f_X12_whyNot_177 N Sm gI kp (Sc.1 (512 + g) 0) (Sc.1 (512 + g) 1) (Sc.1 (512 + g) 2) (Sc.1 (128 + p) 8) (b01 (Sc.1 (128 + p) 8 = Sc.1 (64 + l) 0))) := by
  obtain ⟨d1, d2, d3, d4, d5, d6, d7, d8, d9⟩ := hD
  obtain ⟨t1, t2, t3, t4, t5, t6, t7, t8, t9, t10, t11, t12, t13, t14⟩ := hT
  have g24 : g < 24 := by have := t7.2.2.2.2.1; omega
  obtain ⟨e0, e1, e2, e3, e4, ⟨p, p1, p2⟩, ⟨q, q1, q2⟩, ⟨l, l1, l2⟩, e8⟩ := t11 g hg
  have np8 : p < 8 := by have := t7.1.2.1; omega
  have l12 : l < 12 := by have := t2.2.1; omega
  have q8 : q < 8 := by have := t7.2.1.2.1; omega
  obtain ⟨k, hR⟩ := t2.2.2.2.1 l l2
  obtain ⟨r1, ⟨ra, ra1, ra2⟩, ⟨rb, rb1, rb2⟩, r4, r5, r6, r7, r8, r9, r10, r11, r12⟩ := hR
  have u : ∀ j kk, j < 12 → pS j = kk → Sm.2.1 8 48 (19 + 23 * p + j) = Sc.1 (128 + p) kk := fun j kk hj hk => by rw [← hk]; exact d5 p p2 j hj
  obtain ⟨x1, x2, x3, x4, x5, x6, x7, x8⟩ := t8 p p2
  obtain ⟨⟨hh, hh1, hh2⟩, i2, i3, i4, _, _⟩ := d9 p p2
  have hc : f_X10_hindrance N Sc (512 + g) = if Sc.1 (128 + p) 8 = -1 then some 1 else if ¬ Sc.1 (128 + p) 8 = Sc.1 (256 + q) 0 then some 1 else bV (f_X3_touches N Sc (64 + l) (Sc.1 (128 + p) 8)) fun w1 => if ¬ w1 = 0 then if Sc.1 (128 + p) 13 = 0 then if Sc.1 (128 + p) 14 ≤ Sc.1 2 13 then if Sc.1 (128 + p) 5 < Sc.1 (128 + p) 6 then bV (f_X10_isNight N Sc) fun w2 => if w2 = 0 then f_X10_hindrance_114 N Sc (128 + p) (64 + l) else if ¬ Sc.1 (128 + p) 4 = 0 then f_X10_hindrance_114 N Sc (128 + p) (64 + l) else some 5 else some 4 else some 3 else some 2 else some 1 := by
    unfold f_X10_hindrance f_X10_hindrance_0 f_X10_hindrance_61
    rw [gR_nn p1 np8 x1, gR_nn l1 l12 r1]
    by_cases z : Sc.1 (128 + p) 8 = -1
    · rw [if_pos z, if_pos z]
    · rw [if_neg z, if_neg z, gR_nn q1 q8 (t9 q q2)]
  have hm : ∀ kp, f_X12_whyNot N Sm gI kp = if Sc.1 (128 + p) 8 = -1 then some (1, Sm) else if ¬ Sc.1 (256 + q) 0 = Sc.1 (128 + p) 8 then some (1, Sm) else if Sc.1 (128 + p) 8 = Sc.1 (64 + l) 0 then f_X12_whyNot_75 N Sm gI kp (Sc.1 (512 + g) 0) (Sc.1 (512 + g) 1) (Sc.1 (512 + g) 2) (Sc.1 (128 + p) 8) else if Sc.1 (128 + p) 8 = Sc.1 (64 + l) 1 then f_X12_whyNot_75 N Sm gI kp (Sc.1 (512 + g) 0) (Sc.1 (512 + g) 1) (Sc.1 (512 + g) 2) (Sc.1 (128 + p) 8) else some (1, Sm) := by
    intro kp
    unfold f_X12_whyNot f_X12_whyNot_0 f_X12_whyNot_73
    rw [gA_nn hgI g24, gA_nn hgI g24, gA_nn hgI g24, e1, e2, e3, em_planeR p1 np8 (nn_l 0 (by decide)) (by decide), bV_s, u 0 8 (by decide) rfl, em_pilR q1 q8 (nn_l 0 (by decide)) (by decide), bV_s, d6 q q2 0 (by decide), gA_nn l1 l12, gA_nn l1 l12, r5, r6]
  by_cases c1 : Sc.1 (128 + p) 8 = -1
  · refine ⟨1, p, q, l, by rw [hc, if_pos c1], p1, p2, q1, q2, l1, l2, fun _ kp => by rw [hm, if_pos c1], fun z => absurd z (by decide)⟩
  have hfld : ∃ fi, nn (Sc.1 (128 + p) 8) fi ∧ fi < nf := by
    rcases i4 with ⟨z, _⟩ | ⟨z, _⟩
    · exact z.elim fun f hf => ⟨f, hf.1, hf.2.1⟩
    · exact absurd z c1
  obtain ⟨fi, fi1, fi2⟩ := hfld
  have f8 : fi < 8 := by have := t1.2.1; omega
  by_cases c2 : Sc.1 (128 + p) 8 = Sc.1 (256 + q) 0
  · have tch : f_X3_touches N Sc (64 + l) (Sc.1 (128 + p) 8) = some (b01 (Sc.1 (128 + p) 8 = Sc.1 (64 + l) 0 ∨ Sc.1 (128 + p) 8 = Sc.1 (64 + l) 1)) := by
      unfold f_X3_touches f_X3_touches_0 f_X3_touches_16 f_X3_touches_21
      by_cases z : Sc.1 (128 + p) 8 = Sc.1 (64 + l) 0
      · rw [if_pos z, gP_t (Or.inr rfl), b01_t (Or.inl z)]
      · rw [if_neg z]
        by_cases y : Sc.1 (128 + p) 8 = Sc.1 (64 + l) 1
        · rw [if_neg (fun w => w y), gP_t (Or.inr rfl), b01_t (Or.inr y)]
        · rw [if_pos y, gP_t (Or.inl rfl), b01_f (fun w => w.elim z y)]
    rw [tch, bV_s, if_neg c1, if_neg (fun w => w c2)] at hc
    by_cases c3 : Sc.1 (128 + p) 8 = Sc.1 (64 + l) 0 ∨ Sc.1 (128 + p) 8 = Sc.1 (64 + l) 1
    · rw [b01_t c3, if_pos i10] at hc
      have hm2 : ∀ kp, f_X12_whyNot N Sm gI kp = f_X12_whyNot_75 N Sm gI kp (Sc.1 (512 + g) 0) (Sc.1 (512 + g) 1) (Sc.1 (512 + g) 2) (Sc.1 (128 + p) 8) := by
        intro kp
        rw [hm, if_neg c1, if_neg (fun w => w c2.symm)]
        by_cases z : Sc.1 (128 + p) 8 = Sc.1 (64 + l) 0
        · rw [if_pos z]
        · rw [if_neg z, if_pos (c3.resolve_left z)]
      have h75 : ∀ kp, f_X12_whyNot_75 N Sm gI kp (Sc.1 (512 + g) 0) (Sc.1 (512 + g) 1) (Sc.1 (512 + g) 2) (Sc.1 (128 + p) 8) = if Sc.1 (128 + p) 13 = 0 then if Sc.1 (128 + p) 14 ≤ Sc.1 2 13 then if Sc.1 (128 + p) 5 < Sc.1 (128 + p) 6 then if nNt (Sc.1 2 13) = 0 then f_X12_whyNot_145 N Sm gI kp (Sc.1 (512 + g) 0) (Sc.1 (512 + g) 1) (Sc.1 (512 + g) 2) (Sc.1 (128 + p) 8) else if ¬ Sc.1 (128 + p) 4 = 0 then f_X12_whyNot_145 N Sm gI kp (Sc.1 (512 + g) 0) (Sc.1 (512 + g) 1) (Sc.1 (512 + g) 2) (Sc.1 (128 + p) 8) else some (5, Sm) else some (4, Sm) else some (3, Sm) else some (2, Sm) := by
        intro kp
        unfold f_X12_whyNot_75
        rw [em_planeR p1 np8 (nn_l 4 (by decide)) (by decide), bV_s, u 4 13 (by decide) rfl, em_planeR p1 np8 (nn_l 9 (by decide)) (by decide), bV_s, u 9 14 (by decide) rfl, gA_nn (nn_l 0 (by decide)) (by decide), d1, em_planeR p1 np8 (nn_l 5 (by decide)) (by decide), bV_s, u 5 5 (by decide) rfl, em_planeR p1 np8 (nn_l 6 (by decide)) (by decide), bV_s, u 6 6 (by decide) rfl, gA_nn (nn_l 0 (by decide)) (by decide), d1, em_darkN, bV_s, gA_nn p1 np8, x6]
        by_cases z : Sc.1 (128 + p) 13 = 0
        · rw [if_pos z, if_pos (by rw [z]; decide)]
        · rw [if_neg z, if_neg (fun y => z ((nn_eq hh1 (nn_l 0 (by decide))).mpr (by have := (nn_le hh1 (nn_l 0 (by decide))).mp y; omega)))]
      rw [e_nightN, bV_s] at hc
      -- the last test
      have last : ∃ h, f_X10_hindrance_114 N Sc (128 + p) (64 + l) = some h ∧ (¬ h = 0 → ∀ kp, f_X12_whyNot_145 N Sm gI kp (Sc.1 (512 + g) 0) (Sc.1 (512 + g) 1) (Sc.1 (512 + g) 2) (Sc.1 (128 + p) 8) = some (h, Sm)) ∧ (h = 0 → ∀ kp, f_X12_whyNot_145 N Sm gI kp (Sc.1 (512 + g) 0) (Sc.1 (512 + g) 1) (Sc.1 (512 + g) 2) (Sc.1 (128 + p) 8) = f_X12_whyNot_177 N Sm gI kp (Sc.1 (512 + g) 0) (Sc.1 (512 + g) 1) (Sc.1 (512 + g) 2) (Sc.1 (128 + p) 8) (b01 (Sc.1 (128 + p) 8 = Sc.1 (64 + l) 0))) := by
        unfold f_X10_hindrance_114 f_X10_hindrance_129
        have h145 : ∀ kp, f_X12_whyNot_145 N Sm gI kp (Sc.1 (512 + g) 0) (Sc.1 (512 + g) 1) (Sc.1 (512 + g) 2) (Sc.1 (128 + p) 8) = if 0 ≤ cry Sc p l fi then (if ¬ Sc.1 (128 + p) 8 = Sc.1 (64 + l) 0 then f_X12_whyNot_177 N Sm gI kp (Sc.1 (512 + g) 0) (Sc.1 (512 + g) 1) (Sc.1 (512 + g) 2) (Sc.1 (128 + p) 8) 0 else f_X12_whyNot_177 N Sm gI kp (Sc.1 (512 + g) 0) (Sc.1 (512 + g) 1) (Sc.1 (512 + g) 2) (Sc.1 (128 + p) 8) 1) else some (6, Sm) := by
          intro kp
          unfold f_X12_whyNot_145
          rw [em_carry p1 np8 l1 l12 fi1 f8 x3 x4 (t1.2.2.2 fi f8).1.symm r8 (u 5 5 (by decide) rfl), bV_s, gA_nn l1 l12, r5]
        rw [e_carry fi1 f8, bV_s]
        by_cases z : 0 ≤ cry Sc p l fi
        · refine ⟨0, by rw [if_pos z], fun y => absurd rfl y, fun _ kp => ?_⟩
          rw [h145, if_pos z]
          by_cases y : Sc.1 (128 + p) 8 = Sc.1 (64 + l) 0
          · rw [if_neg (fun w => w y), b01_t y]
          · rw [if_pos y, b01_f y]
        · exact ⟨6, by rw [if_neg z], fun _ kp => by rw [h145, if_neg z], fun y => absurd y (by decide)⟩
      obtain ⟨h, hl1, hl2, hl3⟩ := last
      have fin : ∀ hc' : f_X10_hindrance N Sc (512 + g) = some h, (∀ kp, f_X12_whyNot N Sm gI kp = f_X12_whyNot_145 N Sm gI kp (Sc.1 (512 + g) 0) (Sc.1 (512 + g) 1) (Sc.1 (512 + g) 2) (Sc.1 (128 + p) 8)) → ∃ h p q l, f_X10_hindrance N Sc (512 + g) = some h ∧ nn (Sc.1 (512 + g) 0) p ∧ p < np ∧ nn (Sc.1 (512 + g) 1) q ∧ q < nq ∧ nn (Sc.1 (512 + g) 2) l ∧ l < nl ∧ (¬ h = 0 → ∀ kp, f_X12_whyNot N Sm gI kp = some (h, Sm)) ∧ (h = 0 → (∃ fi, nn (Sc.1 (128 + p) 8) fi ∧ fi < nf) ∧ (Sc.1 (128 + p) 8 = Sc.1 (64 + l) 0 ∨ Sc.1 (128 + p) 8 = Sc.1 (64 + l) 1) ∧ Sc.1 (256 + q) 0 = Sc.1 (128 + p) 8 ∧ ∀ kp, f_X12_whyNot N Sm gI kp = f_X12_whyNot_177 N Sm gI kp (Sc.1 (512 + g) 0) (Sc.1 (512 + g) 1) (Sc.1 (512 + g) 2) (Sc.1 (128 + p) 8) (b01 (Sc.1 (128 + p) 8 = Sc.1 (64 + l) 0))) := fun hc' w => ⟨h, p, q, l, hc', p1, p2, q1, q2, l1, l2, fun z kp => (w kp).trans (hl2 z kp), fun z => ⟨⟨fi, fi1, fi2⟩, c3, c2.symm, fun kp => (w kp).trans (hl3 z kp)⟩⟩
      have oth : ∀ x : Int32, ¬ x = 0 → f_X10_hindrance N Sc (512 + g) = some x → (∀ kp, f_X12_whyNot N Sm gI kp = some (x, Sm)) → ∃ h p q l, f_X10_hindrance N Sc (512 + g) = some h ∧ nn (Sc.1 (512 + g) 0) p ∧ p < np ∧ nn (Sc.1 (512 + g) 1) q ∧ q < nq ∧ nn (Sc.1 (512 + g) 2) l ∧ l < nl ∧ (¬ h = 0 → ∀ kp, f_X12_whyNot N Sm gI kp = some (h, Sm)) ∧ (h = 0 → (∃ fi, nn (Sc.1 (128 + p) 8) fi ∧ fi < nf) ∧ (Sc.1 (128 + p) 8 = Sc.1 (64 + l) 0 ∨ Sc.1 (128 + p) 8 = Sc.1 (64 + l) 1) ∧ Sc.1 (256 + q) 0 = Sc.1 (128 + p) 8 ∧ ∀ kp, f_X12_whyNot N Sm gI kp = f_X12_whyNot_177 N Sm gI kp (Sc.1 (512 + g) 0) (Sc.1 (512 + g) 1) (Sc.1 (512 + g) 2) (Sc.1 (128 + p) 8) (b01 (Sc.1 (128 + p) 8 = Sc.1 (64 + l) 0))) := fun x hx hc' w => ⟨x, p, q, l, hc', p1, p2, q1, q2, l1, l2, fun _ kp => w kp, fun z => absurd z hx⟩
      by_cases s1 : Sc.1 (128 + p) 13 = 0
      · by_cases s2 : Sc.1 (128 + p) 14 ≤ Sc.1 2 13
        · by_cases s3 : Sc.1 (128 + p) 5 < Sc.1 (128 + p) 6
          · by_cases s4 : nNt (Sc.1 2 13) = 0
            · exact fin (by rw [hc, if_pos s1, if_pos s2, if_pos s3, if_pos s4, hl1]) (fun kp => by rw [hm2, h75, if_pos s1, if_pos s2, if_pos s3, if_pos s4])
            · by_cases s5 : Sc.1 (128 + p) 4 = 0
              · exact oth 5 (by decide) (by rw [hc, if_pos s1, if_pos s2, if_pos s3, if_neg s4, if_neg (fun y => y s5)]) (fun kp => by rw [hm2, h75, if_pos s1, if_pos s2, if_pos s3, if_neg s4, if_neg (fun y => y s5)])
              · exact fin (by rw [hc, if_pos s1, if_pos s2, if_pos s3, if_neg s4, if_pos s5, hl1]) (fun kp => by rw [hm2, h75, if_pos s1, if_pos s2, if_pos s3, if_neg s4, if_pos s5])
          · exact oth 4 (by decide) (by rw [hc, if_pos s1, if_pos s2, if_neg s3]) (fun kp => by rw [hm2, h75, if_pos s1, if_pos s2, if_neg s3])
        · exact oth 3 (by decide) (by rw [hc, if_pos s1, if_neg s2]) (fun kp => by rw [hm2, h75, if_pos s1, if_neg s2])
      · exact oth 2 (by decide) (by rw [hc, if_neg s1]) (fun kp => by rw [hm2, h75, if_neg s1])
    · rw [b01_f c3, if_neg (fun w => w rfl)] at hc
      refine ⟨1, p, q, l, hc, p1, p2, q1, q2, l1, l2, fun _ kp => ?_, fun z => absurd z (by decide)⟩
      rw [hm, if_neg c1, if_neg (fun w => w c2.symm), if_neg (fun w => c3 (Or.inl w)), if_neg (fun w => c3 (Or.inr w))]
  · refine ⟨1, p, q, l, by rw [hc, if_neg c1, if_pos c2], p1, p2, q1, q2, l1, l2, fun _ kp => by rw [hm, if_neg c1, if_pos (fun w => c2 w.symm)], fun z => absurd z (by decide)⟩
