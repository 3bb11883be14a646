def zBn (i st : Nat) (c h : List Nat) (cm : List Bool) (dg oc : Nat) : Prop := c.length + h.length ≤ i ∧ cm.length ≤ i + 1 ∧ oc ≤ i ∧ dg ≤ 3 ∧ (∀ x ∈ c, (x < 1026 ∨ (2000 ≤ x ∧ x < 2256) ∨ (3000 ≤ x ∧ x < 4000))) ∧ (∀ p ∈ h, p < 256) ∧ (st = 2 → dg < 3 → ∃ x c', c = x :: c' ∧ x < 10 ^ dg ∧ 1 ≤ dg)
def zPR (k : Nat) (S : yS) (P : zP) : Prop := pC S P.2.1 ∧ pH S P.2.2.1 ∧ pR k S P.1 P.2.2.2.1 P.2.2.2.2.1 P.2.2.2.2.2
def zBP (i : Nat) (P : zP) : Prop := P.1 ≤ 4 ∧ zBn i P.1 P.2.1 P.2.2.1 P.2.2.2.1 P.2.2.2.2.1 P.2.2.2.2.2
def pTk (k i : Nat) (S : yS) (r : Option (Int32 × yS)) (z : Option zP) : Prop := (∃ Q S', z = some Q ∧ r = some (1, S') ∧ zPR k S' Q ∧ zBP (i + 1) Q ∧ pF S S') ∨ (∃ S', z = none ∧ r = some (0, S') ∧ pF S S')
theorem pR_st {k st st' dg oc : Nat} {cm : List Bool} {S : yS} {w : Int32} (h : pR k S st cm dg oc) (hw : nn w st') : pR k (yI S 7 9 w) st' cm dg oc := by
  obtain ⟨a, b, c, d, e, f, g⟩ := h
  exact ⟨hw, b, c, d, e, f, g⟩
theorem pR_dg {k st dg dg' oc : Nat} {cm : List Bool} {S : yS} {w : Int32} (h : pR k S st cm dg oc) (hw : nn w dg') : pR k (yI S 7 6 w) st cm dg' oc := by
  obtain ⟨a, b, c, d, e, f, g⟩ := h
  exact ⟨a, b, c, d, hw, f, g⟩
theorem pR_oc {k st dg oc oc' : Nat} {cm : List Bool} {S : yS} {w : Int32} (h : pR k S st cm dg oc) (hw : nn w oc') : pR k (yI S 7 7 w) st cm dg oc' := by
  obtain ⟨a, b, c, d, e, f, g⟩ := h
  exact ⟨a, b, c, d, e, hw, g⟩
theorem e_dig {N x : Nat} {S : yS} (hx : x < 256) : f_X4_isDigit N S (Int32.ofNat x) = some (b01 (48 ≤ x ∧ x ≤ 57)) := by
  simp only [f_X4_isDigit, f_X4_isDigit_0, f_X4_isDigit_16, f_X4_isDigit_17]
  by_cases h2 : x < 48
  · rw [if_pos ((nn_lt (zB hx) (nn_l 48 (by decide))).mpr h2), gP_t (Or.inl trivial), b01_f (by omega)]
  · rw [if_neg (fun q => h2 ((nn_lt (zB hx) (nn_l 48 (by decide))).mp q))]
    by_cases h3 : 57 < x
    · rw [if_pos ((nn_lt (nn_l 57 (by decide)) (zB hx)).mpr h3), gP_t (Or.inl trivial), b01_f (by omega)]
    · rw [if_neg (fun q => h3 ((nn_lt (nn_l 57 (by decide)) (zB hx)).mp q)), gP_t (Or.inr trivial), b01_t (by omega)]
theorem p_eq {x c : Nat} {l : Int32} (hx : x < 256) (hc : nn l c) : Int32.ofNat x = l ↔ x = c := nn_eq (zB hx) hc
theorem p_thing {N k i st x dg oc : Nat} {c h : List Nat} {cm : List Bool} {S : yS} (hx : x < 256) (hi : i < 60) (hC : pC S c) (hH : pH S h) (hR : pR k S st cm dg oc) (hB : zBn i st c h cm dg oc) : pTk k i S (f_X4_takesThing N S (Int32.ofNat x)) (zThing k c h cm dg oc x) := by
  obtain ⟨b1, b2, b3, b4, b5, b6, b7⟩ := hB
  have e0 : f_X4_takesThing N S (Int32.ofNat x) = f_X4_takesThing_15 N S (Int32.ofNat x) (if k = 2 then 0 else 1) := by
    simp only [f_X4_takesThing, f_X4_takesThing_0]
    by_cases hk : k = 2
    · rw [if_neg (fun q => q ((nn_eq hR.2.2.2.2.2.2 (nn_l 2 (by decide))).mpr hk)), if_pos hk]
    · rw [if_pos (fun q => hk ((nn_eq hR.2.2.2.2.2.2 (nn_l 2 (by decide))).mp q)), if_neg hk]
  rw [e0]
  unfold f_X4_takesThing_15 zThing
  rw [e_dig hx, bV_s]
  by_cases c1 : 48 ≤ x ∧ x ≤ 57
  · rw [b01_t c1, if_neg i10, if_pos c1]
    obtain ⟨S1, e1, k1, k2, k3⟩ := p_write (N := N) (x := x - 48) hC hH (by omega) (nn_sub (zB hx) (nn_l 48 (by decide)) c1.1).1
    rw [e1, bS_s, sq_s, sq_s]
    left
    refine ⟨_, _, rfl, rfl, ⟨k1, k2, pR_st (pR_dg (pR_G hR k3) (nn_l 1 (by decide))) (nn_l 2 (by decide))⟩, ⟨by show 2 ≤ 4; decide, by show c.length + 1 + h.length ≤ i + 1; omega, by show cm.length ≤ i + 1 + 1; omega, by show oc ≤ i + 1; omega, by show 1 ≤ 3; decide, ?_, b6, fun _ _ => ⟨_, _, rfl, by show x - 48 < 10; omega, by show 1 ≤ 1; decide⟩⟩, pF_trans k3.1 (pF_trans (pF_I _ _ _) (pF_I _ _ _))⟩
    intro y hy
    rcases List.mem_cons.mp hy with q | q
    · omega
    · exact b5 y q
  rw [b01_f c1, if_pos rfl, if_neg c1, gP_t (by by_cases hk : k = 2 <;> simp [hk]), zChr _ hx]
  rcases zIdx (k := k) hx with ⟨z1, z2⟩ | ⟨t, z1, z2, z3, z4, z5⟩
  · rw [if_pos z1, if_neg (show ¬ zL k x = true by rw [z2]; decide)]
    by_cases c33 : x = 33
    · subst c33
      rw [if_pos (show Int32.ofNat 33 = 33 from rfl), if_pos rfl]
      unfold f_X4_takesThing_89 f_X4_takesThing_103
      rw [if_neg (by decide)]
      obtain ⟨S1, e1, k1, k2, k3⟩ := p_hold (N := N) (x := 33) (v := 33) hC hH (by omega) rfl
      rw [e1, bS_s, sq_s]
      left
      refine ⟨_, _, rfl, rfl, ⟨k1, k2, pR_st (pR_G hR k3) (nn_l 1 (by decide))⟩, ⟨by show 1 ≤ 4; decide, by show c.length + (h.length + 1) ≤ i + 1; omega, by show cm.length ≤ i + 1 + 1; omega, by show oc ≤ i + 1; omega, b4, b5, ?_, fun q => absurd q (by show ¬ (1 : Nat) = 2; decide)⟩, pF_trans k3.1 (pF_I _ _ _)⟩
      intro y hy
      rcases List.mem_cons.mp hy with q | q
      · omega
      · exact b6 y q
    rw [if_neg (fun q => c33 ((p_eq hx (nn_l 33 (by decide))).mp q)), if_neg c33]
    by_cases c45 : x = 45
    · subst c45
      rw [if_neg (by decide), if_pos rfl]
      unfold f_X4_takesThing_89 f_X4_takesThing_103
      rw [if_pos (by decide)]
      obtain ⟨S1, e1, k1, k2, k3⟩ := p_hold (N := N) (x := 126) (v := 126) hC hH (by omega) rfl
      rw [e1, bS_s, sq_s]
      left
      refine ⟨_, _, rfl, rfl, ⟨k1, k2, pR_st (pR_G hR k3) (nn_l 1 (by decide))⟩, ⟨by show 1 ≤ 4; decide, by show c.length + (h.length + 1) ≤ i + 1; omega, by show cm.length ≤ i + 1 + 1; omega, by show oc ≤ i + 1; omega, b4, b5, ?_, fun q => absurd q (by show ¬ (1 : Nat) = 2; decide)⟩, pF_trans k3.1 (pF_I _ _ _)⟩
      intro y hy
      rcases List.mem_cons.mp hy with q | q
      · omega
      · exact b6 y q
    rw [if_pos (fun q => c45 ((p_eq hx (nn_l 45 (by decide))).mp q)), if_neg c45]
    by_cases c40 : x = 40
    · subst c40
      rw [if_neg (by decide)]
      by_cases c60 : cm.length ≤ 60
      · rw [if_neg (fun q => by have := (nn_le (nn_l 60 (by decide)) hR.2.2.1).mp q; have := hR.2.1; omega), if_pos ⟨rfl, c60⟩]
        obtain ⟨S1, e1, k1, k2, k3⟩ := p_hold (N := N) (x := 40) (v := 40) hC hH (by omega) rfl
        have r1 := pR_G hR k3
        obtain ⟨q1, q2, q3, q4, q5, q6, q7⟩ := r1
        have e5 : S1.1 7 5 + 1 = Int32.ofNat cm.length := by
          rw [q3.1, y_int1]
          congr 1
          omega
        rw [e1, bS_s, sq_s, e5]
        have n5 : nn ((yI S1 7 5 (Int32.ofNat cm.length)).1 7 5) cm.length := nn_lit cm.length (by omega)
        rw [gA_nn n5 (by omega), sq_s, sq_s, vz (Or.inl rfl)]
        left
        refine ⟨_, _, rfl, rfl, ⟨k1, k2, nn_l 1 (by decide), by show 1 ≤ cm.length + 1; omega, n5, ⟨?_, pBol_upd _ (Nat.le_refl _) q4⟩, q5, q6, q7⟩, ⟨by show 1 ≤ 4; decide, by show c.length + (h.length + 1) ≤ i + 1; omega, by show cm.length + 1 ≤ i + 1 + 1; omega, by show oc ≤ i + 1; omega, b4, b5, ?_, fun q => absurd q (by show ¬ (1 : Nat) = 2; decide)⟩, pF_trans k3.1 (pF_trans (pF_I _ _ _) (pF_trans (pF_A _ _ _) (pF_I _ _ _)))⟩
        · show upd _ cm.length 0 cm.length = _
          rw [upd_s]
          rfl
        · intro y hy
          rcases List.mem_cons.mp hy with q | q
          · omega
          · exact b6 y q
      · rw [if_pos ((nn_le (nn_l 60 (by decide)) hR.2.2.1).mpr (by omega)), if_neg (fun q => c60 q.2)]
        exact Or.inr ⟨S, rfl, rfl, pF_refl S⟩
    · rw [if_pos (fun q => c40 ((p_eq hx (nn_l 40 (by decide))).mp q)), if_neg (fun q => c40 q.1)]
      exact Or.inr ⟨S, rfl, rfl, pF_refl S⟩
  · rw [z2, if_neg (nn_lit t (by omega)).nneg, if_pos z3]
    have e := nn_sub (nn_add (nn_l 1000 (by decide)) (zB hx) (by omega)) (nn_l 97 (by decide)) (by omega)
    obtain ⟨S1, e1, k1, k2, k3⟩ := p_write (N := N) (x := 903 + x) hC hH (by omega) (e.1.trans (congrArg Int32.ofNat (by omega)))
    rw [e1, bS_s]
    unfold f_X4_takeNoDigits f_X4_takeNoDigits_0
    rw [sq_s, bS_s, sq_s]
    left
    refine ⟨_, _, rfl, rfl, ⟨k1, k2, pR_st (pR_dg (pR_G hR k3) (nn_l 3 (by decide))) (nn_l 2 (by decide))⟩, ⟨by show 2 ≤ 4; decide, by show c.length + 1 + h.length ≤ i + 1; omega, by show cm.length ≤ i + 1 + 1; omega, by show oc ≤ i + 1; omega, by show 3 ≤ 3; decide, ?_, b6, fun _ q => absurd q (by show ¬ 3 < 3; decide)⟩, pF_trans k3.1 (pF_trans (pF_I _ _ _) (pF_I _ _ _))⟩
    intro y hy
    rcases List.mem_cons.mp hy with q | q
    · omega
    · exact b5 y q
theorem p_num {N k i x dg oc : Nat} {c h : List Nat} {cm : List Bool} {S : yS} (hx : x < 256) (hi : i < 60) (hd : 48 ≤ x ∧ x ≤ 57) (hC : pC S c) (hH : pH S h) (hR : pR k S 2 cm dg oc) (hB : zBn i 2 c h cm dg oc) : pTk k i S (f_X4_takesNextDigit N S (Int32.ofNat x - 48)) (if 3 ≤ dg then none else zNum c h cm dg oc x) := by
  obtain ⟨b1, b2, b3, b4, b5, b6, b7⟩ := hB
  simp only [f_X4_takesNextDigit, f_X4_takesNextDigit_0, f_X4_takesNextDigit_16]
  obtain ⟨q1, q2, q3, q4, q5, q6, q7⟩ := hR
  by_cases hg : 3 ≤ dg
  · rw [if_pos ((nn_le (nn_l 3 (by decide)) q5).mpr hg), if_pos hg]
    exact Or.inr ⟨S, rfl, rfl, pF_refl S⟩
  · rw [if_neg (fun q => hg ((nn_le (nn_l 3 (by decide)) q5).mp q)), if_neg hg]
    obtain ⟨y, c', rfl, hy, hdg⟩ := b7 rfl (by omega)
    have hy2 : y < 100 := by
      have : 10 ^ dg ≤ 10 ^ 2 := Nat.pow_le_pow_right (by decide) (by omega)
      omega
    have hl : c'.length + 1 + h.length ≤ i := b1
    have n1 : nn (S.1 7 1 - 1) c'.length := nn_sub hC.1 (nn_l 1 (by decide)) (Nat.succ_le_succ (Nat.zero_le _))
    have ev := nn_add (nn_mul (nn_lit y (by omega)) (nn_l 10 (by decide)) (by omega)) (nn_sub (zB hx) (nn_l 48 (by decide)) hd.1) (by omega)
    rw [if_pos ((nn_le (nn_l 1 (by decide)) hC.1).mpr (Nat.succ_le_succ (Nat.zero_le _))), gA_nn n1 (by omega), gA_nn n1 (by omega), sq_s, sq_s, hC.2.1, ev.1]
    have n6 : nn (S.1 7 6 + 1) (dg + 1) := nn_add q5 (nn_l 1 (by decide)) (by omega)
    left
    refine ⟨_, _, rfl, rfl, ⟨⟨hC.1, ?_, pLst_upd _ (Nat.le_refl _) hC.2.2⟩, hH, q1, q2, q3, q4, n6, q6, q7⟩, ⟨by show 2 ≤ 4; decide, by show c'.length + 1 + h.length ≤ i + 1; omega, by show cm.length ≤ i + 1 + 1; omega, by show oc ≤ i + 1; omega, by show dg + 1 ≤ 3; omega, ?_, b6, fun _ _ => ⟨_, _, rfl, by show y * 10 + (x - 48) < 10 ^ (dg + 1); rw [Nat.pow_succ]; omega, by show 1 ≤ dg + 1; omega⟩⟩, pF_trans (pF_A _ _ _) (pF_I _ _ _)⟩
    · show upd _ c'.length _ c'.length = _
      rw [upd_s]
    · intro z hz
      rcases List.mem_cons.mp hz with q | q
      · omega
      · exact b5 z (List.mem_cons_of_mem _ q)
theorem zRls_bd {t : Nat} {h c : List Nat} (hc : ∀ x ∈ c, (x < 1026 ∨ (2000 ≤ x ∧ x < 2256) ∨ (3000 ≤ x ∧ x < 4000))) (hh : ∀ p ∈ h, p < 256) : (∀ x ∈ (zRls t h c).2, (x < 1026 ∨ (2000 ≤ x ∧ x < 2256) ∨ (3000 ≤ x ∧ x < 4000))) ∧ ∀ p ∈ (zRls t h c).1, p < 256 := by
  obtain ⟨a, b⟩ := zRls_mem t h c
  refine ⟨fun x hx => ?_, fun p hp => hh p (a p hp)⟩
  rcases b x hx with q | ⟨p, q1, q2⟩
  · exact hc x q
  · have := hh p q1
    omega
theorem zCls_bd {h c : List Nat} (hc : ∀ x ∈ c, (x < 1026 ∨ (2000 ≤ x ∧ x < 2256) ∨ (3000 ≤ x ∧ x < 4000))) (hh : ∀ p ∈ h, p < 256) : (∀ x ∈ (zCls h c).2, (x < 1026 ∨ (2000 ≤ x ∧ x < 2256) ∨ (3000 ≤ x ∧ x < 4000))) ∧ ∀ p ∈ (zCls h c).1, p < 256 := by
  obtain ⟨a, b⟩ := zCls_mem h c
  refine ⟨fun x hx => ?_, fun p hp => hh p (a p hp)⟩
  rcases b x hx with q | q
  · exact hc x q
  · omega
theorem p_close {N k i dg oc : Nat} {c h : List Nat} {cm : List Bool} {S : yS} (hN : 60 < N) (hi : i < 60) (hC : pC S c) (hH : pH S h) (hR : pR k S 2 cm dg oc) (hB : zBn i 2 c h cm dg oc) : pTk k i S (f_X4_takesClose N S) (if cm.length ≤ 1 then none else some (2, (zRls 1 h c).2, (zRls 1 h c).1.tail, cm.tail, 3, oc)) := by
  obtain ⟨b1, b2, b3, b4, b5, b6, b7⟩ := hB
  simp only [f_X4_takesClose, f_X4_takesClose_0]
  by_cases hl : cm.length ≤ 1
  · rw [if_neg (fun q => q ((nn_eq hR.2.2.1 (nn_l 0 (by decide))).mpr (by omega))), if_pos hl]
    exact Or.inr ⟨S, rfl, rfl, pF_refl S⟩
  · rw [if_pos (fun q => hl (by have := (nn_eq hR.2.2.1 (nn_l 0 (by decide))).mp q; omega)), if_neg hl]
    obtain ⟨S1, e1, k1, k2, k3⟩ := p_rel (N := N) (nn_l 1 (by decide)) hN hC hH (by omega) b6
    obtain ⟨S2, e2, l1, l2, l3⟩ := p_drop (N := N) k1 k2
    rw [e1, bS_s, e2, bS_s, sq_s]
    unfold f_X4_takeNoDigits f_X4_takeNoDigits_0
    rw [sq_s, bS_s]
    obtain ⟨q1, q2, q3, q4, q5, q6, q7⟩ := pR_G hR (pG_trans k3 l3)
    have n5 : nn (S2.1 7 5 - 1) (cm.tail.length - 1) := by
      have := nn_sub q3 (nn_l 1 (by decide)) (by omega)
      rw [List.length_tail]
      exact this
    obtain ⟨m1, m2⟩ := zRls_bd (t := 1) b5 b6
    have len := zRls_len 1 h c
    left
    refine ⟨_, _, rfl, rfl, ⟨l1, l2, q1, by show 1 ≤ cm.tail.length; rw [List.length_tail]; omega, n5, ?_, nn_l 3 (by decide), q6, q7⟩, ⟨by show 2 ≤ 4; decide, ?_, ?_, by show oc ≤ i + 1; omega, by show 3 ≤ 3; decide, m1, fun p hp => m2 p (List.mem_of_mem_tail hp), fun _ q => absurd q (by show ¬ 3 < 3; decide)⟩, pF_trans k3.1 (pF_trans l3.1 (pF_trans (pF_I _ _ _) (pF_I _ _ _)))⟩
    · show pBol (S2.2.1 7 4) cm.tail
      cases cm with
      | nil => trivial
      | cons b cm => exact q4.2
    · show (zRls 1 h c).2.length + (zRls 1 h c).1.tail.length ≤ i + 1
      rw [List.length_tail]
      omega
    · show cm.tail.length ≤ i + 1 + 1
      rw [List.length_tail]
      omega
theorem p_cond {N k i x dg oc : Nat} {c h : List Nat} {cm : List Bool} {S : yS} (hx : x < 256) (hN : 60 < N) (hi : i < 60) (h1 : cm.length ≤ 1) (hC : pC S c) (hH : pH S h) (hR : pR k S 2 cm dg oc) (hB : zBn i 2 c h cm dg oc) : pTk k i S (f_X4_takesConditionEnd N S (Int32.ofNat x)) (if x = 58 then some (3, (zRls 1 h c).2, (zRls 1 h c).1, [false], dg, oc) else none) := by
  obtain ⟨b1, b2, b3, b4, b5, b6, b7⟩ := hB
  simp only [f_X4_takesConditionEnd, f_X4_takesConditionEnd_0]
  by_cases hl : x = 58
  · rw [if_pos ((p_eq hx (nn_l 58 (by decide))).mpr hl), if_pos hl]
    obtain ⟨S1, e1, k1, k2, k3⟩ := p_rel (N := N) (nn_l 1 (by decide)) hN hC hH (by omega) b6
    obtain ⟨q1, q2, q3, q4, q5, q6, q7⟩ := pR_G hR k3
    rw [e1, bS_s, gA_nn (nn_l 0 (by decide)) (by decide), sq_s, sq_s, vz (Or.inl rfl)]
    obtain ⟨m1, m2⟩ := zRls_bd (t := 1) b5 b6
    have len := zRls_len 1 h c
    left
    refine ⟨_, _, rfl, rfl, ⟨k1, k2, nn_l 3 (by decide), by show 1 ≤ 1; decide, ?_, ⟨rfl, trivial⟩, q5, q6, q7⟩, ⟨by show 3 ≤ 4; decide, by show (zRls 1 h c).2.length + (zRls 1 h c).1.length ≤ i + 1; omega, by show 1 ≤ i + 1 + 1; omega, by show oc ≤ i + 1; omega, b4, m1, m2, fun q => absurd q (by show ¬ (3 : Nat) = 2; decide)⟩, pF_trans k3.1 (pF_trans (pF_A _ _ _) (pF_I _ _ _))⟩
    rw [show cm.length - 1 = 0 by omega] at q3
    exact q3
  · rw [if_neg (fun q => hl ((p_eq hx (nn_l 58 (by decide))).mp q)), if_neg hl]
    exact Or.inr ⟨S, rfl, rfl, pF_refl S⟩
theorem p_cho57 {N k i x dg oc : Nat} {c h : List Nat} {S0 S : yS} (hx : x < 256) (hi : i < 60) (hC : pC S c) (hH : pH S h) (hR : ∃ st cm, cm.length ≤ 1 ∧ pR k S st cm dg oc) (b1 : c.length + h.length ≤ i) (b3 : oc ≤ i + 1) (b4 : dg ≤ 3) (b5 : ∀ x ∈ c, (x < 1026 ∨ (2000 ≤ x ∧ x < 2256) ∨ (3000 ≤ x ∧ x < 4000))) (b6 : ∀ p ∈ h, p < 256) (hF : pF S0 S) : pTk k i S0 (f_X4_takesChoice_57 N S (Int32.ofNat x)) (some (1, c, x :: h, [false], dg, oc)) := by
  obtain ⟨st, cm, h1, hR⟩ := hR
  unfold f_X4_takesChoice_57
  obtain ⟨S1, e1, k1, k2, k3⟩ := p_hold (N := N) (x := x) hC hH (by omega) rfl
  obtain ⟨q1, q2, q3, q4, q5, q6, q7⟩ := pR_G hR k3
  rw [e1, bS_s, gA_nn (nn_l 0 (by decide)) (by decide), sq_s, sq_s, vz (Or.inl rfl)]
  left
  refine ⟨_, _, rfl, rfl, ⟨k1, k2, nn_l 1 (by decide), by show 1 ≤ 1; decide, ?_, ⟨rfl, trivial⟩, q5, q6, q7⟩, ⟨by show 1 ≤ 4; decide, by show c.length + (h.length + 1) ≤ i + 1; omega, by show 1 ≤ i + 1 + 1; omega, b3, b4, b5, ?_, fun q => absurd q (by show ¬ (1 : Nat) = 2; decide)⟩, pF_trans hF (pF_trans k3.1 (pF_trans (pF_A _ _ _) (pF_I _ _ _)))⟩
  · rw [show cm.length - 1 = 0 by omega] at q3
    exact q3
  · intro y hy
    rcases List.mem_cons.mp hy with q | q
    · omega
    · exact b6 y q
theorem p_cho {N k i x dg oc : Nat} {c h : List Nat} {cm : List Bool} {S : yS} (hx : x < 256) (hx2 : x = 58 ∨ x = 63) (hN : 60 < N) (hi : i < 60) (h1 : cm.length ≤ 1) (hC : pC S c) (hH : pH S h) (hR : pR k S 2 cm dg oc) (hB : zBn i 2 c h cm dg oc) : pTk k i S (f_X4_takesChoice N S (Int32.ofNat x)) (zCho c h dg oc x) := by
  obtain ⟨b1, b2, b3, b4, b5, b6, b7⟩ := hB
  simp only [f_X4_takesChoice, f_X4_takesChoice_0]
  obtain ⟨S1, e1, k1, k2, k3⟩ := p_rel (N := N) (nn_l 1 (by decide)) hN hC hH (by omega) b6
  have r1 := pR_G hR k3
  obtain ⟨m1, m2⟩ := zRls_bd (t := 1) b5 b6
  have len := zRls_len 1 h c
  unfold zCho
  by_cases h63 : x = 63
  · subst h63
    rw [if_pos rfl, if_pos (by decide)]
    unfold f_X4_takesChoice_15
    rw [e1, bS_s, if_neg (by decide), sq_s]
    refine p_cho57 hx hi k1 k2 ⟨2, cm, h1, pR_oc r1 (nn_add r1.2.2.2.2.2.1 (nn_l 1 (by decide)) (by omega))⟩ (by omega) (by omega) b4 m1 m2 (pF_trans k3.1 (pF_I _ _ _))
  · have h58 : x = 58 := hx2.resolve_right h63
    subst h58
    rw [if_neg (show ¬ (58 : Nat) = 63 by decide), if_neg (show ¬ ¬ Int32.ofNat 58 = 58 by decide)]
    by_cases ho : oc = 0
    · rw [if_neg (fun q => q ((nn_eq hR.2.2.2.2.2.1 (nn_l 0 (by decide))).mpr ho)), if_pos ho]
      exact Or.inr ⟨S, rfl, rfl, pF_refl S⟩
    · rw [if_pos (fun q => ho ((nn_eq hR.2.2.2.2.2.1 (nn_l 0 (by decide))).mp q)), if_neg ho]
      unfold f_X4_takesChoice_15
      obtain ⟨S2, e2, l1, l2, l3⟩ := p_cls (N := N) hN k1 k2 (by omega) m2
      obtain ⟨S3, e3, n1, n2, n3⟩ := p_drop (N := N) l1 l2
      rw [e1, bS_s, if_pos (by decide), e2, bS_s, e3, bS_s, sq_s]
      have r3 := pR_G r1 (pG_trans l3 n3)
      obtain ⟨m3, m4⟩ := zCls_bd m1 m2
      have len2 := zCls_len (zRls 1 h c).1 (zRls 1 h c).2
      refine p_cho57 hx hi n1 n2 ⟨2, cm, h1, pR_oc r3 (nn_sub r3.2.2.2.2.2.1 (nn_l 1 (by decide)) (by omega))⟩ (by rw [List.length_tail]; omega) (by omega) b4 m3 (fun p hp => m4 p (List.mem_of_mem_tail hp)) (pF_trans k3.1 (pF_trans l3.1 (pF_trans n3.1 (pF_I _ _ _))))
theorem p_oper {N k i x dg oc : Nat} {c h : List Nat} {cm : List Bool} {S : yS} (hx : x < 256) (hN : 60 < N) (hi : i < 60) (hC : pC S c) (hH : pH S h) (hR : pR k S 2 cm dg oc) (hB : zBn i 2 c h cm dg oc) : pTk k i S (f_X4_takesOperator N S (Int32.ofNat x)) (zOp c h cm dg oc x) := by
  obtain ⟨b1, b2, b3, b4, b5, b6, b7⟩ := hB
  have s6 := zS_6 x
  have ns : nn (Int32.ofNat (zS x)) (zS x) := nn_lit _ (by omega)
  simp only [f_X4_takesOperator, f_X4_takesOperator_0, p_str hx, bV_s]
  unfold zOp
  by_cases z0 : zS x = 0
  · rw [if_pos ((nn_eq ns (nn_l 0 (by decide))).mpr z0), if_pos (Or.inl z0)]
    exact Or.inr ⟨S, rfl, rfl, pF_refl S⟩
  rw [if_neg (fun q => z0 ((nn_eq ns (nn_l 0 (by decide))).mp q))]
  by_cases z5 : 5 < zS x
  · rw [if_neg (fun q => by have := (nn_le ns (nn_l 5 (by decide))).mp q; omega), if_pos (Or.inr (Or.inl z5))]
    exact Or.inr ⟨S, rfl, rfl, pF_refl S⟩
  rw [if_pos ((nn_le ns (nn_l 5 (by decide))).mpr (by omega))]
  obtain ⟨S1, e1, k1, k2, k3⟩ := p_rel (N := N) ns hN hC hH (by omega) b6
  obtain ⟨q1, q2, q3, q4, q5, q6, q7⟩ := pR_G hR k3
  obtain ⟨m1, m2⟩ := zRls_bd (t := zS x) b5 b6
  have len := zRls_len (zS x) h c
  obtain ⟨b, cm, rfl⟩ : ∃ b cm', cm = b :: cm' := by
    cases cm with
    | nil => exact absurd q2 (by show ¬ 1 ≤ 0; decide)
    | cons b cm => exact ⟨b, cm, rfl⟩
  have b2' : cm.length + 1 ≤ i + 1 := b2
  have q3' : nn (S1.1 7 5) cm.length := q3
  -- the rest, once compared
  have rest : ¬ (zS x = 3 ∧ b = true) → pTk k i S (f_X4_takesOperator_45 N S (Int32.ofNat x) (Int32.ofNat (zS x)) (if zS x = 3 then 1 else 0)) (some (1, (zRls (zS x) h c).2, x :: (zRls (zS x) h c).1, if zS x ≤ 3 then decide (zS x = 3) :: cm else b :: cm, dg, oc)) := by
    intro _
    unfold f_X4_takesOperator_45 f_X4_takesOperator_65
    rw [e1, bS_s]
    by_cases z3 : zS x ≤ 3
    · rw [if_neg (fun q => by have := (nn_lt (nn_l 3 (by decide)) ns).mp q; omega), gA_nn q3' (by omega), sq_s, if_pos z3]
      obtain ⟨S2, e2, l1, l2, l3⟩ := p_hold (N := N) (S := yA S1 7 4 (upd (S1.2.1 7 4) cm.length (vp_nar .boolean (if zS x = 3 then 1 else 0)))) (x := x) k1 k2 (by omega) rfl
      rw [e2, bS_s, sq_s]
      have r2 : pR k (yA S1 7 4 (upd (S1.2.1 7 4) cm.length (vp_nar .boolean (if zS x = 3 then 1 else 0)))) 2 (decide (zS x = 3) :: cm) dg oc := by
        refine ⟨q1, by show 1 ≤ cm.length + 1; omega, q3', ⟨?_, pBol_upd _ (Nat.le_refl _) q4.2⟩, q5, q6, q7⟩
        show upd _ cm.length _ cm.length = _
        rw [upd_s]
        by_cases z : zS x = 3
        · rw [if_pos z, decide_eq_true z]
          rfl
        · rw [if_neg z, decide_eq_false z]
          rfl
      left
      refine ⟨_, _, rfl, rfl, ⟨l1, l2, pR_st (pR_G r2 l3) (nn_l 1 (by decide))⟩, ⟨by show 1 ≤ 4; decide, by show (zRls (zS x) h c).2.length + ((zRls (zS x) h c).1.length + 1) ≤ i + 1; omega, by show cm.length + 1 ≤ i + 1 + 1; omega, by show oc ≤ i + 1; omega, b4, m1, ?_, fun q => absurd q (by show ¬ (1 : Nat) = 2; decide)⟩, pF_trans k3.1 (pF_trans (pF_A _ _ _) (pF_trans l3.1 (pF_I _ _ _)))⟩
      intro y hy
      rcases List.mem_cons.mp hy with q | q
      · omega
      · exact m2 y q
    · rw [if_pos ((nn_lt (nn_l 3 (by decide)) ns).mpr (by omega)), if_neg z3]
      obtain ⟨S2, e2, l1, l2, l3⟩ := p_hold (N := N) (x := x) k1 k2 (by omega) rfl
      rw [e2, bS_s, sq_s]
      left
      refine ⟨_, _, rfl, rfl, ⟨l1, l2, pR_st (pR_G hR (pG_trans k3 l3)) (nn_l 1 (by decide))⟩, ⟨by show 1 ≤ 4; decide, by show (zRls (zS x) h c).2.length + ((zRls (zS x) h c).1.length + 1) ≤ i + 1; omega, by show cm.length + 1 ≤ i + 1 + 1; omega, by show oc ≤ i + 1; omega, b4, m1, ?_, fun q => absurd q (by show ¬ (1 : Nat) = 2; decide)⟩, pF_trans k3.1 (pF_trans l3.1 (pF_I _ _ _))⟩
      intro y hy
      rcases List.mem_cons.mp hy with q | q
      · omega
      · exact m2 y q
  by_cases z3 : zS x = 3
  · rw [if_neg (fun q => q ((nn_eq ns (nn_l 3 (by decide))).mpr z3))]
    unfold f_X4_takesOperator_26
    have q4' : S.2.1 7 4 cm.length = (if b = true then 1 else 0) := hR.2.2.2.1.1
    have q5' : nn (S.1 7 5) cm.length := hR.2.2.1
    rw [if_neg i10, gA_nn q5' (by omega), q4']
    by_cases hb : b = true
    · rw [if_pos hb, if_neg i10, if_pos (Or.inr (Or.inr ⟨z3, hb⟩))]
      exact Or.inr ⟨S, rfl, rfl, pF_refl S⟩
    · rw [if_neg hb, if_pos rfl, if_neg (fun q => by rcases q with q | q | q; exact z0 q; exact z5 q; exact hb q.2)]
      have T := rest (fun q => hb q.2)
      rw [if_pos z3] at T
      exact T
  · rw [if_pos (fun q => z3 ((nn_eq ns (nn_l 3 (by decide))).mp q))]
    unfold f_X4_takesOperator_26
    rw [if_pos rfl, if_neg (fun q => by rcases q with q | q | q; exact z0 q; exact z5 q; exact z3 q.1)]
    have T := rest (fun q => z3 q.1)
    rw [if_neg z3] at T
    exact T
