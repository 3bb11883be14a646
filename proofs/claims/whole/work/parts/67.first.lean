theorem pTk_gP {k i : Nat} {S : yS} {r : Option (Int32 × yS)} {z : Option zP} (h : pTk k i S r z) : pTk k i S (bS r fun w S' => gP (w = 0 ∨ w = 1) (some (w, S'))) z := by
  rcases h with ⟨Q, S', h1, h2, h3⟩ | ⟨S', h1, h2, h3⟩
  · refine Or.inl ⟨Q, S', h1, ?_, h3⟩
    rw [h2, bS_s, gP_t (Or.inr rfl)]
  · refine Or.inr ⟨S', h1, ?_, h3⟩
    rw [h2, bS_s, gP_t (Or.inl rfl)]
theorem pTk_73 {N k i : Nat} {S : yS} {r : Option (Int32 × yS)} {z : Option zP} (h : pTk k i S r z) : pTk k i S (bS r fun w1 S1 => if w1 = 0 then f_X4_takesBehindThing_77 N S1 else f_X4_takesBehindThing_73 N S1) z := by
  rcases h with ⟨Q, S', h1, h2, h3⟩ | ⟨S', h1, h2, h3⟩
  · refine Or.inl ⟨Q, S', h1, ?_, h3⟩
    rw [h2, bS_s, if_neg i10]
    unfold f_X4_takesBehindThing_73 f_X4_takesBehindThing_78
    rw [gP_t (Or.inr rfl)]
  · refine Or.inr ⟨S', h1, ?_, h3⟩
    rw [h2, bS_s, if_pos rfl]
    unfold f_X4_takesBehindThing_77 f_X4_takesBehindThing_78
    rw [gP_t (Or.inl rfl)]
theorem p_beh {N k i x dg oc : Nat} {c h : List Nat} {cm : List Bool} {S : yS} (hx : x < 256) (hN : 60 < N) (hi : i < 60) (hC : pC S c) (hH : pH S h) (hR : pR k S 2 cm dg oc) (hB : zBn i 2 c h cm dg oc) : pTk k i S (f_X4_takesBehindThing N S (Int32.ofNat x)) (zBeh k c h cm dg oc x) := by
  unfold f_X4_takesBehindThing f_X4_takesBehindThing_0 zBeh
  rw [e_dig hx, bV_s]
  by_cases c1 : 48 ≤ x ∧ x ≤ 57
  · rw [b01_t c1, if_neg i10, if_pos c1]
    exact pTk_gP (p_num hx hi c1 hC hH hR hB)
  rw [b01_f c1, if_pos rfl, if_neg c1]
  by_cases c41 : x = 41
  · rw [if_neg (fun q => q ((p_eq hx (nn_l 41 (by decide))).mpr c41)), if_pos c41]
    exact pTk_gP (p_close hN hi hC hH hR hB)
  rw [if_pos (fun q => c41 ((p_eq hx (nn_l 41 (by decide))).mp q)), if_neg c41]
  have h39 : (x = 58 ∨ x = 63) → pTk k i S (f_X4_takesBehindThing_39 N S (Int32.ofNat x)) (if ¬ cm.length ≤ 1 then none else if k = 2 then zCho c h dg oc x else if x = 58 then some (3, (zRls 1 h c).2, (zRls 1 h c).1, [false], dg, oc) else none) := by
    intro h58
    unfold f_X4_takesBehindThing_39
    have hl := hR.2.1
    by_cases hd : cm.length ≤ 1
    · rw [if_neg (fun q => q ((nn_eq hR.2.2.1 (nn_l 0 (by decide))).mpr (by omega))), if_neg (show ¬ ¬ cm.length ≤ 1 from fun q => q hd)]
      by_cases hk : k = 2
      · rw [if_neg (fun q => q ((nn_eq hR.2.2.2.2.2.2 (nn_l 2 (by decide))).mpr hk)), if_pos hk]
        exact pTk_73 (p_cho hx h58 hN hi hd hC hH hR hB)
      · rw [if_pos (fun q => hk ((nn_eq hR.2.2.2.2.2.2 (nn_l 2 (by decide))).mp q)), if_neg hk]
        exact pTk_73 (p_cond hx hN hi hd hC hH hR hB)
    · rw [if_pos (fun q => hd (by have := (nn_eq hR.2.2.1 (nn_l 0 (by decide))).mp q; omega)), if_pos hd]
      unfold f_X4_takesBehindThing_77 f_X4_takesBehindThing_78
      rw [gP_t (Or.inl rfl)]
      exact Or.inr ⟨S, rfl, rfl, pF_refl S⟩
  by_cases c58 : x = 58
  · rw [if_pos ((p_eq hx (nn_l 58 (by decide))).mpr c58), if_pos (Or.inl c58)]
    exact h39 (Or.inl c58)
  rw [if_neg (fun q => c58 ((p_eq hx (nn_l 58 (by decide))).mp q))]
  by_cases c63 : x = 63
  · rw [if_neg (fun q => q ((p_eq hx (nn_l 63 (by decide))).mpr c63)), if_pos (Or.inr c63)]
    exact h39 (Or.inr c63)
  rw [if_pos (fun q => c63 ((p_eq hx (nn_l 63 (by decide))).mp q)), if_neg (fun q => q.elim c58 c63)]
  exact pTk_gP (p_oper hx hN hi hC hH hR hB)
theorem zBn_st {i st st' : Nat} {c h : List Nat} {cm : List Bool} {dg oc : Nat} (hB : zBn i st c h cm dg oc) (h2 : st' ≠ 2) : zBn i st' c h cm dg oc := by
  obtain ⟨b1, b2, b3, b4, b5, b6, b7⟩ := hB
  exact ⟨b1, b2, b3, b4, b5, b6, fun q => absurd q h2⟩
theorem p_takes {N k i x : Nat} {P : zP} {S : yS} (hx : x < 256) (hN : 60 < N) (hi : i < 60) (hP : zPR k S P) (hB : zBP i P) : pTk k i S (f_X4_takes N S (Int32.ofNat x)) (zT k P x) := by
  obtain ⟨st, c, h, cm, dg, oc⟩ := P
  obtain ⟨hC, hH, hR⟩ := hP
  obtain ⟨hB0, hB⟩ := hB
  have hst : nn (S.1 7 9) st := hR.1
  have hB0' : st ≤ 4 := hB0
  have hC' : pC S c := hC
  have hH' : pH S h := hH
  have hR' : pR k S st cm dg oc := hR
  have hB' : zBn i st c h cm dg oc := hB
  have q0 : S.1 7 9 = 0 ↔ st = 0 := nn_eq hst (nn_l 0 (by decide))
  have q1 : S.1 7 9 = 1 ↔ st = 1 := nn_eq hst (nn_l 1 (by decide))
  have q2 : S.1 7 9 = 2 ↔ st = 2 := nn_eq hst (nn_l 2 (by decide))
  have q3 : S.1 7 9 = 3 ↔ st = 3 := nn_eq hst (nn_l 3 (by decide))
  unfold f_X4_takes f_X4_takes_0
  rcases (show st = 0 ∨ st = 1 ∨ st = 2 ∨ st = 3 ∨ st = 4 by omega) with e | e | e | e | e
  · subst e
    rw [if_pos ((q0).mpr rfl)]
    show pTk k i S _ (if x = 58 then some (3, 1 :: c, h, cm, dg, oc) else zThing k c h cm dg oc x)
    by_cases c58 : x = 58
    · rw [if_neg (fun q => q ((p_eq hx (nn_l 58 (by decide))).mpr c58)), if_pos c58]
      obtain ⟨b1, b2, b3, b4, b5, b6, b7⟩ := hB'
      unfold f_X4_takesEmptyCondition f_X4_takesEmptyCondition_0 f_X4_takes_54
      obtain ⟨S1, e1, k1, k2, k3⟩ := p_write (N := N) (v := 1) (x := 1) hC' hH' (by omega) rfl
      rw [e1, bS_s, sq_s, bS_s, gP_t (Or.inr rfl)]
      left
      refine ⟨_, _, rfl, rfl, ⟨k1, k2, pR_st (pR_G hR' k3) (nn_l 3 (by decide))⟩, ⟨by show 3 ≤ 4; decide, by show c.length + 1 + h.length ≤ i + 1; omega, by show cm.length ≤ i + 1 + 1; omega, by show oc ≤ i + 1; omega, b4, ?_, b6, fun q => absurd q (by show ¬ (3 : Nat) = 2; decide)⟩, pF_trans k3.1 (pF_I _ _ _)⟩
      intro y hy
      rcases List.mem_cons.mp hy with q | q
      · omega
      · exact b5 y q
    · rw [if_pos (fun q => c58 ((p_eq hx (nn_l 58 (by decide))).mp q)), if_neg c58]
      exact pTk_gP (p_thing hx hi hC' hH' hR' hB')
  · subst e
    rw [if_neg (fun q => by have := (q0).mp q; omega), if_pos ((q1).mpr rfl)]
    exact pTk_gP (p_thing hx hi hC' hH' hR' hB')
  · subst e
    rw [if_neg (fun q => by have := (q0).mp q; omega), if_neg (fun q => by have := (q1).mp q; omega), if_pos ((q2).mpr rfl)]
    exact pTk_gP (p_beh hx hN hi hC' hH' hR' hB')
  · subst e
    rw [if_neg (fun q => by have := (q0).mp q; omega), if_neg (fun q => by have := (q1).mp q; omega), if_neg (fun q => by have := (q2).mp q; omega), if_pos ((q3).mpr rfl)]
    refine pTk_gP ?_
    show pTk k i S _ (if zAc k x = true then some (4, (3000 + x) :: c, h, cm, dg, oc) else none)
    have e0 : f_X4_takesAct N S (Int32.ofNat x) = f_X4_takesAct_14 N S (Int32.ofNat x) (if k = 0 then 2 else 3) := by
      unfold f_X4_takesAct f_X4_takesAct_0
      by_cases hk : k = 0
      · rw [if_neg (fun q => q ((nn_eq hR'.2.2.2.2.2.2 (nn_l 0 (by decide))).mpr hk)), if_pos hk]
      · rw [if_pos (fun q => hk ((nn_eq hR'.2.2.2.2.2.2 (nn_l 0 (by decide))).mp q)), if_neg hk]
    rw [e0]
    unfold f_X4_takesAct_14
    rw [gP_t (by by_cases hk : k = 0 <;> simp [hk]), zChr _ hx]
    obtain ⟨b1, b2, b3, b4, b5, b6, b7⟩ := hB'
    by_cases ha : 0 ≤ sIdx (if k = 0 then 2 else 3) (Int32.ofNat x)
    · rw [if_pos ha, if_pos (show zAc k x = true from decide_eq_true ha)]
      obtain ⟨S1, e1, k1, k2, k3⟩ := p_write (N := N) (x := 3000 + x) hC' hH' (by omega) (nn_add (nn_l 3000 (by decide)) (zB hx) (by omega)).1
      rw [e1, bS_s, sq_s]
      left
      refine ⟨_, _, rfl, rfl, ⟨k1, k2, pR_st (pR_G hR' k3) (nn_l 4 (by decide))⟩, ⟨by show 4 ≤ 4; decide, by show c.length + 1 + h.length ≤ i + 1; omega, by show cm.length ≤ i + 1 + 1; omega, by show oc ≤ i + 1; omega, b4, ?_, b6, fun q => absurd q (by show ¬ (4 : Nat) = 2; decide)⟩, pF_trans k3.1 (pF_I _ _ _)⟩
      intro y hy
      rcases List.mem_cons.mp hy with q | q
      · omega
      · exact b5 y q
    · rw [if_neg ha, if_neg (by rw [show zAc k x = false from decide_eq_false ha]; decide)]
      exact Or.inr ⟨S, rfl, rfl, pF_refl S⟩
  · subst e
    rw [if_neg (fun q => by have := (q0).mp q; omega), if_neg (fun q => by have := (q1).mp q; omega), if_neg (fun q => by have := (q2).mp q; omega), if_neg (fun q => by have := (q3).mp q; omega), sq_s]
    unfold f_X4_takes_89
    show pTk k i S _ (if x = 59 then some (0, c, h, cm, dg, oc) else none)
    obtain ⟨b1, b2, b3, b4, b5, b6, b7⟩ := hB'
    by_cases h59 : x = 59
    · rw [if_neg (fun q => q ((p_eq hx (nn_l 59 (by decide))).mpr h59)), if_pos h59, gP_t (Or.inr rfl)]
      exact Or.inl ⟨_, _, rfl, rfl, ⟨hC', hH', pR_st hR' (nn_l 0 (by decide))⟩, ⟨by show 0 ≤ 4; decide, by show c.length + h.length ≤ i + 1; omega, by show cm.length ≤ i + 1 + 1; omega, by show oc ≤ i + 1; omega, b4, b5, b6, fun q => absurd q (by show ¬ (0 : Nat) = 2; decide)⟩, pF_I _ _ _⟩
    · rw [if_pos (fun q => h59 ((p_eq hx (nn_l 59 (by decide))).mp q)), if_neg h59, gP_t (Or.inl rfl)]
      exact Or.inr ⟨_, rfl, rfl, pF_I _ _ _⟩
theorem p_may {N k : Nat} {Q : zP} {S : yS} (hP : zPR k S Q) : (zEnd k Q → f_X4_mayEnd N S = some 1) ∧ (¬ zEnd k Q → f_X4_mayEnd N S = some 0) := by
  obtain ⟨st, c, h, cm, dg, oc⟩ := Q
  obtain ⟨hC, hH, h1, h2, h3, h4, h5, h6, h7⟩ := hP
  have h1' : nn (S.1 7 9) st := h1
  have h3' : nn (S.1 7 5) (cm.length - 1) := h3
  have h2' : 1 ≤ cm.length := h2
  have h6' : nn (S.1 7 7) oc := h6
  unfold f_X4_mayEnd f_X4_mayEnd_0 f_X4_mayEnd_49 f_X4_mayEnd_34 f_X4_mayEnd_35
  by_cases hk : k = 2
  · have hz : zEnd k (st, c, h, cm, dg, oc) ↔ (st = 2 ∧ cm.length ≤ 1 ∧ oc = 0) := by
      show (if k = 2 then (st = 2 ∧ cm.length ≤ 1 ∧ oc = 0) else st = 4) ↔ _
      simp only [if_pos hk]
    rw [hz, if_neg (show ¬ ¬ S.1 7 8 = 2 from fun q => q ((nn_eq h7 (nn_l 2 (by decide))).mpr hk))]
    by_cases a : st = 2
    · rw [if_neg (fun q => q ((nn_eq h1' (nn_l 2 (by decide))).mpr a))]
      by_cases b : cm.length ≤ 1
      · rw [if_neg (fun q => q ((nn_eq h3' (nn_l 0 (by decide))).mpr (by omega)))]
        by_cases d : oc = 0
        · rw [if_neg (fun q => q ((nn_eq h6' (nn_l 0 (by decide))).mpr d)), gP_t (Or.inr rfl)]
          exact ⟨fun _ => rfl, fun q => absurd ⟨a, b, d⟩ q⟩
        · rw [if_pos (fun q => d ((nn_eq h6' (nn_l 0 (by decide))).mp q)), gP_t (Or.inl rfl)]
          exact ⟨fun q => absurd q.2.2 d, fun _ => rfl⟩
      · rw [if_pos (fun q => b (by have := (nn_eq h3' (nn_l 0 (by decide))).mp q; omega)), gP_t (Or.inl rfl)]
        exact ⟨fun q => absurd q.2.1 b, fun _ => rfl⟩
    · rw [if_pos (fun q => a ((nn_eq h1' (nn_l 2 (by decide))).mp q)), gP_t (Or.inl rfl)]
      exact ⟨fun q => absurd q.1 a, fun _ => rfl⟩
  · have hz : zEnd k (st, c, h, cm, dg, oc) ↔ st = 4 := by
      show (if k = 2 then (st = 2 ∧ cm.length ≤ 1 ∧ oc = 0) else st = 4) ↔ _
      simp only [if_neg hk]
    rw [hz, if_pos (show ¬ S.1 7 8 = 2 from fun q => hk ((nn_eq h7 (nn_l 2 (by decide))).mp q))]
    by_cases a : st = 4
    · rw [if_neg (fun q => q ((nn_eq h1' (nn_l 4 (by decide))).mpr a)), gP_t (Or.inr rfl)]
      exact ⟨fun _ => rfl, fun q => absurd a q⟩
    · rw [if_pos (fun q => a ((nn_eq h1' (nn_l 4 (by decide))).mp q)), gP_t (Or.inl rfl)]
      exact ⟨fun q => absurd q a, fun _ => rfl⟩
/-- the codes of a text that may end -/
def zFin (Q : zP) : List Nat := (zCls (zRls 1 Q.2.2.1 Q.2.1).1 (zRls 1 Q.2.2.1 Q.2.1).2).2
/-- the first wrong place of a text of n signs, or none -/
def zFail (k : Nat) (s : Nat → Nat) (n i : Nat) (P : zP) (j : Nat) : Prop := i ≤ j ∧ j ≤ min n 60 ∧ ∃ Q, zG k s i P j Q ∧ (j < min n 60 → zT k Q (s j) = none) ∧ (j = min n 60 → ¬ (n ≤ 60 ∧ zEnd k Q))
def zAcc (k : Nat) (s : Nat → Nat) (n i : Nat) (P : zP) (Q : zP) : Prop := n ≤ 60 ∧ zG k s i P n Q ∧ zEnd k Q
theorem p_loop {N k n : Nat} {s : Nat → Nat} (hN : 60 < N) (hn : n ≤ 100) (hs : ∀ i, s i < 256) : ∀ (m i : Nat) (S : yS) (P : zP), i ≤ min n 60 → min n 60 - i < m → zPR k S P → zBP i P → (∀ j, j < min n 60 → S.2.1 0 5 j = Int32.ofNat (s j)) → (∃ S' Q, f_X4_firstWrong_21 m N S (Int32.ofNat n) (Int32.ofNat (min n 60)) (Int32.ofNat i) = some (-1, S') ∧ zAcc k s n i P Q ∧ pC S' (zFin Q) ∧ (zFin Q).length ≤ n ∧ (∀ x ∈ zFin Q, (x < 1026 ∨ (2000 ≤ x ∧ x < 2256) ∨ (3000 ≤ x ∧ x < 4000))) ∧ pF S S') ∨ (∃ S' j, f_X4_firstWrong_21 m N S (Int32.ofNat n) (Int32.ofNat (min n 60)) (Int32.ofNat i) = some (Int32.ofNat j, S') ∧ zFail k s n i P j ∧ pF S S') := by
  intro m
  induction m with
  | zero => intro i S P hi hm; omega
  | succ m ih =>
    intro i S P hi hm hP hB hT
    have ni : nn (Int32.ofNat i) i := nn_lit i (by omega)
    have nl : nn (Int32.ofNat (min n 60)) (min n 60) := nn_lit _ (by omega)
    have nn' : nn (Int32.ofNat n) n := nn_lit n (by omega)
    rw [f_X4_firstWrong_21]
    by_cases hil : i < min n 60
    · rw [if_neg (fun q => by have := (nn_le nl ni).mp q; omega), gA_nn ni (by omega), hT i hil]
      rcases p_takes (N := N) (hs i) hN (by omega) hP hB with ⟨Q, S', h1, h2, h3, h4, h5⟩ | ⟨S', h1, h2, h3⟩
      · rw [h2, bS_s, if_pos i10, y_int1]
        rcases ih (i + 1) S' Q (by omega) (by omega) h3 h4 (fun j hj => by rw [(h5.1 0 (by decide)).2]; exact hT j hj) with ⟨S'', R, a1, a2, a3, a4, a5⟩ | ⟨S'', j, a1, a2, a3⟩
        · left
          exact ⟨S'', R, a1, ⟨a2.1, zG_trans (zG_step h1) a2.2.1, a2.2.2⟩, a3, a4, a5.1, pF_trans h5 a5.2⟩
        · right
          obtain ⟨b1, b2, R, b3, b4, b5⟩ := a2
          exact ⟨S'', j, a1, ⟨by omega, b2, R, zG_trans (zG_step h1) b3, b4, b5⟩, pF_trans h5 a3⟩
      · right
        rw [h2, bS_s, if_neg (fun q => q rfl)]
        exact ⟨S', i, rfl, ⟨Nat.le_refl _, hi, P, zG_refl, fun _ => h1, fun z => absurd hil (by omega)⟩, h3⟩
    · have e : i = min n 60 := by omega
      rw [if_pos ((nn_le nl ni).mpr (by omega))]
      by_cases h60 : n ≤ 60
      · have e2 : min n 60 = n := by omega
        rw [if_neg (fun q => by have := (nn_lt nl nn').mp q; omega)]
        obtain ⟨m1, m2⟩ := p_may (N := N) hP
        by_cases hE : zEnd k P
        · left
          obtain ⟨hC, hH, hR⟩ := hP
          obtain ⟨hB0, b1, b2, b3, b4, b5, b6, b7⟩ := hB
          obtain ⟨S1, e1, k1, k2, k3⟩ := p_rel (N := N) (nn_l 1 (by decide)) hN hC hH (by omega) b6
          obtain ⟨c1, c2⟩ := zRls_bd (t := 1) b5 b6
          have len := zRls_len 1 P.2.2.1 P.2.1
          obtain ⟨S2, e3, l1, l2, l3⟩ := p_cls (N := N) hN k1 k2 (by omega) c2
          have len2 := zCls_len (zRls 1 P.2.2.1 P.2.1).1 (zRls 1 P.2.2.1 P.2.1).2
          rw [m1 hE, bV_s, if_pos i10, e1, bS_s, e3, bS_s]
          refine ⟨S2, P, rfl, ⟨h60, ?_, hE⟩, l1, ?_, (zCls_bd c1 c2).1, pF_trans k3.1 l3.1⟩
          · rw [show n = i by omega]
            exact zG_refl
          · unfold zFin
            omega
        · right
          rw [m2 hE, bV_s, if_neg (fun q => q rfl), e]
          exact ⟨S, _, rfl, ⟨by omega, by omega, P, by rw [← e]; exact zG_refl, fun q => by omega, fun _ q => hE q.2⟩, pF_refl S⟩
      · right
        rw [if_pos ((nn_lt nl nn').mpr (by omega)), e]
        exact ⟨S, _, rfl, ⟨by omega, by omega, P, by rw [← e]; exact zG_refl, fun q => by omega, fun _ q => h60 q.1⟩, pF_refl S⟩
def zIni (k : Nat) : zP := (if k = 2 then 1 else 0, [], [], [false], 0, 0)
theorem p_first {N k n : Nat} {s : Nat → Nat} {S : yS} {kd cn : Int32} (hN : 60 < N) (hk : nn kd k) (hc : nn cn n) (hn : n ≤ 100) (hs : ∀ i, s i < 256) (hT : ∀ j, j < min n 60 → S.2.1 0 5 j = Int32.ofNat (s j)) : (∃ S' Q, f_X4_firstWrong N S cn kd = some (-1, S') ∧ zAcc k s n 0 (zIni k) Q ∧ pC S' (zFin Q) ∧ (zFin Q).length ≤ n ∧ (∀ x ∈ zFin Q, (x < 1026 ∨ (2000 ≤ x ∧ x < 2256) ∨ (3000 ≤ x ∧ x < 4000))) ∧ pF S S') ∨ (∃ S' j, f_X4_firstWrong N S cn kd = some (Int32.ofNat j, S') ∧ zFail k s n 0 (zIni k) j ∧ pF S S') := by
  have hb : ∃ S1, f_X4_begin N S kd = some (0, S1) ∧ zPR k S1 (zIni k) ∧ pF S S1 := by
    have g : ∀ (t : Int32) (st : Nat), nn t st → ∃ S1, f_X4_begin_16 N (yI S 7 8 kd) t = some (0, S1) ∧ zPR k S1 (st, [], [], [false], 0, 0) ∧ pF S S1 := by
      intro t st ht
      unfold f_X4_begin_16
      rw [sq_s, sq_s, sq_s, sq_s, sq_s, sq_s, gA_nn (nn_l 0 (by decide)) (by decide), sq_s, vz (Or.inl rfl)]
      refine ⟨_, rfl, ⟨⟨nn_l 0 (by decide), trivial⟩, ⟨nn_l 0 (by decide), trivial⟩, ht, by show 1 ≤ 1; decide, nn_l 0 (by decide), ⟨rfl, trivial⟩, nn_l 0 (by decide), nn_l 0 (by decide), hk⟩, ?_⟩
      exact pF_trans (pF_I _ _ _) (pF_trans (pF_I _ _ _) (pF_trans (pF_I _ _ _) (pF_trans (pF_I _ _ _) (pF_trans (pF_I _ _ _) (pF_trans (pF_I _ _ _) (pF_trans (pF_I _ _ _) (pF_A _ _ _)))))))
    unfold f_X4_begin f_X4_begin_0 zIni
    rw [sq_s]
    by_cases h2 : k = 2
    · rw [if_neg (fun q => q ((nn_eq hk (nn_l 2 (by decide))).mpr h2)), if_pos h2]
      exact g 1 1 (nn_l 1 (by decide))
    · rw [if_pos (fun q => h2 ((nn_eq hk (nn_l 2 (by decide))).mp q)), if_neg h2]
      exact g 0 0 (nn_l 0 (by decide))
  obtain ⟨S1, e1, hP, hF⟩ := hb
  unfold f_X4_firstWrong f_X4_firstWrong_0
  rw [e1, bS_s]
  have hu : (if (if (Int32.ofNat 100) < 60 then (Int32.ofNat 100) else 60) < cn then (if (Int32.ofNat 100) < 60 then (Int32.ofNat 100) else 60) else cn) = Int32.ofNat (min n 60) := by
    rw [if_neg (show ¬ Int32.ofNat 100 < 60 by decide)]
    by_cases h : 60 < n
    · rw [if_pos ((nn_lt (nn_l 60 (by decide)) hc).mpr h), show min n 60 = 60 by omega]
      rfl
    · rw [if_neg (fun q => h ((nn_lt (nn_l 60 (by decide)) hc).mp q)), hc.1, show min n 60 = n by omega]
  rw [hu, hc.1]
  have hB : zBP 0 (zIni k) := by
    refine ⟨?_, by show 0 + 0 ≤ 0; decide, by show 1 ≤ 0 + 1; decide, by show 0 ≤ 0; decide, by show 0 ≤ 3; decide, fun x hx => (by cases hx), fun x hx => (by cases hx), fun q => ?_⟩
    · show (if k = 2 then 1 else 0) ≤ 4
      by_cases h : k = 2
      · rw [if_pos h]; decide
      · rw [if_neg h]; decide
    · have q' : (if k = 2 then 1 else 0) = 2 := q
      by_cases h : k = 2
      · rw [if_pos h] at q'; omega
      · rw [if_neg h] at q'; omega
  rcases p_loop (k := k) hN hn hs N 0 S1 (zIni k) (Nat.zero_le _) (by omega) hP hB (fun j hj => by rw [(hF.1 0 (by decide)).2]; exact hT j hj) with ⟨S', Q, a1, a2, a3, a4, a5⟩ | ⟨S', j, a1, a2, a3⟩
  · exact Or.inl ⟨S', Q, a1, a2, a3, a4, a5.1, pF_trans hF a5.2⟩
  · exact Or.inr ⟨S', j, a1, a2, pF_trans hF a3⟩
