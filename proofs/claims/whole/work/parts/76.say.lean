/-! WHAT RULES AND LAWS SAY, on both sides -/
theorem lbS_P {P : Nat → Bool} {V : Nat → Int32} : ∀ (m i : Nat) (b : Option Nat), (∀ j, b = some j → P j = true) → ∀ j, lbS P V m i b = some j → P j = true
  | 0, _, _, h, j, hj => h j hj
  | m + 1, i, b, h, j, hj => by
    refine lbS_P m (i + 1) _ (fun l hl => ?_) j hj
    cases b with
    | none =>
      simp only [lbN] at hl
      split at hl
      · cases hl; assumption
      · cases hl
    | some k =>
      have := h k rfl
      simp only [lbN] at hl
      split at hl
      · rename_i z
        cases hl
        exact z.1
      · cases hl
        exact this
theorem zN_bd {L : Nat → Int32} : ∀ (d : List Nat) (σ : List Int32) (k a ln : Nat), (∀ x ∈ d, x < 4000) → zN L d σ k = some (some (a, ln)) → a < 1000 ∧ ln ≤ k + d.length
  | [], [], k, a, ln, _, h => by cases h
  | [], _ :: _, k, a, ln, _, h => by cases h
  | x :: d, σ, k, a, ln, hd, h => by
    have hx := hd x (List.mem_cons_self ..)
    have hd' : ∀ y ∈ d, y < 4000 := fun y hy => hd y (List.mem_cons_of_mem _ hy)
    have hlen : (x :: d).length = d.length + 1 := rfl
    by_cases c3 : x < 3000
    · obtain ⟨τ, _, h'⟩ := zN_cons_w c3 h
      have := zN_bd d τ k a ln hd' h'
      omega
    · match σ, h with
      | [], h =>
        rw [zN_a0 c3] at h
        have := zN_bd d [] (k + 1) a ln hd' h
        omega
      | b :: σ', h =>
        rw [zN_a1 c3] at h
        by_cases z : b = 0
        · rw [if_pos z] at h
          have := zN_bd d [] (k + 1) a ln hd' h
          omega
        · rw [if_neg z] at h
          have h' := Prod.mk.inj (Option.some.inj (Option.some.inj h))
          have e1 : x - 3000 = a := h'.1
          have e2 : k = ln := h'.2
          omega
set_option maxRecDepth 40000 in
theorem zNm1 : ∀ x, x < 256 → ∀ t, t < 10 → sIdx 1 (Int32.ofNat x) = Int32.ofNat t → x = ([99, 119, 97, 110, 108, 107, 104, 102, 103, 117] : List Nat).getD t 0 := by decide +kernel
set_option maxRecDepth 40000 in
theorem zNm0 : ∀ x, x < 256 → ∀ t, t < 10 → sIdx 0 (Int32.ofNat x) = Int32.ofNat t → t < 5 ∧ x = ([119, 109, 115, 116, 100] : List Nat).getD t 0 := by decide +kernel
/-- the letters of rules stand as the reference's numbers -/
def lRu (Sc Sm : yS) : Prop := ∀ t, t < 10 → Sc.2.1 4 2 (([2, 22, 0, 13, 11, 10, 7, 5, 6, 20] : List Nat).getD t 0) = Sm.2.1 8 56 t
def lLa (Sc Sm : yS) : Prop := ∀ t, t < 5 → Sc.2.1 5 2 (([22, 12, 18, 19, 3] : List Nat).getD t 0) = Sm.2.1 8 56 t
def pAc (o k : Nat) : Prop := o = 8 ∧ ((50 ≤ k ∧ k ≤ 55) ∨ k = 57)
theorem rules_both {N k8 k9 kd : Nat} {Sc Sm : yS} {kI oth t : Int32} (hN : 60 < N) (hR : RR k8 k9 Sc Sm) (hK : RK k8 k9 Sc Sm) (hL : lRu Sc Sm) (hk : nn kI kd) (hk2 : kd < 2) (ht : Sm.2.1 8 48 0 = t) (ho : oth = if kd = 0 then 87 else 71) : ∃ v ln Sc', (bV (f_X8r_inForce N Sc kI t) fun w => f_X8r_run N Sc w oth) = some (v, Sc') ∧ Sc'.1 4 1 = ln ∧ rF 4 Sc Sc' ∧ (∀ fl, ∃ Sm', f_X12_act N Sm kI fl 0 = some (v, Sm') ∧ FR pAc Sm Sm') ∧ ∀ f fl, nn fl f → f < 24 → ∃ Sm', f_X12_act N Sm kI fl 1 = some (v, yA Sm' 8 48 (upd (Sm.2.1 8 48) (1345 + 5 * f + (3 + kd)) ln)) ∧ FR pAc Sm Sm' := by
  have kne : ¬ kI = 2 := fun q => by have := (nn_eq hk (nn_l 2 (by decide))).mp q; omega
  have h0 : kI = 0 ↔ kd = 0 := nn_eq hk (nn_l 0 (by decide))
  -- what both do once the act is known
  have fin : ∀ (v ln w4 lw : Int32) (T : yS), FR pAc Sm T → T.1 8 57 = lw → (w4 = -1 → v = oth) → (¬ w4 = -1 → v = w4) → (lw = -1 → ln = -2) → (¬ lw = -1 → ln = lw) → (∀ fl, ∃ Sm', f_X12_act_60 N T kI fl 0 w4 = some (v, Sm') ∧ FR pAc Sm Sm') ∧ ∀ f fl, nn fl f → f < 24 → ∃ Sm', f_X12_act_60 N T kI fl 1 w4 = some (v, yA Sm' 8 48 (upd (Sm.2.1 8 48) (1345 + 5 * f + (3 + kd)) ln)) ∧ FR pAc Sm Sm' := by
    intro v ln w4 lw T hT h57 a1 a2 a3 a4
    have hw : T.2.1 8 48 = Sm.2.1 8 48 := (hT 8 48 (fun z => by have := z.2; omega)).2
    have e89 : ∀ X : yS, f_X12_act_89 N X kI w4 = some (v, X) := by
      intro X
      unfold f_X12_act_89 f_X12_act_111
      by_cases z : w4 = -1
      · rw [if_pos z, a1 z, ho]
        by_cases y : kd = 0
        · rw [if_neg (fun q => q (h0.mpr y)), if_pos y]
        · rw [if_pos (fun q => y (h0.mp q)), if_neg y]
      · rw [if_neg z, a2 z]
    refine ⟨fun fl => ⟨T, ?_, hT⟩, fun f fl hf hf2 => ⟨T, ?_, hT⟩⟩
    · unfold f_X12_act_60
      rw [if_pos rfl, e89]
    · have ix := nn_add (nn_add (nn_l 1345 (by decide)) (nn_mul (nn_l 5 (by decide)) hf (by omega)) (by omega)) (nn_add (nn_l 3 (by decide)) hk (by omega)) (by omega)
      have e86 : ∀ x, f_X12_act_86 N T kI w4 fl (3 + kI) x = some (v, yA T 8 48 (upd (Sm.2.1 8 48) (1345 + 5 * f + (3 + kd)) x)) := by
        intro x
        unfold f_X12_act_86 f_X12_setFlight f_X12_setFlight_0
        rw [gA_nn ix (by omega), sq_s, bS_s, e89, hw]
      unfold f_X12_act_60
      rw [if_neg i10, h57]
      by_cases z : lw = -1
      · rw [if_neg (fun q => q z), e86, a3 z]
      · rw [if_pos z, e86, a4 z]
  have act0 : ∀ fl b, f_X12_act N Sm kI fl b = bV (f_X12_textOf N Sm kI t) fun w1 => sq (yI Sm 8 57 (-1)) fun S1 => if w1 = -1 then f_X12_act_60 N S1 kI fl b (-1) else gA 32 w1 fun j2 => bS (f_X12_open N S1 2 (60 * w1) (S1.2.1 8 38 j2) 1) fun w2 S2 => bV (f_X12_actsOf N S2 kI) fun w3 => bS (f_X12_lines N S2 w3) fun w4 S3 => f_X12_act_60 N S3 kI fl b w4 := by
    intro fl b
    unfold f_X12_act f_X12_act_0
    rw [gA_nn (nn_l 0 (by decide)) (by decide), ht]
  have ec := e_inForcer hR (by omega : 20 < N) kI t
  have em := em_textOfr hR (by omega : 20 < N) kne t
  rw [ec, bV_s]
  simp only [act0, em, bV_s, sq_s]
  have F57 : FR pAc Sm (yI Sm 8 57 (-1)) := FR_I _ _ _ _ ⟨rfl, Or.inr rfl⟩
  cases hs : sFr Sc k8 kI t with
  | none =>
    obtain ⟨Sc', c1, c2, c3⟩ := r_run_no (N := N) (S := Sc) (rr := encN none) (oth := oth) (fun q => absurd q.1 (by decide))
    obtain ⟨b1, b2⟩ := fin oth (-2) (-1) (-1) (yI Sm 8 57 (-1)) F57 rfl (fun _ => rfl) (fun q => absurd rfl q) (fun _ => rfl) (fun q => absurd rfl q)
    refine ⟨oth, -2, Sc', c1, c3, c2, fun fl => ?_, fun f fl h1 h2 => ?_⟩
    · rw [if_pos (show encZ 0 none = -1 from rfl)]
      exact b1 fl
    · rw [if_pos (show encZ 0 none = -1 from rfl)]
      exact b2 f fl h1 h2
  | some r =>
    have hr := sFr_lt hs
    have hR2 := hR.2.1
    have hP : fcP (Sc.2.1 4 3) (Sc.2.1 4 4) kI t r = true := lbS_P _ _ _ (fun j hj => by cases hj) r hs
    have hkr : Sc.2.1 4 3 r = kI := by
      simp [fcP] at hP
      exact hP.1
    obtain ⟨k', a1, a2, s, n, Q, s1, s2, s3, s4, s5, s6, s7, s8⟩ := hK.1 r hr
    have ek : k' = kd := by
      rw [hkr] at a2
      exact (nn_inj (a2 ▸ nn_lit k' (by omega) : nn kI k') hk)
    subst ek
    have h60 := s2.1
    have nr := nn_lit r (by omega)
    have nz : nn (encZ 0 (some r)) r := by
      show nn (Int32.ofNat (0 + r)) r
      rw [Nat.zero_add]
      exact nr
    have zz : ¬ encZ 0 (some r) = -1 := fun q => nz.nneg (by rw [q]; decide)
    -- the reader on the stored text
    have hE : zEnv N k' s (min n 60) (fun y => Sc.2.1 4 2 y) (oS (yI Sm 8 57 (-1)) 2 (60 * encZ 0 (some r)) ((yI Sm 8 57 (-1)).2.1 8 38 r) 1) := by
      refine ⟨zH_mk (n := n) (fo := 60 * r) (by show nn (Sm.2.1 8 38 r) n; rw [Nat.zero_add] at s4; exact s4) (by omega) (nn_mul (nn_l 60 (by decide)) nz (by omega)) (Or.inr ⟨rfl, by omega, fun i hi => ?_⟩) s1, hN, ?_, fun x t' hx ht' h => ?_⟩
      · have := s3 i (by omega)
        rw [Nat.zero_add] at this
        exact this
      · show Int32.ofNat 2 = _
        rw [if_neg (by omega)]
        rfl
      · rw [if_neg (by omega)] at h
        have hx' := zNm1 x hx t' ht' h
        have hl := hL t' ht'
        have e : ∀ t, t < 10 → ([99, 119, 97, 110, 108, 107, 104, 102, 103, 117] : List Nat).getD t 0 - 97 = ([2, 22, 0, 13, 11, 10, 7, 5, 6, 20] : List Nat).getD t 0 := by decide
        show Sc.2.1 4 2 (x - 97) = Sm.2.1 8 56 t'
        rw [hx', e t' ht', hl]
    have hm : min n 60 = n := by omega
    obtain ⟨rr, B', j, hB, h⟩ := top_lines (n := n) (by omega : k' ≠ 2) hE rfl rfl
    have hO : ∀ m, (m = 0 ∨ m = 1) → f_X12_open N (yI Sm 8 57 (-1)) 2 (60 * encZ 0 (some r)) ((yI Sm 8 57 (-1)).2.1 8 38 r) m = some (0, oS (yI Sm 8 57 (-1)) 2 (60 * encZ 0 (some r)) ((yI Sm 8 57 (-1)).2.1 8 38 r) m) := fun m hm => em_openS hm
    have ha : ∀ X, f_X12_actsOf N X kI = some (if k' = 0 then 2 else 3) := by
      intro X
      unfold f_X12_actsOf f_X12_actsOf_0 f_X12_actsOf_13
      by_cases z : k' = 0
      · rw [if_neg (fun q => q (h0.mpr z)), if_pos z]
      · rw [if_pos (fun q => z (h0.mp q)), if_neg z]
    have FO : FR pAc Sm (oS (yI Sm 8 57 (-1)) 2 (60 * encZ 0 (some r)) ((yI Sm 8 57 (-1)).2.1 8 38 r) 1) := FR_trans F57 oS_FR
    have FB : FR pAc Sm B' := by
      rcases hB with q | ⟨x, q⟩
      · rw [q]; exact FR_trans FO y57_FR
      · rw [q]; exact FR_trans FO y57_FR
    rcases h with ⟨e, hj⟩ | ⟨e, g1, g2, g3⟩
    · exact (zAcc_not s2 hj).elim
    · by_cases hjn : j < n
      · exact (zAcc_not s2 (g2 hjn)).elim
      · obtain ⟨ee, dg', q1, q2⟩ := g3 (by omega)
        have hQ := zAcc_uniq s2 q1
        subst hQ
        have hfin : zFin (4, ee, [], [false], dg', 0) = ee := rfl
        rw [hfin] at s5 s6 s7 s8
        have h4 : ∀ x ∈ ee.reverse, x < 4000 := fun x hx => by have := s7 x (List.mem_reverse.mp hx); omega
        have hcl : nn (encN (some r)) r := nr
        have run := fun res hz => r_run (N := N) (oth := oth) (L := fun y => Sc.2.1 4 2 y) (res := res) hN hcl hR.1 hr hR2 s5 (by omega) s8 s7 (fun y _ => rfl) hz
        rcases q2 with ⟨q, _⟩ | ⟨_, z1, z2, z3⟩ | ⟨_, a, ln, z1, z2, z3⟩
        · exact absurd rfl q
        · obtain ⟨v, Sc', c1, c2, c3⟩ := run none z1
          have ev : v = oth ∧ Sc'.1 4 1 = -2 := by
            rcases c3 with ⟨_, q1, q2⟩ | ⟨a, l, q, _⟩
            · exact ⟨q1, q2⟩
            · cases q
          obtain ⟨b1, b2⟩ := fin v (-2) rr (-1) (rS B' j (-1)) (FR_trans FB rS_FR) (by show B'.1 8 57 = -1; rw [z3]; rfl) (fun _ => ev.1) (fun q => absurd z2 q) (fun _ => rfl) (fun q => absurd rfl q)
          refine ⟨v, -2, Sc', c1, ev.2, c2, fun fl => ?_, fun f fl h1 h2 => ?_⟩
          · rw [if_neg zz, gA_nn nz (by omega), hO 1 (Or.inr rfl), bS_s, ha, bV_s, e, bS_s]
            exact b1 fl
          · rw [if_neg zz, gA_nn nz (by omega), hO 1 (Or.inr rfl), bS_s, ha, bV_s, e, bS_s]
            exact b2 f fl h1 h2
        · obtain ⟨v, Sc', c1, c2, c3⟩ := run (some (a, ln)) z1
          have ev : v = Int32.ofNat a ∧ Sc'.1 4 1 = Int32.ofNat ln := by
            rcases c3 with ⟨q, _⟩ | ⟨a', l', q, q1, q2⟩
            · cases q
            · cases q
              exact ⟨q1, q2⟩
          obtain ⟨bd1, bd2⟩ := zN_bd _ _ _ _ _ h4 z1
          have hlen : ee.reverse.length = ee.length := List.length_reverse
          have na := nn_lit a (by omega)
          have nl := nn_lit ln (by omega)
          have ane : ¬ Int32.ofNat a = -1 := fun q => na.nneg (by rw [q]; decide)
          have lne : ¬ Int32.ofNat ln = -1 := fun q => nl.nneg (by rw [q]; decide)
          obtain ⟨b1, b2⟩ := fin v (Int32.ofNat ln) rr (Int32.ofNat ln) (rS B' j (-1)) (FR_trans FB rS_FR) (by show B'.1 8 57 = _; rw [z3, yI_1s]) (fun q => absurd (z2.symm.trans q) ane) (fun _ => ev.1.trans z2.symm) (fun q => absurd q lne) (fun _ => rfl)
          refine ⟨v, Int32.ofNat ln, Sc', c1, ev.2, c2, fun fl => ?_, fun f fl h1 h2 => ?_⟩
          · rw [if_neg zz, gA_nn nz (by omega), hO 1 (Or.inr rfl), bS_s, ha, bV_s, e, bS_s]
            exact b1 fl
          · rw [if_neg zz, gA_nn nz (by omega), hO 1 (Or.inr rfl), bS_s, ha, bV_s, e, bS_s]
            exact b2 f fl h1 h2
/-- a law's number -/
theorem law_both {N k8 k9 r : Nat} {Sc Sm : yS} {oth rc rm : Int32} (hN : 60 < N) (hR : RR k8 k9 Sc Sm) (hK : RK k8 k9 Sc Sm) (hL : lLa Sc Sm) (hr : r < k9) (hc : nn rc r) (hm : nn rm (20 + r)) : ∃ v Sc' Sm', f_X8l_run N Sc rc oth = some (v, Sc') ∧ rF 5 Sc Sc' ∧ (bS (f_X12_open N Sm 2 (60 * rm) (Sm.2.1 8 38 (20 + r)) 0) fun _ S5 => f_X12_choiceT N S5) = some (v, Sm') ∧ FR pAc Sm Sm' := by
  obtain ⟨s, n, Q, s1, s2, s3, s4, s5, s6, s7, s8⟩ := hK.2 r hr
  have h60 := s2.1
  have h12 := hR.2.2.2.2.1
  have hE : zEnv N 2 s (min n 60) (fun y => Sc.2.1 5 2 y) (oS Sm 2 (60 * rm) (Sm.2.1 8 38 (20 + r)) 0) := by
    refine ⟨zH_mk (n := n) (fo := 60 * (20 + r)) s4 (by omega) (nn_mul (nn_l 60 (by decide)) hm (by omega)) (Or.inr ⟨rfl, by omega, fun i hi => s3 i (by omega)⟩) s1, hN, ?_, fun x t' hx ht' h => ?_⟩
    · show Int32.ofNat 1 = _
      rw [if_pos rfl]
      rfl
    · rw [if_pos rfl] at h
      obtain ⟨h5, hx'⟩ := zNm0 x hx t' ht' h
      have hl := hL t' h5
      have e : ∀ t, t < 5 → ([119, 109, 115, 116, 100] : List Nat).getD t 0 - 97 = ([22, 12, 18, 19, 3] : List Nat).getD t 0 := by decide
      show Sc.2.1 5 2 (x - 97) = Sm.2.1 8 56 t'
      rw [hx', e t' h5, hl]
  rw [em_openS (Or.inl rfl), bS_s]
  obtain ⟨v, j, h⟩ := top_choice (n := n) hE rfl rfl
  rcases h with ⟨e, hj⟩ | ⟨e, g1, g2, g3⟩
  · exact (zAcc_not s2 hj).elim
  · by_cases hjn : j < n
    · exact (zAcc_not s2 (g2 hjn)).elim
    · obtain ⟨Q', q1, q2, q3⟩ := g3 (by omega)
      have hQ := zAcc_uniq s2 q1
      subst hQ
      obtain ⟨Sc', c1, c2⟩ := l_run (N := N) (oth := oth) (L := fun y => Sc.2.1 5 2 y) hN hc hR.2.2.2.1 hr h12 s5 (by omega) s8 s7 q3 (fun y _ => rfl) q2
      exact ⟨v, Sc', _, c1, c2, e, FR_trans oS_FR rS_FR⟩
