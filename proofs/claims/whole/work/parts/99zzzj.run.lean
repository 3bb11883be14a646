/-! THE LAW'S WHOLE RUN (gen_zzj.py) -/
theorem xrch_mono {str : Nat → Nat} {fs : Nat → xS → xS → Prop} {call : xRel} {c1 c2 : List (Nat × xEn)} (h : ∀ q ∈ c1, q ∈ c2) : ∀ {n : Nat} {σ τ : xS}, xrch str fs call c1 n σ τ → xrch str fs call c2 n σ τ
  | 0, _, _, e => e
  | n + 1, (pc, lv, st, hp, sz, sl), τ, e => by
    rcases e with ⟨op, σ', hm, ho, hr⟩ | ⟨kind, j, k, ci, b, As, rest, fl, rv, hp', sz', sl', hm, r⟩ | ⟨kind, j, k, ci, As, rest, rv, hp', sz', sl', hm, r⟩ | ⟨j, k, ci, σ', hm, ho, hr⟩
    · exact Or.inl ⟨op, σ', h _ hm, ho, xrch_mono h hr⟩
    · obtain ⟨r1, r2, r3, r4, r5, r6, r7⟩ := r
      exact Or.inr (Or.inl ⟨kind, j, k, ci, b, As, rest, fl, rv, hp', sz', sl', h _ hm, r1, r2, r3, r4, r5, r6, xrch_mono h r7⟩)
    · obtain ⟨r1, r2, r3, r4, r5, r6⟩ := r
      exact Or.inr (Or.inr (Or.inl ⟨kind, j, k, ci, As, rest, rv, hp', sz', sl', h _ hm, r1, r2, r3, r4, r5, xrch_mono h r6⟩))
    · exact Or.inr (Or.inr (Or.inr ⟨j, k, ci, σ', h _ hm, ho, xrch_mono h hr⟩))
theorem xrch_trans {str : Nat → Nat} {fs : Nat → xS → xS → Prop} {call : xRel} {c : List (Nat × xEn)} {m : Nat} {τ υ : xS} (g : xrch str fs call c m τ υ) : ∀ {n : Nat} {σ : xS}, xrch str fs call c n σ τ → xrch str fs call c (n + m) σ υ
  | 0, _, e => by
    have e' : _ = τ := e
    subst e'
    rw [Nat.zero_add]; exact g
  | n + 1, (pc, lv, st, hp, sz, sl), e => by
    rw [Nat.succ_add]
    rcases e with ⟨op, σ', hm, ho, hr⟩ | ⟨kind, j, k, ci, b, As, rest, fl, rv, hp', sz', sl', hm, r⟩ | ⟨kind, j, k, ci, As, rest, rv, hp', sz', sl', hm, r⟩ | ⟨j, k, ci, σ', hm, ho, hr⟩
    · exact Or.inl ⟨op, σ', hm, ho, xrch_trans g hr⟩
    · obtain ⟨r1, r2, r3, r4, r5, r6, r7⟩ := r
      exact Or.inr (Or.inl ⟨kind, j, k, ci, b, As, rest, fl, rv, hp', sz', sl', hm, r1, r2, r3, r4, r5, r6, xrch_trans g r7⟩)
    · obtain ⟨r1, r2, r3, r4, r5, r6⟩ := r
      exact Or.inr (Or.inr (Or.inl ⟨kind, j, k, ci, As, rest, rv, hp', sz', sl', hm, r1, r2, r3, r4, r5, xrch_trans g r6⟩))
    · exact Or.inr (Or.inr (Or.inr ⟨j, k, ci, σ', hm, ho, xrch_trans g hr⟩))
theorem ArmTo.up {ev : xEv} {prim : xRel} {c1 c2 : List (Nat × xEn)} {pc pcE aC aM oA : Nat} {i : Int32} {lv : xLv} {TC TM : yT} {hp : xH} {sl : Nat} (h : ∀ q ∈ c1, q ∈ c2) (e : ArmTo ev prim c1 pc pcE aC aM oA i lv TC TM hp sl) : ArmTo ev prim c2 pc pcE aC aM oA i lv TC TM hp sl := by
  obtain ⟨X', lv', TC', SC', TM', SM', hp', sl', n, h1, h2⟩ := e
  exact ⟨X', lv', TC', SC', TM', SM', hp', sl', n, xrch_mono h h1, h2⟩
theorem cR_new {rt : List Nat} {ev : xEv} {X hp : xH} {T1 T2 : yT} {S : yS} {n : Nat} {z : va_E} (h : cR rt (fOf T2 hp X) ev T1 S hp) (n2 : ¬ aOf T2 n) (hz : T1.2.2.1 ≤ n) : cR rt (fOf T2 (xU hp n z) (xU X n z)) ev (reT T1 (n + 1)) S (xU hp n z) := by
  obtain ⟨c1, c2, c3, c4, c5, c6, c7, c8, c9⟩ := h
  have F : ∀ b, b ≠ n → fOf T2 (xU hp n z) (xU X n z) b = fOf T2 hp X b := fun b hb => by
    by_cases y : aOf T2 b
    · rw [fOf_y y, fOf_y y, xU_other _ _ hb]
    · rw [fOf_n y, fOf_n y, xU_other _ _ hb]
  have ne : ∀ o j, T1.1 o = true → yHas o j → T1.2.1 o j ≠ n := fun o j a1 a2 => Nat.ne_of_lt (Nat.lt_of_lt_of_le (c4 o j a1 a2).2 hz)
  refine ⟨c1, fun o j w g1 g2 => ?_, c3, fun o j g1 g2 => ⟨?_, Nat.lt_succ_of_lt (Nat.lt_of_lt_of_le (c4 o j g1 g2).2 hz)⟩, fun b w g => ?_, c6, c7, c8, c9⟩
  · have g2' : yCell ev T1 S o j = some w := g2
    show xU hp n z (T1.2.1 o j) = some w
    rw [xU_other _ _ (ne o j g1 (yHas_of g2'))]; exact c2 o j w g1 g2'
  · show fOf T2 (xU hp n z) (xU X n z) (T1.2.1 o j) = none
    rw [F _ (ne o j g1 g2)]; exact (c4 o j g1 g2).1
  · by_cases y : b = n
    · subst y
      rw [fOf_n n2, xU_same] at g
      obtain rfl := Option.some.inj g
      exact ⟨xU_same _ _ _, Nat.lt_succ_self _⟩
    · rw [F b y] at g
      rw [xU_other _ _ y]
      exact ⟨(c5 b w g).1, Nat.lt_succ_of_lt (Nat.lt_of_lt_of_le (c5 b w g).2 hz)⟩
theorem J2_new {ev : xEv} {X hp : xH} {TC TM : yT} {SC SM : yS} {z : va_E} {n : Nat} (h : J2 ev X TC SC TM SM hp) (hn : TC.2.2.1 = n) : J2 ev (xU X n z) (reT TC (n + 1)) SC (reT TM (n + 1)) SM (xU hp n z) := by
  obtain ⟨h1, h2, h3, h4, h5⟩ := h
  have nC : ¬ aOf TC n := fun ⟨o, j, g1, g2, g3⟩ => by
    have := (h1.2.2.2.1 o j g1 g2).2
    omega
  have nM : ¬ aOf TM n := fun ⟨o, j, g1, g2, g3⟩ => by
    have := (h2.2.2.2.1 o j g1 g2).2
    omega
  exact ⟨cR_new h1 nM (Nat.le_of_eq hn), cR_new h2 nC (by rw [← h3]; exact Nat.le_of_eq hn), rfl, h4, h5⟩
theorem yfr_top (al : Nat → Bool) : ∀ k, yfr al k ≤ k
  | 0 => Nat.le_refl _
  | k + 1 => by
    have := yfr_top al k
    show yfr al k + (if al k = true then 0 else 1) ≤ k + 1
    split <;> omega
set_option maxHeartbeats 4000000 in
set_option maxRecDepth 20000 in
/-- both objects and the row out: the law comes to its loop -/
theorem law_start {ev : xEv} {prim : xRel} (z0 : Nat) : ∃ n lv hp TC TM aC aM oA X, xrch ev.2.1 (wS ev) (xCalls ev xmi (xprog ev) prim 600) (pLaw ev) n (0, lv_args 0 [.ref ev.2.2.2.2.1], [], fun _ => none, z0, 0) (23, lv, [], hp, TC.2.2.1, 11826) ∧ Inv ev aC aM oA X (Int32.ofNat 0) lv TC yS0c TM yS0m hp ∧ TC.2.2.1 = z0 + 92 := by
  obtain ⟨hpA, cA, hO, h0, h1, h2, h3, h4, h5, h6, h7, h8, h9, h10, h11, h12, h13, h14, h15, h16, h17, h18, h19, h20, h21, h22, h23, h24, h25, h26, h27, h28, h29, h30, h31, h32, h33, h34, h35, h36, h37, h38, h39, h40, h41, h42, h43, h44, h45, h46, h47, h48, h49, hfA⟩ := rc_127 (ev := ev) (prim := prim) (d := 597) (xU (fun _ => none) z0 (.inr (11, [.null, .null, .null, .null, .null, .null, .int 0, .null, .int 0]))) z0 (z0 + 1) (xU_same _ _ _) (Nat.lt_succ_self _)
  have hA0 : ∀ x z, hpA x = some z → x < z0 + 51 := fun x z hx => by
    by_cases c : x < z0 + 51
    · exact c
    · have e := hfA x (by omega) (Or.inr (by omega))
      rw [e, xU_other _ _ (by omega)] at hx
      cases hx
  have A := c0c (F := fun _ => none) (ev := ev) (hp := hpA) (c := z0) hO h0 h1 h2 h3 h4 h5 h6 h7 h8 h9 h10 h11 h12 h13 h14 h15 h16 h17 h18 h19 h20 h21 h22 h23 h24 h25 h26 h27 h28 h29 h30 h31 h32 h33 h34 h35 h36 h37 h38 h39 h40 h41 h42 h43 h44 h45 h46 h47 h48 h49 (fun x z h => by cases h)
  obtain ⟨hpB, cB, mO, m0, m1, m2, m3, m4, m5, m6, m7, m8, m9, m10, m11, m12, m13, m14, m15, m16, m17, m18, m19, m20, m21, m22, m23, m24, m25, m26, m27, m28, m29, m30, m31, m32, m33, m34, m35, m36, m37, m38, hfB⟩ := rc_186 (ev := ev) (prim := prim) (d := 599) (xU hpA (z0 + 51) (.inr (12, [.null, .int 0, .null, .null, .null, .null, .null, .null, .null, .int 0, .null, .null, .null, .null, .null, .int 0, .null, .null, .null, .null, .null, .int 0, .int 0, .null, .null, .null, .null, .null, .int 0, .null, .null, .null, .null, .int 0, .int 0, .int 0, .int 0, .null, .null, .null, .null, .int 0, .int 0, .null, .int 0, .null, .int 0, .int 0, .null, .null, .null, .int 0, .int 0, .int 0, .int 0, .null, .null, .int 0, .null, .int 0, .null, .null, .int 0, .int 0]))) (z0 + 51) (z0 + 52) (xU_same _ _ _) (Nat.lt_succ_self _)
  have hB0 : ∀ x z, hpA x = some z → hpB x = some z ∧ x < z0 + 51 := fun x z hx => by
    have hlt := hA0 x z hx
    refine ⟨?_, hlt⟩
    rw [hfB x (by omega) (Or.inl (by omega)), xU_other _ _ (by omega)]
    exact hx
  have B := c0m (F := hpA) (ev := ev) (hp := hpB) (c := z0 + 51) mO m0 m1 m2 m3 m4 m5 m6 m7 m8 m9 m10 m11 m12 m13 m14 m15 m16 m17 m18 m19 m20 m21 m22 m23 m24 m25 m26 m27 m28 m29 m30 m31 m32 m33 m34 m35 m36 m37 m38 hB0
  have J := J2_new (n := z0 + 91) (z := .inl (ev.1 1, 1, .inr (.inl (fun _ => 0)))) (J2_start A B rfl rfl) rfl
  have hw : yWE ev.2.1 (wS ev) (xCalls ev xmi (xprog ev) prim 600) (aL_s ev) (0, lv_args 0 [.ref ev.2.2.2.2.1], [], fun _ => none, z0, 0) (fun q => q = .inr (23, xSt1 (xSt1 (xSt1 (xSt1 (lv_args 0 [.ref ev.2.2.2.2.1]) 1 (.ref z0)) 2 (.ref (z0 + 51))) 3 (.ref (z0 + 91))) 4 (.int 0), [], xU hpB (z0 + 91) (.inl (ev.1 1, 1, .inr (.inl (fun _ => 0)))), z0 + 92, 11826)) := by
    refine ye_op (pc := 0) rfl rfl ?_
    refine ye_p (pc := 3) rfl rfl ?_
    refine ye_callV (pc := 4) (As := []) (rest := [.ref z0]) 2 (Or.inr rfl) rfl rfl rfl (Nat.le_of_ble_eq_true rfl) (xU_same _ _ _) cA ?_
    refine ye_p (pc := 7) rfl rfl ?_
    refine ye_op (pc := 8) rfl rfl ?_
    refine ye_p (pc := 11) rfl rfl ?_
    refine ye_callV (pc := 12) (As := []) (rest := [.ref (z0 + 51)]) 2 (Or.inr rfl) rfl rfl rfl (Nat.le_of_ble_eq_true rfl) (xU_same _ _ _) cB ?_
    refine ye_p (pc := 15) rfl rfl ?_
    refine ye_p (pc := 16) rfl rfl ?_
    refine ye_op (pc := 17) (op := xo_newa (ev.1 1) (.inr (.inl (fun _ => 0)))) (σ' := (19, xSt1 (xSt1 (lv_args 0 [.ref ev.2.2.2.2.1]) 1 (.ref z0)) 2 (.ref (z0 + 51)), [.ref (z0 + 91)], xU hpB (z0 + 91) (.inl (ev.1 1, 1, .inr (.inl (fun _ => 0)))), z0 + 92, 11826)) rfl ?_ ?_
    · show xo_newa (ev.1 1) (.inr (.inl (fun _ => 0))) (17, xSt1 (xSt1 (lv_args 0 [.ref ev.2.2.2.2.1]) 1 (.ref z0)) 2 (.ref (z0 + 51)), [.int 1], hpB, z0 + 91, 11825) = _
      simp only [xo_newa]
      rw [if_neg (by decide)]
      rfl
    refine ye_p (pc := 19) rfl rfl ?_
    refine ye_p (pc := 20) rfl rfl ?_
    refine ye_p (pc := 21) rfl rfl ?_
    exact ye_end
  obtain ⟨n, hn⟩ := ye_rch hw
  refine ⟨n, _, _, reT (reT (yT0c z0) (z0 + 91)) (z0 + 92), reT (yT0m (z0 + 51)) (z0 + 92), z0, z0 + 51, z0 + 91, xU (fun _ => none) (z0 + 91) (.inl (ev.1 1, 1, .inr (.inl (fun _ => 0)))), xrch_mono in_aL_s hn, ⟨⟨rfl, rfl, rfl, rfl, rfl⟩, J, RA_first, ⟨rfl, rfl, rfl⟩, ⟨rfl, rfl, rfl⟩, _, xU_same _ _ _⟩, rfl⟩
def lTg : List Nat := [224, 289, 342, 403, 452, 489, 550, 630, 703, 795, 898, 959, 996, 1033, 1106, 1131, 1168, 1193, 1218, 1255, 1316, 1341, 1366, 1391, 1428, 1453, 1521, 1589, 1657, 1694, 1719, 1744, 1757, 1782, 1831, 1910, 1959, 1972, 1985, 2010, 2047, 2072]
/-- every arm -/
theorem arms_all {ev : xEv} {prim : xRel} {N aC aM oA : Nat} {X : xH} {i : Int32} {lv : xLv} {TC TM : yT} {SC SM : yS} {hp : xH} (hA : ∀ d, xAllM ev prim d) (hN : 3000 < N) (I : Inv ev aC aM oA X i lv TC SC TM SM hp) (hs : Si ev i) (sl : Nat) : ∀ k, k < 42 → ArmTo ev prim (pLaw ev) (lTg.getD k 0) 2128 aC aM oA i lv TC TM hp sl := fun k hk => by
  match k, hk with
  | 0, _ => exact (A_0 hA hN I hs sl).up in_aL_0
  | 1, _ => exact (A_1 hA hN I hs sl).up in_aL_1
  | 2, _ => exact (A_2 hA hN I hs sl).up in_aL_2
  | 3, _ => exact (A_3 hA hN I hs sl).up in_aL_3
  | 4, _ => exact (A_4 hA hN I hs sl).up in_aL_4
  | 5, _ => exact (A_5 hA hN I hs sl).up in_aL_5
  | 6, _ => exact (A_6 hA hN I hs sl).up in_aL_6
  | 7, _ => exact (A_7 hA hN I hs sl).up in_aL_7
  | 8, _ => exact (A_8 hA hN I hs sl).up in_aL_8
  | 9, _ => exact (A_9 hA hN I hs sl).up in_aL_9
  | 10, _ => exact (A_10 hA hN I hs sl).up in_aL_10
  | 11, _ => exact (A_11 hA hN I hs sl).up in_aL_11
  | 12, _ => exact (A_12 hA hN I hs sl).up in_aL_12
  | 13, _ => exact (A_13 hA hN I hs sl).up in_aL_13
  | 14, _ => exact (A_14 hA hN I hs sl).up in_aL_14
  | 15, _ => exact (A_15 hA hN I hs sl).up in_aL_15
  | 16, _ => exact (A_16 hA hN I hs sl).up in_aL_16
  | 17, _ => exact (A_17 hA hN I hs sl).up in_aL_17
  | 18, _ => exact (A_18 hA hN I hs sl).up in_aL_18
  | 19, _ => exact (A_19 hA hN I hs sl).up in_aL_19
  | 20, _ => exact (A_20 hA hN I hs sl).up in_aL_20
  | 21, _ => exact (A_21 hA hN I hs sl).up in_aL_21
  | 22, _ => exact (A_22 hA hN I hs sl).up in_aL_22
  | 23, _ => exact (A_23 hA hN I hs sl).up in_aL_23
  | 24, _ => exact (A_24 hA hN I hs sl).up in_aL_24
  | 25, _ => exact (A_25 hA hN I hs sl).up in_aL_25
  | 26, _ => exact (A_26 hA hN I hs sl).up in_aL_26
  | 27, _ => exact (A_27 hA hN I hs sl).up in_aL_27
  | 28, _ => exact (A_28 hA hN I hs sl).up in_aL_28
  | 29, _ => exact (A_29 hA hN I hs sl).up in_aL_29
  | 30, _ => exact (A_30 hA hN I hs sl).up in_aL_30
  | 31, _ => exact (A_31 hA hN I hs sl).up in_aL_31
  | 32, _ => exact (A_32 hA hN I hs sl).up in_aL_32
  | 33, _ => exact (A_33 hA hN I hs sl).up in_aL_33
  | 34, _ => exact (A_34 hA hN I hs sl).up in_aL_34
  | 35, _ => exact (A_35 hA hN I hs sl).up in_aL_35
  | 36, _ => exact (A_36 hA hN I hs sl).up in_aL_36
  | 37, _ => exact (A_37 hA hN I hs sl).up in_aL_37
  | 38, _ => exact (A_38 hA hN I hs sl).up in_aL_38
  | 39, _ => exact (A_39 hA hN I hs sl).up in_aL_39
  | 40, _ => exact (A_40 hA hN I hs sl).up in_aL_40
  | 41, _ => exact (A_41 hA hN I hs sl).up in_aL_41
  | k + 42, h => exact absurd h (by omega)
set_option maxHeartbeats 4000000 in
set_option maxRecDepth 20000 in
/-- one round of the loop, from its head to the switch, through an arm, and back -/
theorem law_round {ev : xEv} {prim : xRel} {N aC aM oA t : Nat} {X : xH} {lv : xLv} {TC TM : yT} {SC SM : yS} {hp : xH} (hA : ∀ d, xAllM ev prim d) (hN : 3000 < N) (hL : ev.2.2.2.2.2.1 ≤ 3584) (ht : t + 7 ≤ ev.2.2.2.2.2.1) (I : Inv ev aC aM oA X (Int32.ofNat t) lv TC SC TM SM hp) (sl : Nat) : ∃ X' lv' TC' SC' TM' SM' hp' sl' n, xrch ev.2.1 (wS ev) (xCalls ev xmi (xprog ev) prim 600) (pLaw ev) n (23, lv, [], hp, TC.2.2.1, sl) (23, lv', [], hp', TC'.2.2.1, sl') ∧ Inv ev aC aM oA X' (Int32.ofNat (t + 7)) lv' TC' SC' TM' SM' hp' ∧ TC'.2.2.1 + 3 * (yfr TC'.1 640 + yfr TM'.1 640) ≤ TC.2.2.1 + 3 * (yfr TC.1 640 + yfr TM.1 640) + 4 ∧ sl' + 45 * (yfr TC'.1 640 + yfr TM'.1 640) ≤ sl + 45 * (yfr TC.1 640 + yfr TM.1 640) + 40 := by
  have nt : nn (Int32.ofNat t) t := nn_lit t (by omega)
  have nL : nn (Int32.ofNat ev.2.2.2.2.2.1) ev.2.2.2.2.2.1 := nn_lit _ (by omega)
  have n7 : nn (7 : Int32) 7 := nn_lit 7 (by decide)
  have hs : Si ev (Int32.ofNat t) := fun c h0 h7 => by
    have nc : nn c c.toNatClampNeg := nn_of h0
    have hc : c.toNatClampNeg < 7 := (nn_lt nc n7).mp h7
    have ns := nn_add nt nc (by omega)
    intro q
    rcases q with q | q
    · exact ns.nneg q
    · rw [ns.nat] at q; omega
  have hl := I.1
  have hhead : ∀ (tgt : Nat), (xtsw 0 [224, 289, 342, 403, 452, 489, 550, 630, 703, 795, 898, 959, 996, 1033, 1106, 1131, 1168, 1193, 1218, 1255, 1316, 1341, 1366, 1391, 1428, 1453, 1521, 1589, 1657, 1694, 1719, 1744, 1757, 1782, 1831, 1910, 1959, 1972, 1985, 2010, 2047, 2072] 2128 (ag ev (Int32.ofNat t) 0 &&& 63).toInt = tgt) → ∃ n, xrch ev.2.1 (wS ev) (xCalls ev xmi (xprog ev) prim 600) (pLaw ev) n (23, lv, [], hp, TC.2.2.1, sl) (tgt, lv, [], hp, TC.2.2.1, sl) := fun tgt htg => by
    have hw : yWE ev.2.1 (wS ev) (xCalls ev xmi (xprog ev) prim 600) (aL_h ev) (23, lv, [], hp, TC.2.2.1, sl) (fun q => q = .inr (tgt, lv, [], hp, TC.2.2.1, sl)) := by
      refine ye_iload (pc := 23) rfl hl.2.2.2.2 ?_
      refine ye_aload (pc := 25) rfl hl.1 ?_
      refine ye_p (pc := 26) (pc' := 27) (lv' := lv) (st' := [.int (Int32.ofNat ev.2.2.2.2.2.1), .int (Int32.ofNat t)]) rfl (by simp only [xf_alenT]; rw [if_pos trivial]) ?_
      refine ye_p (pc := 27) rfl rfl ?_
      refine ye_p (pc := 29) rfl rfl ?_
      refine ye_icmp_gt (pc := 30) rfl (fun q => absurd ((nn_lt (nn_sub nL n7 (by omega)) nt).mp q) (by omega)) (fun _ => ?_)
      refine ye_aload (pc := 33) rfl hl.1 ?_
      refine ye_iload (pc := 34) rfl hl.2.2.2.2 ?_
      refine ye_p (pc := 36) (pc' := 37) (lv' := lv) (st' := [.int (ag ev (Int32.ofNat t) 0)]) rfl ?_ ?_
      · simp only [xf_aldT]
        have e := hs 0 (by decide) (by decide)
        have e0 : Int32.ofNat t + 0 = Int32.ofNat t := Int32.add_zero _
        rw [e0] at e
        rw [if_pos trivial, if_neg e]
        unfold ag
        rw [e0]
      refine ye_p (pc := 37) rfl rfl ?_
      refine ye_p (pc := 39) rfl rfl ?_
      refine ye_sw (pc := 40) rfl htg ?_
      exact ye_end
    obtain ⟨n, hn⟩ := ye_rch hw
    exact ⟨n, xrch_mono in_aL_h hn⟩
  have htail : ∀ (lv1 : xLv) (hp1 : xH) (sz1 sl1 : Nat), LV ev aC aM oA (Int32.ofNat t) lv1 → ∃ n, xrch ev.2.1 (wS ev) (xCalls ev xmi (xprog ev) prim 600) (pLaw ev) n (2128, lv1, [], hp1, sz1, sl1) (23, xSt1 lv1 4 (.int (Int32.ofNat (t + 7))), [], hp1, sz1, sl1) := fun lv1 hp1 sz1 sl1 hl1 => by
    have hw : yWE ev.2.1 (wS ev) (xCalls ev xmi (xprog ev) prim 600) (aL_t ev) (2128, lv1, [], hp1, sz1, sl1) (fun q => q = .inr (23, xSt1 lv1 4 (.int (Int32.ofNat (t + 7))), [], hp1, sz1, sl1)) := by
      refine ye_iinc (pc := 2128) rfl hl1.2.2.2.2 ?_
      have e : Int32.ofNat t + 7 = Int32.ofNat (t + 7) := by rw [Int32.ofNat_add]; rfl
      rw [e]
      refine ye_p (pc := 2131) rfl rfl ?_
      exact ye_end
    obtain ⟨n, hn⟩ := ye_rch hw
    exact ⟨n, xrch_mono in_aL_t hn⟩
  by_cases c : (ag ev (Int32.ofNat t) 0 &&& 63).toInt < 0 ∨ (0 : Int) + [224, 289, 342, 403, 452, 489, 550, 630, 703, 795, 898, 959, 996, 1033, 1106, 1131, 1168, 1193, 1218, 1255, 1316, 1341, 1366, 1391, 1428, 1453, 1521, 1589, 1657, 1694, 1719, 1744, 1757, 1782, 1831, 1910, 1959, 1972, 1985, 2010, 2047, 2072].length ≤ (ag ev (Int32.ofNat t) 0 &&& 63).toInt
  · obtain ⟨n1, h1⟩ := hhead 2128 (by unfold xtsw; rw [if_pos c])
    obtain ⟨n2, h2⟩ := htail lv hp TC.2.2.1 sl hl
    obtain ⟨i1, i2, i3, i4, i5, i6⟩ := I
    exact ⟨X, _, TC, SC, TM, SM, hp, sl, _, xrch_trans h2 h1, ⟨LV_inc i1, i2, i3, i4, i5, i6⟩, by omega, by omega⟩
  · have hk : ((ag ev (Int32.ofNat t) 0 &&& 63).toInt - 0).toNat < 42 := by
      have e : [224, 289, 342, 403, 452, 489, 550, 630, 703, 795, 898, 959, 996, 1033, 1106, 1131, 1168, 1193, 1218, 1255, 1316, 1341, 1366, 1391, 1428, 1453, 1521, 1589, 1657, 1694, 1719, 1744, 1757, 1782, 1831, 1910, 1959, 1972, 1985, 2010, 2047, 2072].length = 42 := rfl
      rw [e] at c
      omega
    obtain ⟨n1, h1⟩ := hhead (lTg.getD ((ag ev (Int32.ofNat t) 0 &&& 63).toInt - 0).toNat 0) (by unfold xtsw; rw [if_neg c]; rfl)
    obtain ⟨X', lv', TC', SC', TM', SM', hp', sl', n2, h2, I', b1, b2⟩ := arms_all hA hN I hs sl _ hk
    obtain ⟨i1, i2, i3, i4, i5, i6⟩ := I'
    obtain ⟨n3, h3⟩ := htail lv' hp' TC'.2.2.1 sl' i1
    exact ⟨X', _, TC', SC', TM', SM', hp', sl', _, xrch_trans h3 (xrch_trans h2 h1), ⟨LV_inc i1, i2, i3, i4, i5, i6⟩, b1, b2⟩
theorem law_out {ev : xEv} {prim : xRel} {aC aM oA t : Nat} {lv : xLv} {hp : xH} (hL : ev.2.2.2.2.2.1 ≤ 3584) (ht4 : t ≤ 4000) (ht : ev.2.2.2.2.2.1 < t + 7) (hl : LV ev aC aM oA (Int32.ofNat t) lv) (sz sl : Nat) : ∃ n, xrch ev.2.1 (wS ev) (xCalls ev xmi (xprog ev) prim 600) (pLaw ev) n (23, lv, [], hp, sz, sl) (2134, lv, [], hp, sz, sl) := by
  have nt : nn (Int32.ofNat t) t := nn_lit t (by omega)
  have nL : nn (Int32.ofNat ev.2.2.2.2.2.1) ev.2.2.2.2.2.1 := nn_lit _ (by omega)
  have n7 : nn (7 : Int32) 7 := nn_lit 7 (by decide)
  have key : Int32.ofNat ev.2.2.2.2.2.1 - 7 < Int32.ofNat t := by
    by_cases c : 7 ≤ ev.2.2.2.2.2.1
    · exact (nn_lt (nn_sub nL n7 c) nt).mpr (by omega)
    · have hneg : Int32.ofNat ev.2.2.2.2.2.1 - 7 < 0 := by
        have : ∀ k, k < 7 → Int32.ofNat k - 7 < 0 := by decide
        exact this _ (by omega)
      have hnn : (0 : Int32) ≤ Int32.ofNat t := Int32.not_lt.mp nt.nneg
      exact Int32.lt_of_lt_of_le hneg hnn
  have hw : yWE ev.2.1 (wS ev) (xCalls ev xmi (xprog ev) prim 600) (aL_h ev) (23, lv, [], hp, sz, sl) (fun q => q = .inr (2134, lv, [], hp, sz, sl)) := by
    refine ye_iload (pc := 23) rfl hl.2.2.2.2 ?_
    refine ye_aload (pc := 25) rfl hl.1 ?_
    refine ye_p (pc := 26) (pc' := 27) (lv' := lv) (st' := [.int (Int32.ofNat ev.2.2.2.2.2.1), .int (Int32.ofNat t)]) rfl (by simp only [xf_alenT]; rw [if_pos trivial]) ?_
    refine ye_p (pc := 27) rfl rfl ?_
    refine ye_p (pc := 29) rfl rfl ?_
    refine ye_icmp_gt (pc := 30) rfl (fun _ => ?_) (fun q => absurd key q)
    exact ye_end
  obtain ⟨n, hn⟩ := ye_rch hw
  exact ⟨n, xrch_mono in_aL_h hn⟩
theorem law_loop {ev : xEv} {prim : xRel} {N aC aM oA : Nat} (hA : ∀ d, xAllM ev prim d) (hN : 3000 < N) (hL : ev.2.2.2.2.2.1 ≤ 3584) : ∀ (r t : Nat) (X : xH) (lv : xLv) (TC TM : yT) (SC SM : yS) (hp : xH) (sl : Nat), t ≤ 3591 → ev.2.2.2.2.2.1 < t + 7 * r + 7 → Inv ev aC aM oA X (Int32.ofNat t) lv TC SC TM SM hp → ∃ (lv' : xLv) (TC' TM' : yT) (hp' : xH) (sl' n : Nat), xrch ev.2.1 (wS ev) (xCalls ev xmi (xprog ev) prim 600) (pLaw ev) n (23, lv, [], hp, TC.2.2.1, sl) (2134, lv', [], hp', TC'.2.2.1, sl') ∧ TC'.2.2.1 + 3 * (yfr TC'.1 640 + yfr TM'.1 640) ≤ TC.2.2.1 + 3 * (yfr TC.1 640 + yfr TM.1 640) + 4 * r ∧ sl' + 45 * (yfr TC'.1 640 + yfr TM'.1 640) ≤ sl + 45 * (yfr TC.1 640 + yfr TM.1 640) + 40 * r
  | 0, t, X, lv, TC, TM, SC, SM, hp, sl, h1, h2, I => by
    obtain ⟨n, hn⟩ := law_out (prim := prim) (hp := hp) hL (by omega) (by omega) I.1 TC.2.2.1 sl
    exact ⟨lv, TC, TM, hp, sl, n, hn, by omega, by omega⟩
  | r + 1, t, X, lv, TC, TM, SC, SM, hp, sl, h1, h2, I => by
    by_cases c : t + 7 ≤ ev.2.2.2.2.2.1
    · obtain ⟨X', lv', TC', SC', TM', SM', hp', sl', n, h3, I', b1, b2⟩ := law_round hA hN hL c I sl
      obtain ⟨lv2, TC2, TM2, hp2, sl2, n2, h4, b3, b4⟩ := law_loop hA hN hL r (t + 7) X' lv' TC' TM' SC' SM' hp' sl' (by omega) (by omega) I'
      exact ⟨lv2, TC2, TM2, hp2, sl2, _, xrch_trans h4 h3, by omega, by omega⟩
    · obtain ⟨n, hn⟩ := law_out (prim := prim) (hp := hp) hL (by omega) (by omega) I.1 TC.2.2.1 sl
      exact ⟨lv, TC, TM, hp, sl, n, hn, by omega, by omega⟩
/-- the law's run: room and all -/
theorem law_run {ev : xEv} {prim : xRel} (hA : ∀ d, xAllM ev prim d) (hL : ev.2.2.2.2.2.1 ≤ 3584) (z0 : Nat) : ∃ n lv hp szE slE, xrch ev.2.1 (wS ev) (xCalls ev xmi (xprog ev) prim 600) (pLaw ev) n (0, lv_args 0 [.ref ev.2.2.2.2.1], [], fun _ => none, z0, 0) (2134, lv, [], hp, szE, slE) ∧ szE - z0 ≤ 601024 ∧ slE ≤ 7293034 := by
  obtain ⟨n, lv, hp, TC, TM, aC, aM, oA, X, h1, I, h2⟩ := law_start (ev := ev) (prim := prim) z0
  obtain ⟨lv', TC', TM', hp', sl', n2, h3, b1, b2⟩ := law_loop (N := 4000) hA (by decide) hL 512 0 X lv TC TM _ _ hp 11826 (by decide) (by omega) I
  have y1 := yfr_top TC.1 640
  have y2 := yfr_top TM.1 640
  exact ⟨_, lv', hp', TC'.2.2.1, sl', xrch_trans h3 h1, by omega, by omega⟩
