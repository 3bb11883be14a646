section YRAW
variable {str : Nat → Nat} {fs : Nat → xS → xS → Prop} {call : xRel} {code : List (Nat × xEn)} {pc : Nat} {lv : xLv} {hp : xH} {sz sl : Nat} {r : xR ⊕ xS → Prop} {rest : List Value}
theorem yw_rawp {ci k a : Nat} {ty : FieldType} {v : Value} {fl : List Value} (hm : xfind code pc = some (.inl (xo_putf ci k ty))) (ha : hp a = some (.inr (ci, fl))) (hk : Nat.succ k ≤ fl.length) (hf : fits ty v = true) (hn : narrow ty v = v) (h : ∀ hp2, hp2 a = some (.inr (ci, fl.set k v)) → (∀ b, b ≠ a → hp2 b = hp b) → yWE str fs call code (pc + 3, lv, rest, hp2, sz, sl) r) : yWE str fs call code (pc, lv, v :: .ref a :: rest, hp, sz, sl) r :=
  ye_putf hm ha hk hf hn (h _ (xU_same _ _ _) (fun b hb => xU_other _ _ hb))
theorem yw_rawa {cA : ClassId} {z : (Nat → Int32) ⊕ (Nat → Int64) ⊕ (Nat → UInt32) ⊕ (Nat → UInt64) ⊕ (Nat → Option Nat)} {n : Int32} {m : Nat} (hm : xfind code pc = some (.inl (xo_newa cA z))) (hn : n.toNatClampNeg = m) (h0 : ¬ (n < 0 ∨ 60000 < m)) (h : ∀ hp2, hp2 sz = some (.inl (cA, m, z)) → (∀ b, b ≠ sz → hp2 b = hp b) → yWE str fs call code (pc + 2, lv, .ref sz :: rest, hp2, sz + 1, sl + m) r) : yWE str fs call code (pc, lv, .int n :: rest, hp, sz, sl) r := by
  subst hn
  exact ye_op hm (by simp only [xo_newa]; rw [if_neg h0]) (h _ (xU_same _ _ _) (fun b hb => xU_other _ _ hb))
theorem yw_rawr {cA : ClassId} {n : Int32} {m : Nat} (hm : xfind code pc = some (.inl (xo_anew cA))) (hn : n.toNatClampNeg = m) (h0 : ¬ (n < 0 ∨ 60000 < m)) (h : ∀ hp2, hp2 sz = some (.inl (cA, m, .inr (.inr (.inr (.inr (fun _ => none)))))) → (∀ b, b ≠ sz → hp2 b = hp b) → yWE str fs call code (pc + 3, lv, .ref sz :: rest, hp2, sz + 1, sl + m) r) : yWE str fs call code (pc, lv, .int n :: rest, hp, sz, sl) r := by
  subst hn
  exact ye_op hm (by simp only [xo_anew]; rw [if_neg h0]) (h _ (xU_same _ _ _) (fun b hb => xU_other _ _ hb))
theorem yw_rawn {ci N : Nat} {fs0 : List Value} (hm : xfind code pc = some (.inl (xo_new ci N fs0))) (h : ∀ hp2, hp2 sz = some (.inr (ci, fs0)) → (∀ b, b ≠ sz → hp2 b = hp b) → yWE str fs call code (pc + 3, lv, .ref sz :: rest, hp2, sz + 1, sl + N) r) : yWE str fs call code (pc, lv, rest, hp, sz, sl) r :=
  ye_op hm (by simp only [xo_new]) (h _ (xU_same _ _ _) (fun b hb => xU_other _ _ hb))
end YRAW
def ykC (rt : List Nat) (F : xH) (ev : xEv) (prim : xRel) (d j ci : Nat) (T : yT) (S : yS) (id : Nat) (fl : List Value) (av : List Value) (I0 : Nat → Int32) : Prop := T.2.2.2 = 0 → 64 ≤ id → id < 640 → ¬ yRf S id = 1 → ¬ S.1 id (yKs (oc id)) = 1 → ∀ (hp hp1 : xH), cR rt F ev T S hp → hp1 T.2.2.1 = some (.inr (ci, fl)) → (∀ b, b ≠ T.2.2.1 → hp1 b = hp b) → ∃ hp' n' sl ad0, xCalls ev xmi (xprog ev) prim d j (.ref T.2.2.1 :: av) hp1 (T.2.2.1 + 1) (none, hp', n', sl) ∧ cR rt F ev (yTn T id ad0 n') (yNw S id I0) hp' ∧ T.1 id = false ∧ ad0 0 = T.2.2.1 ∧ T.2.2.1 ≤ n' ∧ n' ≤ T.2.2.1 + 3 ∧ fl.length + sl ≤ 45
set_option maxRecDepth 20000 in
theorem ct_3 {F : xH} {ev : xEv} {prim : xRel} {d : Nat} {T : yT} (S : yS) (id : Nat) (x0 : Int32) (x1 : Int32) (x2 : Int32) (x3 : Int32) (hoc : oc id = 3) : ykC [0, 1, 2, 3, 4, 5, 6, 7] F ev prim (d + 1) 29 3 T S id [.int 0, .int 0, .int 0, .int 0, .int 0, .null, .null] [.int x0, .int x1, .int x2, .int x3] (fun k => ([x0, x1, x2, x3, 0, 0, 0] : List Int32).getD k 0) := by
  intro hz h64 h640 hrf hrf2 hp hp1 hM Rhp1 Ohp1
  refine Exists.elim (yc_of (ev := ev) (prim := prim) (d := d) (j := 29) (av := .ref T.2.2.1 :: [.int x0, .int x1, .int x2, .int x3]) (hp := hp1) (sz := T.2.2.1 + 1) (r := fun q => ∃ hp' n' sl ad0, q = .inl (none, hp', n', sl) ∧ cR [0, 1, 2, 3, 4, 5, 6, 7] F ev (yTn T id ad0 n') (yNw S id (fun k => ([x0, x1, x2, x3, 0, 0, 0] : List Int32).getD k 0)) hp' ∧ T.1 id = false ∧ ad0 0 = T.2.2.1 ∧ T.2.2.1 ≤ n' ∧ n' ≤ T.2.2.1 + 3 ∧ 7 + sl ≤ 45) (pg_29 ev) mi_29 (Nat.le_of_ble_eq_true rfl) (fun s hs => by obtain ⟨_, _, _, _, h, _⟩ := hs; cases h) ?_) (fun q hq0 => ?_)
  rotate_left 1
  · obtain ⟨hc, hp', n', sl, ad0, e, h1, h2, h3, h4, h5, h6⟩ := hq0
    have e2 := Sum.inl.inj e
    rw [e2] at hc
    exact ⟨hp', n', sl, ad0, hc, h1, h2, h3, h4, h5, h6⟩
  refine ye_aload rfl rfl ?_
  refine ye_p rfl rfl ?_
  refine ye_aload rfl rfl ?_
  refine ye_p rfl rfl ?_
  refine yw_rawa (m := 4) rfl rfl (by decide) (fun y1 A1 Oy1 => ?_)
  have Ry1 := (Oy1 T.2.2.1 (by omega)).trans Rhp1
  refine yw_rawp rfl Ry1 (Nat.le_of_ble_eq_true rfl) rfl rfl (fun y2 Ry2 Oy2 => ?_)
  refine ye_aload rfl rfl ?_
  refine ye_p rfl rfl ?_
  refine yw_rawa (m := 4) rfl rfl (by decide) (fun y3 A2 Oy3 => ?_)
  have Ry3 := (Oy3 T.2.2.1 (by omega)).trans Ry2
  refine yw_rawp rfl Ry3 (Nat.le_of_ble_eq_true rfl) rfl rfl (fun y4 Ry4 Oy4 => ?_)
  refine ye_aload rfl rfl ?_
  refine ye_iload rfl rfl ?_
  refine yw_rawp rfl Ry4 (Nat.le_of_ble_eq_true rfl) rfl rfl (fun y5 Ry5 Oy5 => ?_)
  refine ye_aload rfl rfl ?_
  refine ye_iload rfl rfl ?_
  refine yw_rawp rfl Ry5 (Nat.le_of_ble_eq_true rfl) rfl rfl (fun y6 Ry6 Oy6 => ?_)
  refine ye_aload rfl rfl ?_
  refine ye_iload rfl rfl ?_
  refine yw_rawp rfl Ry6 (Nat.le_of_ble_eq_true rfl) rfl rfl (fun y7 Ry7 Oy7 => ?_)
  refine ye_aload rfl rfl ?_
  refine ye_iload rfl rfl ?_
  refine yw_rawp rfl Ry7 (Nat.le_of_ble_eq_true rfl) rfl rfl (fun y8 Ry8 Oy8 => ?_)
  have hlt : ∀ b, b < T.2.2.1 → y8 b = hp b := fun b hb => (Oy8 b (by omega)).trans ((Oy7 b (by omega)).trans ((Oy6 b (by omega)).trans ((Oy5 b (by omega)).trans ((Oy4 b (by omega)).trans ((Oy3 b (by omega)).trans ((Oy2 b (by omega)).trans ((Oy1 b (by omega)).trans (Ohp1 b (by omega)))))))))
  have C1 : y8 (T.2.2.1 + 1) = some (.inl (ev.1 0, 4, .inl (fun _ => 0))) := (Oy8 _ (by omega)).trans ((Oy7 _ (by omega)).trans ((Oy6 _ (by omega)).trans ((Oy5 _ (by omega)).trans ((Oy4 _ (by omega)).trans ((Oy3 _ (by omega)).trans ((Oy2 _ (by omega)).trans (A1)))))))
  have C2 : y8 (T.2.2.1 + 2) = some (.inl (ev.1 0, 4, .inl (fun _ => 0))) := (Oy8 _ (by omega)).trans ((Oy7 _ (by omega)).trans ((Oy6 _ (by omega)).trans ((Oy5 _ (by omega)).trans ((Oy4 _ (by omega)).trans (A2)))))
  have hh : ∀ j, yHas id j → j = 0 ∨ j = 6 ∨ j = 7 := by
    intro j hj
    cases j with
    | zero => simp
    | succ k =>
      simp only [yHas, hoc] at hj
      by_cases e5 : k = 5
      · subst e5; simp
      by_cases e6 : k = 6
      · subst e6; simp
      exfalso
      revert hj
      simp [yRow, yTab, List.find?, beq_false_of_ne (Ne.symm e5), beq_false_of_ne (Ne.symm e6)]
  have hq1 : ∀ j, yHas id j → T.2.2.1 ≤ (fun j => if j = 6 then T.2.2.1 + 1 else if j = 7 then T.2.2.1 + 2 else T.2.2.1) j ∧ (fun j => if j = 6 then T.2.2.1 + 1 else if j = 7 then T.2.2.1 + 2 else T.2.2.1) j < T.2.2.1 + 3 := by
    intro j hj
    rcases hh j hj with rfl | rfl | rfl <;> simp
  have hq2 : ∀ j j', yHas id j → yHas id j' → (fun j => if j = 6 then T.2.2.1 + 1 else if j = 7 then T.2.2.1 + 2 else T.2.2.1) j = (fun j => if j = 6 then T.2.2.1 + 1 else if j = 7 then T.2.2.1 + 2 else T.2.2.1) j' → j = j' := by
    intro j j' hj hj' he
    rcases hh j hj with rfl | rfl | rfl <;> rcases hh j' hj' with rfl | rfl | rfl <;> first | rfl | (exfalso; simp at he)
  have hq3 : ∀ j z, yCell ev (yTn T id (fun j => if j = 6 then T.2.2.1 + 1 else if j = 7 then T.2.2.1 + 2 else T.2.2.1) (T.2.2.1 + 3)) (yNw S id (fun k => ([x0, x1, x2, x3, 0, 0, 0] : List Int32).getD k 0)) id j = some z → y8 ((fun j => if j = 6 then T.2.2.1 + 1 else if j = 7 then T.2.2.1 + 2 else T.2.2.1) j) = some z := by
    intro j z hz2
    have e1 : (yNw S id (fun k => ([x0, x1, x2, x3, 0, 0, 0] : List Int32).getD k 0)).1 id = fun k => ([x0, x1, x2, x3, 0, 0, 0] : List Int32).getD k 0 := by simp only [yNw, if_true]
    have e3 : (yNw S id (fun k => ([x0, x1, x2, x3, 0, 0, 0] : List Int32).getD k 0)).2.1 id = fun _ _ => 0 := by simp only [yNw, if_true]
    have e2 : ∀ j, (yTn T id (fun j => if j = 6 then T.2.2.1 + 1 else if j = 7 then T.2.2.1 + 2 else T.2.2.1) (T.2.2.1 + 3)).2.1 id j = (fun j => if j = 6 then T.2.2.1 + 1 else if j = 7 then T.2.2.1 + 2 else T.2.2.1) j := fun j => by simp only [yTn, if_true]
    rcases hh j (yHas_of hz2) with rfl | rfl | rfl
    · simp only [yCell, hoc] at hz2
      rw [if_neg (by decide), e1] at hz2
      rw [← Option.some.inj hz2]
      show y8 T.2.2.1 = _
      rw [Ry8]
      simp only [yFl, occ, e2]
      rfl
    · simp only [yCell, hoc] at hz2
      rw [e3] at hz2
      rw [← Option.some.inj hz2]
      exact C1
    · simp only [yCell, hoc] at hz2
      rw [e3] at hz2
      rw [← Option.some.inj hz2]
      exact C2
  obtain ⟨hN, hf⟩ := hM.born (id := id) (n' := T.2.2.1 + 3) (I0 := fun k => ([x0, x1, x2, x3, 0, 0, 0] : List Int32).getD k 0) (ad0 := fun j => if j = 6 then T.2.2.1 + 1 else if j = 7 then T.2.2.1 + 2 else T.2.2.1) (hp' := y8) hz h64 h640 hrf hrf2 (by decide) hlt (by omega) hq1 hq2 hq3 (by rw [hoc]; show ¬ (0 : Int32) = 1; decide)
  exact ye_ret rfl rfl ⟨y8, _, _, _, rfl, hN, hf, by simp, by omega, by omega, by show 7 + _ ≤ 45; omega⟩
set_option maxRecDepth 20000 in
theorem ct_6 {F : xH} {ev : xEv} {prim : xRel} {d : Nat} {T : yT} (S : yS) (id : Nat) (x0 : Int32) (x1 : Int32) (x2 : Int32) (x3 : Int32) (x4 : Int32) (x5 : Int32) (hoc : oc id = 6) (hbx5 : x5 = 0 ∨ x5 = 1) : ykC [0, 1, 2, 3, 4, 5, 6, 7] F ev prim (d + 1) 68 6 T S id [.int 0, .int 0, .int 0, .int 0, .int 0, .int 0, .int 0, .int 0, .int 0, .int 0, .int 0, .int 0, .int 0, .int 0, .int 0, .int 0, .int 0, .int 0, .int 0, .null, .null] [.int x0, .int x1, .int x2, .int x3, .int x4, .int x5] (fun k => ([x1, x2, x3, x4, x5, 0, 400, 0, x0, (-1), (-1), 0, 0, 0, 0, 0, (-1), (-1), 0, 0, 0] : List Int32).getD k 0) := by
  intro hz h64 h640 hrf hrf2 hp hp1 hM Rhp1 Ohp1
  refine Exists.elim (yc_of (ev := ev) (prim := prim) (d := d) (j := 68) (av := .ref T.2.2.1 :: [.int x0, .int x1, .int x2, .int x3, .int x4, .int x5]) (hp := hp1) (sz := T.2.2.1 + 1) (r := fun q => ∃ hp' n' sl ad0, q = .inl (none, hp', n', sl) ∧ cR [0, 1, 2, 3, 4, 5, 6, 7] F ev (yTn T id ad0 n') (yNw S id (fun k => ([x1, x2, x3, x4, x5, 0, 400, 0, x0, (-1), (-1), 0, 0, 0, 0, 0, (-1), (-1), 0, 0, 0] : List Int32).getD k 0)) hp' ∧ T.1 id = false ∧ ad0 0 = T.2.2.1 ∧ T.2.2.1 ≤ n' ∧ n' ≤ T.2.2.1 + 3 ∧ 21 + sl ≤ 45) (pg_68 ev) mi_68 (Nat.le_of_ble_eq_true rfl) (fun s hs => by obtain ⟨_, _, _, _, h, _⟩ := hs; cases h) ?_) (fun q hq0 => ?_)
  rotate_left 1
  · obtain ⟨hc, hp', n', sl, ad0, e, h1, h2, h3, h4, h5, h6⟩ := hq0
    have e2 := Sum.inl.inj e
    rw [e2] at hc
    exact ⟨hp', n', sl, ad0, hc, h1, h2, h3, h4, h5, h6⟩
  refine ye_aload rfl rfl ?_
  refine ye_p rfl rfl ?_
  refine ye_aload rfl rfl ?_
  refine ye_p rfl rfl ?_
  refine yw_rawp rfl Rhp1 (Nat.le_of_ble_eq_true rfl) rfl rfl (fun y1 Ry1 Oy1 => ?_)
  refine ye_aload rfl rfl ?_
  refine ye_p rfl rfl ?_
  refine yw_rawp rfl Ry1 (Nat.le_of_ble_eq_true rfl) rfl rfl (fun y2 Ry2 Oy2 => ?_)
  refine ye_aload rfl rfl ?_
  refine ye_p rfl rfl ?_
  refine yw_rawp rfl Ry2 (Nat.le_of_ble_eq_true rfl) rfl rfl (fun y3 Ry3 Oy3 => ?_)
  refine ye_aload rfl rfl ?_
  refine ye_p rfl rfl ?_
  refine yw_rawp rfl Ry3 (Nat.le_of_ble_eq_true rfl) rfl rfl (fun y4 Ry4 Oy4 => ?_)
  refine ye_aload rfl rfl ?_
  refine ye_p rfl rfl ?_
  refine yw_rawp rfl Ry4 (Nat.le_of_ble_eq_true rfl) rfl rfl (fun y5 Ry5 Oy5 => ?_)
  refine ye_aload rfl rfl ?_
  refine ye_p rfl rfl ?_
  refine yw_rawa (m := 8) rfl rfl (by decide) (fun y6 A1 Oy6 => ?_)
  have Ry6 := (Oy6 T.2.2.1 (by omega)).trans Ry5
  refine yw_rawp rfl Ry6 (Nat.le_of_ble_eq_true rfl) rfl rfl (fun y7 Ry7 Oy7 => ?_)
  refine ye_aload rfl rfl ?_
  refine ye_iload rfl rfl ?_
  refine yw_rawp rfl Ry7 (Nat.le_of_ble_eq_true rfl) rfl rfl (fun y8 Ry8 Oy8 => ?_)
  refine ye_aload rfl rfl ?_
  refine ye_iload rfl rfl ?_
  refine yw_rawp rfl Ry8 (Nat.le_of_ble_eq_true rfl) rfl rfl (fun y9 Ry9 Oy9 => ?_)
  refine ye_aload rfl rfl ?_
  refine ye_iload rfl rfl ?_
  refine yw_rawp rfl Ry9 (Nat.le_of_ble_eq_true rfl) rfl rfl (fun y10 Ry10 Oy10 => ?_)
  refine ye_aload rfl rfl ?_
  refine ye_iload rfl rfl ?_
  refine yw_rawp rfl Ry10 (Nat.le_of_ble_eq_true rfl) rfl rfl (fun y11 Ry11 Oy11 => ?_)
  refine ye_aload rfl rfl ?_
  refine ye_iload rfl rfl ?_
  refine yw_rawp rfl Ry11 (Nat.le_of_ble_eq_true rfl) rfl rfl (fun y12 Ry12 Oy12 => ?_)
  refine ye_aload rfl rfl ?_
  refine ye_iload rfl rfl ?_
  refine yw_rawp rfl Ry12 (Nat.le_of_ble_eq_true rfl) (zb_fit hbx5) (zb_nar hbx5) (fun y13 Ry13 Oy13 => ?_)
  have hlt : ∀ b, b < T.2.2.1 → y13 b = hp b := fun b hb => (Oy13 b (by omega)).trans ((Oy12 b (by omega)).trans ((Oy11 b (by omega)).trans ((Oy10 b (by omega)).trans ((Oy9 b (by omega)).trans ((Oy8 b (by omega)).trans ((Oy7 b (by omega)).trans ((Oy6 b (by omega)).trans ((Oy5 b (by omega)).trans ((Oy4 b (by omega)).trans ((Oy3 b (by omega)).trans ((Oy2 b (by omega)).trans ((Oy1 b (by omega)).trans (Ohp1 b (by omega))))))))))))))
  have C1 : y13 (T.2.2.1 + 1) = some (.inl (ev.1 0, 8, .inl (fun _ => 0))) := (Oy13 _ (by omega)).trans ((Oy12 _ (by omega)).trans ((Oy11 _ (by omega)).trans ((Oy10 _ (by omega)).trans ((Oy9 _ (by omega)).trans ((Oy8 _ (by omega)).trans ((Oy7 _ (by omega)).trans (A1)))))))
  have hh : ∀ j, yHas id j → j = 0 ∨ j = 20 := by
    intro j hj
    cases j with
    | zero => simp
    | succ k =>
      simp only [yHas, hoc] at hj
      by_cases e19 : k = 19
      · subst e19; simp
      exfalso
      revert hj
      simp [yRow, yTab, List.find?, beq_false_of_ne (Ne.symm e19)]
  have hq1 : ∀ j, yHas id j → T.2.2.1 ≤ (fun j => if j = 20 then T.2.2.1 + 1 else T.2.2.1) j ∧ (fun j => if j = 20 then T.2.2.1 + 1 else T.2.2.1) j < T.2.2.1 + 2 := by
    intro j hj
    rcases hh j hj with rfl | rfl <;> simp
  have hq2 : ∀ j j', yHas id j → yHas id j' → (fun j => if j = 20 then T.2.2.1 + 1 else T.2.2.1) j = (fun j => if j = 20 then T.2.2.1 + 1 else T.2.2.1) j' → j = j' := by
    intro j j' hj hj' he
    rcases hh j hj with rfl | rfl <;> rcases hh j' hj' with rfl | rfl <;> first | rfl | (exfalso; simp at he)
  have hq3 : ∀ j z, yCell ev (yTn T id (fun j => if j = 20 then T.2.2.1 + 1 else T.2.2.1) (T.2.2.1 + 2)) (yNw S id (fun k => ([x1, x2, x3, x4, x5, 0, 400, 0, x0, (-1), (-1), 0, 0, 0, 0, 0, (-1), (-1), 0, 0, 0] : List Int32).getD k 0)) id j = some z → y13 ((fun j => if j = 20 then T.2.2.1 + 1 else T.2.2.1) j) = some z := by
    intro j z hz2
    have e1 : (yNw S id (fun k => ([x1, x2, x3, x4, x5, 0, 400, 0, x0, (-1), (-1), 0, 0, 0, 0, 0, (-1), (-1), 0, 0, 0] : List Int32).getD k 0)).1 id = fun k => ([x1, x2, x3, x4, x5, 0, 400, 0, x0, (-1), (-1), 0, 0, 0, 0, 0, (-1), (-1), 0, 0, 0] : List Int32).getD k 0 := by simp only [yNw, if_true]
    have e3 : (yNw S id (fun k => ([x1, x2, x3, x4, x5, 0, 400, 0, x0, (-1), (-1), 0, 0, 0, 0, 0, (-1), (-1), 0, 0, 0] : List Int32).getD k 0)).2.1 id = fun _ _ => 0 := by simp only [yNw, if_true]
    have e2 : ∀ j, (yTn T id (fun j => if j = 20 then T.2.2.1 + 1 else T.2.2.1) (T.2.2.1 + 2)).2.1 id j = (fun j => if j = 20 then T.2.2.1 + 1 else T.2.2.1) j := fun j => by simp only [yTn, if_true]
    rcases hh j (yHas_of hz2) with rfl | rfl
    · simp only [yCell, hoc] at hz2
      rw [if_neg (by decide), e1] at hz2
      rw [← Option.some.inj hz2]
      show y13 T.2.2.1 = _
      rw [Ry13]
      simp only [yFl, occ, e2]
      rfl
    · simp only [yCell, hoc] at hz2
      rw [e3] at hz2
      rw [← Option.some.inj hz2]
      exact C1
  obtain ⟨hN, hf⟩ := hM.born (id := id) (n' := T.2.2.1 + 2) (I0 := fun k => ([x1, x2, x3, x4, x5, 0, 400, 0, x0, (-1), (-1), 0, 0, 0, 0, 0, (-1), (-1), 0, 0, 0] : List Int32).getD k 0) (ad0 := fun j => if j = 20 then T.2.2.1 + 1 else T.2.2.1) (hp' := y13) hz h64 h640 hrf hrf2 (by decide) hlt (by omega) hq1 hq2 hq3 (by rw [hoc]; show ¬ (0 : Int32) = 1; decide)
  exact ye_ret rfl rfl ⟨y13, _, _, _, rfl, hN, hf, by simp, by omega, by omega, by show 21 + _ ≤ 45; omega⟩
set_option maxRecDepth 20000 in
theorem ct_5 {F : xH} {ev : xEv} {prim : xRel} {d : Nat} {T : yT} (S : yS) (id : Nat) (x0 : Int32) (x1 : Int32) (hoc : oc id = 5) : ykC [0, 1, 2, 3, 4, 5, 6, 7] F ev prim (d + 1) 63 5 T S id [.int 0, .int 0, .int 0, .int 0, .null] [.int x0, .int x1] (fun k => ([x0, (-1), 0, x1, 0] : List Int32).getD k 0) := by
  intro hz h64 h640 hrf hrf2 hp hp1 hM Rhp1 Ohp1
  refine Exists.elim (yc_of (ev := ev) (prim := prim) (d := d) (j := 63) (av := .ref T.2.2.1 :: [.int x0, .int x1]) (hp := hp1) (sz := T.2.2.1 + 1) (r := fun q => ∃ hp' n' sl ad0, q = .inl (none, hp', n', sl) ∧ cR [0, 1, 2, 3, 4, 5, 6, 7] F ev (yTn T id ad0 n') (yNw S id (fun k => ([x0, (-1), 0, x1, 0] : List Int32).getD k 0)) hp' ∧ T.1 id = false ∧ ad0 0 = T.2.2.1 ∧ T.2.2.1 ≤ n' ∧ n' ≤ T.2.2.1 + 3 ∧ 5 + sl ≤ 45) (pg_63 ev) mi_63 (Nat.le_of_ble_eq_true rfl) (fun s hs => by obtain ⟨_, _, _, _, h, _⟩ := hs; cases h) ?_) (fun q hq0 => ?_)
  rotate_left 1
  · obtain ⟨hc, hp', n', sl, ad0, e, h1, h2, h3, h4, h5, h6⟩ := hq0
    have e2 := Sum.inl.inj e
    rw [e2] at hc
    exact ⟨hp', n', sl, ad0, hc, h1, h2, h3, h4, h5, h6⟩
  refine ye_aload rfl rfl ?_
  refine ye_p rfl rfl ?_
  refine ye_aload rfl rfl ?_
  refine ye_p rfl rfl ?_
  refine yw_rawp rfl Rhp1 (Nat.le_of_ble_eq_true rfl) rfl rfl (fun y1 Ry1 Oy1 => ?_)
  refine ye_aload rfl rfl ?_
  refine ye_iload rfl rfl ?_
  refine yw_rawp rfl Ry1 (Nat.le_of_ble_eq_true rfl) rfl rfl (fun y2 Ry2 Oy2 => ?_)
  refine ye_aload rfl rfl ?_
  refine ye_iload rfl rfl ?_
  refine yw_rawp rfl Ry2 (Nat.le_of_ble_eq_true rfl) rfl rfl (fun y3 Ry3 Oy3 => ?_)
  have hlt : ∀ b, b < T.2.2.1 → y3 b = hp b := fun b hb => (Oy3 b (by omega)).trans ((Oy2 b (by omega)).trans ((Oy1 b (by omega)).trans (Ohp1 b (by omega))))
  have hh : ∀ j, yHas id j → j = 0 := by
    intro j hj
    cases j with
    | zero => simp
    | succ k =>
      simp only [yHas, hoc] at hj
      exfalso
      revert hj
      simp [yRow, yTab, List.find?]
  have hq1 : ∀ j, yHas id j → T.2.2.1 ≤ (fun j => T.2.2.1) j ∧ (fun j => T.2.2.1) j < T.2.2.1 + 1 := by
    intro j hj
    rcases hh j hj with rfl <;> simp
  have hq2 : ∀ j j', yHas id j → yHas id j' → (fun j => T.2.2.1) j = (fun j => T.2.2.1) j' → j = j' := by
    intro j j' hj hj' he
    rcases hh j hj with rfl <;> rcases hh j' hj' with rfl <;> first | rfl | (exfalso; simp at he)
  have hq3 : ∀ j z, yCell ev (yTn T id (fun j => T.2.2.1) (T.2.2.1 + 1)) (yNw S id (fun k => ([x0, (-1), 0, x1, 0] : List Int32).getD k 0)) id j = some z → y3 ((fun j => T.2.2.1) j) = some z := by
    intro j z hz2
    have e1 : (yNw S id (fun k => ([x0, (-1), 0, x1, 0] : List Int32).getD k 0)).1 id = fun k => ([x0, (-1), 0, x1, 0] : List Int32).getD k 0 := by simp only [yNw, if_true]
    have e3 : (yNw S id (fun k => ([x0, (-1), 0, x1, 0] : List Int32).getD k 0)).2.1 id = fun _ _ => 0 := by simp only [yNw, if_true]
    have e2 : ∀ j, (yTn T id (fun j => T.2.2.1) (T.2.2.1 + 1)).2.1 id j = (fun j => T.2.2.1) j := fun j => by simp only [yTn, if_true]
    rcases hh j (yHas_of hz2) with rfl
    · simp only [yCell, hoc] at hz2
      rw [if_neg (by decide), e1] at hz2
      rw [← Option.some.inj hz2]
      show y3 T.2.2.1 = _
      rw [Ry3]
      simp only [yFl, occ, e2]
      rfl
  obtain ⟨hN, hf⟩ := hM.born (id := id) (n' := T.2.2.1 + 1) (I0 := fun k => ([x0, (-1), 0, x1, 0] : List Int32).getD k 0) (ad0 := fun j => T.2.2.1) (hp' := y3) hz h64 h640 hrf hrf2 (by decide) hlt (by omega) hq1 hq2 hq3 (by rw [hoc]; show ¬ (0 : Int32) = 1; decide)
  exact ye_ret rfl rfl ⟨y3, _, _, _, rfl, hN, hf, by simp, by omega, by omega, by show 5 + _ ≤ 45; omega⟩
set_option maxRecDepth 20000 in
theorem ct_0 {F : xH} {ev : xEv} {prim : xRel} {d : Nat} {T : yT} (S : yS) (id : Nat) (x0 : Int32) (x1 : Int32) (x2 : Int32) (x3 : Int32) (x4 : Int32) (hoc : oc id = 0) : ykC [0, 1, 2, 3, 4, 5, 6, 7] F ev prim (d + 1) 0 0 T S id [.int 0, .int 0, .int 0, .int 0, .int 0, .int 0, .int 0, .int 0, .int 0, .null, .int 0, .null] [.int x0, .int x1, .int x2, .int x3, .int x4] (fun k => ([x0, x1, x2, x3, x4, x0, (-1), (-1), (-1), 0, 0, 0] : List Int32).getD k 0) := by
  intro hz h64 h640 hrf hrf2 hp hp1 hM Rhp1 Ohp1
  refine Exists.elim (yc_of (ev := ev) (prim := prim) (d := d) (j := 0) (av := .ref T.2.2.1 :: [.int x0, .int x1, .int x2, .int x3, .int x4]) (hp := hp1) (sz := T.2.2.1 + 1) (r := fun q => ∃ hp' n' sl ad0, q = .inl (none, hp', n', sl) ∧ cR [0, 1, 2, 3, 4, 5, 6, 7] F ev (yTn T id ad0 n') (yNw S id (fun k => ([x0, x1, x2, x3, x4, x0, (-1), (-1), (-1), 0, 0, 0] : List Int32).getD k 0)) hp' ∧ T.1 id = false ∧ ad0 0 = T.2.2.1 ∧ T.2.2.1 ≤ n' ∧ n' ≤ T.2.2.1 + 3 ∧ 12 + sl ≤ 45) (pg_0 ev) mi_0 (Nat.le_of_ble_eq_true rfl) (fun s hs => by obtain ⟨_, _, _, _, h, _⟩ := hs; cases h) ?_) (fun q hq0 => ?_)
  rotate_left 1
  · obtain ⟨hc, hp', n', sl, ad0, e, h1, h2, h3, h4, h5, h6⟩ := hq0
    have e2 := Sum.inl.inj e
    rw [e2] at hc
    exact ⟨hp', n', sl, ad0, hc, h1, h2, h3, h4, h5, h6⟩
  refine ye_aload rfl rfl ?_
  refine ye_p rfl rfl ?_
  refine ye_aload rfl rfl ?_
  refine ye_p rfl rfl ?_
  refine yw_rawp rfl Rhp1 (Nat.le_of_ble_eq_true rfl) rfl rfl (fun y1 Ry1 Oy1 => ?_)
  refine ye_aload rfl rfl ?_
  refine ye_p rfl rfl ?_
  refine yw_rawp rfl Ry1 (Nat.le_of_ble_eq_true rfl) rfl rfl (fun y2 Ry2 Oy2 => ?_)
  refine ye_aload rfl rfl ?_
  refine ye_p rfl rfl ?_
  refine yw_rawp rfl Ry2 (Nat.le_of_ble_eq_true rfl) rfl rfl (fun y3 Ry3 Oy3 => ?_)
  refine ye_aload rfl rfl ?_
  refine ye_p rfl rfl ?_
  refine yw_rawa (m := 32) rfl rfl (by decide) (fun y4 A1 Oy4 => ?_)
  have Ry4 := (Oy4 T.2.2.1 (by omega)).trans Ry3
  refine yw_rawp rfl Ry4 (Nat.le_of_ble_eq_true rfl) rfl rfl (fun y5 Ry5 Oy5 => ?_)
  refine ye_aload rfl rfl ?_
  refine ye_iload rfl rfl ?_
  refine yw_rawp rfl Ry5 (Nat.le_of_ble_eq_true rfl) rfl rfl (fun y6 Ry6 Oy6 => ?_)
  refine ye_aload rfl rfl ?_
  refine ye_iload rfl rfl ?_
  refine yw_rawp rfl Ry6 (Nat.le_of_ble_eq_true rfl) rfl rfl (fun y7 Ry7 Oy7 => ?_)
  refine ye_aload rfl rfl ?_
  refine ye_iload rfl rfl ?_
  refine yw_rawp rfl Ry7 (Nat.le_of_ble_eq_true rfl) rfl rfl (fun y8 Ry8 Oy8 => ?_)
  refine ye_aload rfl rfl ?_
  refine ye_iload rfl rfl ?_
  refine yw_rawp rfl Ry8 (Nat.le_of_ble_eq_true rfl) rfl rfl (fun y9 Ry9 Oy9 => ?_)
  refine ye_aload rfl rfl ?_
  refine ye_iload rfl rfl ?_
  refine yw_rawp rfl Ry9 (Nat.le_of_ble_eq_true rfl) rfl rfl (fun y10 Ry10 Oy10 => ?_)
  refine ye_aload rfl rfl ?_
  refine ye_iload rfl rfl ?_
  refine yw_rawp rfl Ry10 (Nat.le_of_ble_eq_true rfl) rfl rfl (fun y11 Ry11 Oy11 => ?_)
  have hlt : ∀ b, b < T.2.2.1 → y11 b = hp b := fun b hb => (Oy11 b (by omega)).trans ((Oy10 b (by omega)).trans ((Oy9 b (by omega)).trans ((Oy8 b (by omega)).trans ((Oy7 b (by omega)).trans ((Oy6 b (by omega)).trans ((Oy5 b (by omega)).trans ((Oy4 b (by omega)).trans ((Oy3 b (by omega)).trans ((Oy2 b (by omega)).trans ((Oy1 b (by omega)).trans (Ohp1 b (by omega))))))))))))
  have C1 : y11 (T.2.2.1 + 1) = some (.inl (ev.1 0, 32, .inl (fun _ => 0))) := (Oy11 _ (by omega)).trans ((Oy10 _ (by omega)).trans ((Oy9 _ (by omega)).trans ((Oy8 _ (by omega)).trans ((Oy7 _ (by omega)).trans ((Oy6 _ (by omega)).trans ((Oy5 _ (by omega)).trans (A1)))))))
  have hh : ∀ j, yHas id j → j = 0 ∨ j = 10 := by
    intro j hj
    cases j with
    | zero => simp
    | succ k =>
      simp only [yHas, hoc] at hj
      by_cases e9 : k = 9
      · subst e9; simp
      exfalso
      revert hj
      simp [yRow, yTab, List.find?, beq_false_of_ne (Ne.symm e9)]
  have hq1 : ∀ j, yHas id j → T.2.2.1 ≤ (fun j => if j = 10 then T.2.2.1 + 1 else T.2.2.1) j ∧ (fun j => if j = 10 then T.2.2.1 + 1 else T.2.2.1) j < T.2.2.1 + 2 := by
    intro j hj
    rcases hh j hj with rfl | rfl <;> simp
  have hq2 : ∀ j j', yHas id j → yHas id j' → (fun j => if j = 10 then T.2.2.1 + 1 else T.2.2.1) j = (fun j => if j = 10 then T.2.2.1 + 1 else T.2.2.1) j' → j = j' := by
    intro j j' hj hj' he
    rcases hh j hj with rfl | rfl <;> rcases hh j' hj' with rfl | rfl <;> first | rfl | (exfalso; simp at he)
  have hq3 : ∀ j z, yCell ev (yTn T id (fun j => if j = 10 then T.2.2.1 + 1 else T.2.2.1) (T.2.2.1 + 2)) (yNw S id (fun k => ([x0, x1, x2, x3, x4, x0, (-1), (-1), (-1), 0, 0, 0] : List Int32).getD k 0)) id j = some z → y11 ((fun j => if j = 10 then T.2.2.1 + 1 else T.2.2.1) j) = some z := by
    intro j z hz2
    have e1 : (yNw S id (fun k => ([x0, x1, x2, x3, x4, x0, (-1), (-1), (-1), 0, 0, 0] : List Int32).getD k 0)).1 id = fun k => ([x0, x1, x2, x3, x4, x0, (-1), (-1), (-1), 0, 0, 0] : List Int32).getD k 0 := by simp only [yNw, if_true]
    have e3 : (yNw S id (fun k => ([x0, x1, x2, x3, x4, x0, (-1), (-1), (-1), 0, 0, 0] : List Int32).getD k 0)).2.1 id = fun _ _ => 0 := by simp only [yNw, if_true]
    have e2 : ∀ j, (yTn T id (fun j => if j = 10 then T.2.2.1 + 1 else T.2.2.1) (T.2.2.1 + 2)).2.1 id j = (fun j => if j = 10 then T.2.2.1 + 1 else T.2.2.1) j := fun j => by simp only [yTn, if_true]
    rcases hh j (yHas_of hz2) with rfl | rfl
    · simp only [yCell, hoc] at hz2
      rw [if_neg (by decide), e1] at hz2
      rw [← Option.some.inj hz2]
      show y11 T.2.2.1 = _
      rw [Ry11]
      simp only [yFl, occ, e2]
      rfl
    · simp only [yCell, hoc] at hz2
      rw [e3] at hz2
      rw [← Option.some.inj hz2]
      exact C1
  obtain ⟨hN, hf⟩ := hM.born (id := id) (n' := T.2.2.1 + 2) (I0 := fun k => ([x0, x1, x2, x3, x4, x0, (-1), (-1), (-1), 0, 0, 0] : List Int32).getD k 0) (ad0 := fun j => if j = 10 then T.2.2.1 + 1 else T.2.2.1) (hp' := y11) hz h64 h640 hrf hrf2 (by decide) hlt (by omega) hq1 hq2 hq3 (by rw [hoc]; show ¬ (0 : Int32) = 1; decide)
  exact ye_ret rfl rfl ⟨y11, _, _, _, rfl, hN, hf, by simp, by omega, by omega, by show 12 + _ ≤ 45; omega⟩
set_option maxRecDepth 20000 in
theorem ct_1 {F : xH} {ev : xEv} {prim : xRel} {d : Nat} {T : yT} (S : yS) (id : Nat) (x0 : Int32) (x1 : Int32) (x2 : Int32) (x3 : Int32) (hoc : oc id = 1) : ykC [0, 1, 2, 3, 4, 5, 6, 7] F ev prim (d + 1) 10 1 T S id [.int 0, .int 0, .int 0, .int 0, .int 0, .int 0, .int 0, .int 0, .int 0, .int 0, .null] [.int x0, .int x1, .int x2, .int x3] (fun k => ([x0, x1, x2, x3, 0, (-1), (-1), (-1), (-3), (-3), 0] : List Int32).getD k 0) := by
  intro hz h64 h640 hrf hrf2 hp hp1 hM Rhp1 Ohp1
  refine Exists.elim (yc_of (ev := ev) (prim := prim) (d := d) (j := 10) (av := .ref T.2.2.1 :: [.int x0, .int x1, .int x2, .int x3]) (hp := hp1) (sz := T.2.2.1 + 1) (r := fun q => ∃ hp' n' sl ad0, q = .inl (none, hp', n', sl) ∧ cR [0, 1, 2, 3, 4, 5, 6, 7] F ev (yTn T id ad0 n') (yNw S id (fun k => ([x0, x1, x2, x3, 0, (-1), (-1), (-1), (-3), (-3), 0] : List Int32).getD k 0)) hp' ∧ T.1 id = false ∧ ad0 0 = T.2.2.1 ∧ T.2.2.1 ≤ n' ∧ n' ≤ T.2.2.1 + 3 ∧ 11 + sl ≤ 45) (pg_10 ev) mi_10 (Nat.le_of_ble_eq_true rfl) (fun s hs => by obtain ⟨_, _, _, _, h, _⟩ := hs; cases h) ?_) (fun q hq0 => ?_)
  rotate_left 1
  · obtain ⟨hc, hp', n', sl, ad0, e, h1, h2, h3, h4, h5, h6⟩ := hq0
    have e2 := Sum.inl.inj e
    rw [e2] at hc
    exact ⟨hp', n', sl, ad0, hc, h1, h2, h3, h4, h5, h6⟩
  refine ye_aload rfl rfl ?_
  refine ye_p rfl rfl ?_
  refine ye_aload rfl rfl ?_
  refine ye_p rfl rfl ?_
  refine yw_rawp rfl Rhp1 (Nat.le_of_ble_eq_true rfl) rfl rfl (fun y1 Ry1 Oy1 => ?_)
  refine ye_aload rfl rfl ?_
  refine ye_p rfl rfl ?_
  refine yw_rawp rfl Ry1 (Nat.le_of_ble_eq_true rfl) rfl rfl (fun y2 Ry2 Oy2 => ?_)
  refine ye_aload rfl rfl ?_
  refine ye_p rfl rfl ?_
  refine yw_rawp rfl Ry2 (Nat.le_of_ble_eq_true rfl) rfl rfl (fun y3 Ry3 Oy3 => ?_)
  refine ye_aload rfl rfl ?_
  refine ye_p rfl rfl ?_
  refine yw_rawp rfl Ry3 (Nat.le_of_ble_eq_true rfl) rfl rfl (fun y4 Ry4 Oy4 => ?_)
  refine ye_aload rfl rfl ?_
  refine ye_p rfl rfl ?_
  refine yw_rawp rfl Ry4 (Nat.le_of_ble_eq_true rfl) rfl rfl (fun y5 Ry5 Oy5 => ?_)
  refine ye_aload rfl rfl ?_
  refine ye_p rfl rfl ?_
  refine yw_rawp rfl Ry5 (Nat.le_of_ble_eq_true rfl) rfl rfl (fun y6 Ry6 Oy6 => ?_)
  refine ye_aload rfl rfl ?_
  refine ye_iload rfl rfl ?_
  refine yw_rawp rfl Ry6 (Nat.le_of_ble_eq_true rfl) rfl rfl (fun y7 Ry7 Oy7 => ?_)
  refine ye_aload rfl rfl ?_
  refine ye_iload rfl rfl ?_
  refine yw_rawp rfl Ry7 (Nat.le_of_ble_eq_true rfl) rfl rfl (fun y8 Ry8 Oy8 => ?_)
  refine ye_aload rfl rfl ?_
  refine ye_iload rfl rfl ?_
  refine yw_rawp rfl Ry8 (Nat.le_of_ble_eq_true rfl) rfl rfl (fun y9 Ry9 Oy9 => ?_)
  refine ye_aload rfl rfl ?_
  refine ye_iload rfl rfl ?_
  refine yw_rawp rfl Ry9 (Nat.le_of_ble_eq_true rfl) rfl rfl (fun y10 Ry10 Oy10 => ?_)
  have hlt : ∀ b, b < T.2.2.1 → y10 b = hp b := fun b hb => (Oy10 b (by omega)).trans ((Oy9 b (by omega)).trans ((Oy8 b (by omega)).trans ((Oy7 b (by omega)).trans ((Oy6 b (by omega)).trans ((Oy5 b (by omega)).trans ((Oy4 b (by omega)).trans ((Oy3 b (by omega)).trans ((Oy2 b (by omega)).trans ((Oy1 b (by omega)).trans (Ohp1 b (by omega)))))))))))
  have hh : ∀ j, yHas id j → j = 0 := by
    intro j hj
    cases j with
    | zero => simp
    | succ k =>
      simp only [yHas, hoc] at hj
      exfalso
      revert hj
      simp [yRow, yTab, List.find?]
  have hq1 : ∀ j, yHas id j → T.2.2.1 ≤ (fun j => T.2.2.1) j ∧ (fun j => T.2.2.1) j < T.2.2.1 + 1 := by
    intro j hj
    rcases hh j hj with rfl <;> simp
  have hq2 : ∀ j j', yHas id j → yHas id j' → (fun j => T.2.2.1) j = (fun j => T.2.2.1) j' → j = j' := by
    intro j j' hj hj' he
    rcases hh j hj with rfl <;> rcases hh j' hj' with rfl <;> first | rfl | (exfalso; simp at he)
  have hq3 : ∀ j z, yCell ev (yTn T id (fun j => T.2.2.1) (T.2.2.1 + 1)) (yNw S id (fun k => ([x0, x1, x2, x3, 0, (-1), (-1), (-1), (-3), (-3), 0] : List Int32).getD k 0)) id j = some z → y10 ((fun j => T.2.2.1) j) = some z := by
    intro j z hz2
    have e1 : (yNw S id (fun k => ([x0, x1, x2, x3, 0, (-1), (-1), (-1), (-3), (-3), 0] : List Int32).getD k 0)).1 id = fun k => ([x0, x1, x2, x3, 0, (-1), (-1), (-1), (-3), (-3), 0] : List Int32).getD k 0 := by simp only [yNw, if_true]
    have e3 : (yNw S id (fun k => ([x0, x1, x2, x3, 0, (-1), (-1), (-1), (-3), (-3), 0] : List Int32).getD k 0)).2.1 id = fun _ _ => 0 := by simp only [yNw, if_true]
    have e2 : ∀ j, (yTn T id (fun j => T.2.2.1) (T.2.2.1 + 1)).2.1 id j = (fun j => T.2.2.1) j := fun j => by simp only [yTn, if_true]
    rcases hh j (yHas_of hz2) with rfl
    · simp only [yCell, hoc] at hz2
      rw [if_neg (by decide), e1] at hz2
      rw [← Option.some.inj hz2]
      show y10 T.2.2.1 = _
      rw [Ry10]
      simp only [yFl, occ, e2]
      rfl
  obtain ⟨hN, hf⟩ := hM.born (id := id) (n' := T.2.2.1 + 1) (I0 := fun k => ([x0, x1, x2, x3, 0, (-1), (-1), (-1), (-3), (-3), 0] : List Int32).getD k 0) (ad0 := fun j => T.2.2.1) (hp' := y10) hz h64 h640 hrf hrf2 (by decide) hlt (by omega) hq1 hq2 hq3 (by rw [hoc]; show ¬ (0 : Int32) = 1; decide)
  exact ye_ret rfl rfl ⟨y10, _, _, _, rfl, hN, hf, by simp, by omega, by omega, by show 11 + _ ≤ 45; omega⟩
