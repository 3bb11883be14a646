
def f_X7_readFields_38 (N : Nat) (k6 : yS → Int64 → Int32 → Option (Int32 × yS)) (S : yS) (l3 : Int64) (l5 : Int32) (t1 : Int32) (t2 : Int32) : Option (Int32 × yS) := gA 8 t1 fun j1 => sq (yA S 6 1 (upd (S.2.1 6 1) j1 t2)) fun S1 => k6 S1 (l3 / 9) (l5 + (-1))
set_option maxHeartbeats 4000000 in
set_option maxRecDepth 40000 in
theorem w_X7_readFields_38 {F : xH} {ev : xEv} {prim : xRel} {d sz : Nat} {T : yT} {v : Int32} {S' : yS} (N : Nat) (k6 : yS → Int64 → Int32 → Option (Int32 × yS)) (u6 : ∀ (S : yS) (l3 : Int64) (l5 : Int32) (hp : xH) (lv : xLv) (a0 : Nat) (fa0 : yAt T 7 6 0 a0) (g0 : xG lv 0 = some (.ref a0)) (g3 : xG lv 3 = some (.long l3)) (g5 : xG lv 5 = some (.int l5)) (hM : cR [0, 1, 2, 3, 4, 5, 6, 7] F ev T S hp) (h : k6 S l3 l5 = some (v, S')), yWE ev.2.1 (xstr ev) (xCalls ev xmi (xprog ev) prim (d + 0)) (pX7_readFields ev) (6, lv, [], hp, sz, 0) (ypQ [0, 1, 2, 3, 4, 5, 6, 7] F ev T sz (none) S')) (S : yS) (l3 : Int64) (l5 : Int32) (t1 : Int32) (t2 : Int32) (hp : xH) (lv : xLv) (a0 : Nat) (b0 : Nat) (fa0 : yAt T 7 6 0 a0) (fb0 : yAt T 7 6 2 b0) (g0 : xG lv 0 = some (.ref a0)) (g3 : xG lv 3 = some (.long l3)) (g5 : xG lv 5 = some (.int l5)) (hM : cR [0, 1, 2, 3, 4, 5, 6, 7] F ev T S hp) (h : f_X7_readFields_38 N k6 S l3 l5 t1 t2 = some (v, S')) : yWE ev.2.1 (xstr ev) (xCalls ev xmi (xprog ev) prim (d + 0)) (pX7_readFields ev) (38, lv, [.int t2, .int t1, .ref b0], hp, sz, 0) (ypQ [0, 1, 2, 3, 4, 5, 6, 7] F ev T sz (none) S') := by
  unfold f_X7_readFields_38 at h
  obtain ⟨j1, ej1, ij1, h⟩ := gA_some h
  obtain ⟨S1, eS1, h⟩ := sq_some h
  refine yw_ast rfl hM fb0 yr_7_1 (by decide) ij1 ej1 eS1 (fun y1 M1 => ?_)
  refine ye_lload rfl g3 ?_
  refine ye_p rfl rfl ?_
  refine ye_ldiv rfl (by decide) ?_
  refine ye_p rfl rfl ?_
  have g0_z1 := xG_o2 (i := 3) (v := .long (l3 / 9)) g0 rfl
  have g5_z1 := xG_o2 (i := 3) (v := .long (l3 / 9)) g5 rfl
  have g3_z1 := xG_same2 lv 3 (.long (l3 / 9))
  generalize xSt2 lv 3 (.long (l3 / 9)) = lvz1 at g0_z1 g5_z1 g3_z1 ⊢
  refine ye_iinc rfl g5_z1 ?_
  have g0_z2 := xG_o1 (i := 5) (v := .int (l5 + (-1))) g0_z1 rfl
  have g3_z2 := xG_o1 (i := 5) (v := .int (l5 + (-1))) g3_z1 rfl
  have g5_z2 := xG_same lvz1 5 (.int (l5 + (-1)))
  generalize xSt1 lvz1 5 (.int (l5 + (-1))) = lvz2 at g0_z2 g3_z2 g5_z2 ⊢
  refine ye_p rfl rfl ?_
  exact u6 S1 (l3 / 9) (l5 + (-1)) y1 lvz2 a0 fa0 g0_z2 g3_z2 g5_z2 M1 h

def f_X7_readFields_6 : Nat → Nat → yS → Int64 → Int32 → Option (Int32 × yS)
  | 0, _, _, _, _ => none
  | n + 1, N, S, l3, l5 => if l5 < 0 then some (0, S) else if ¬ ((l3 - l3 / 9 * 9).toInt32) = 8 then f_X7_readFields_38 N (fun S l3 l5 => f_X7_readFields_6 n N S l3 l5) S l3 l5 l5 ((l3 - l3 / 9 * 9).toInt32) else f_X7_readFields_38 N (fun S l3 l5 => f_X7_readFields_6 n N S l3 l5) S l3 l5 l5 ((-1))
set_option maxHeartbeats 4000000 in
set_option maxRecDepth 40000 in
theorem w_X7_readFields_6 {F : xH} {ev : xEv} {prim : xRel} {d sz : Nat} {T : yT} {v : Int32} {S' : yS} (N : Nat) (n : Nat) : ∀ (S : yS) (l3 : Int64) (l5 : Int32) (hp : xH) (lv : xLv) (a0 : Nat) (fa0 : yAt T 7 6 0 a0) (g0 : xG lv 0 = some (.ref a0)) (g3 : xG lv 3 = some (.long l3)) (g5 : xG lv 5 = some (.int l5)) (hM : cR [0, 1, 2, 3, 4, 5, 6, 7] F ev T S hp) (h : f_X7_readFields_6 n N S l3 l5 = some (v, S')), yWE ev.2.1 (xstr ev) (xCalls ev xmi (xprog ev) prim (d + 0)) (pX7_readFields ev) (6, lv, [], hp, sz, 0) (ypQ [0, 1, 2, 3, 4, 5, 6, 7] F ev T sz (none) S') := by
  induction n with
  | zero => intro S l3 l5 hp lv a0 fa0 g0 g3 g5 hM h; exact n_some h
  | succ n ih =>
    intro S l3 l5 hp lv a0 fa0 g0 g3 g5 hM h
    unfold f_X7_readFields_6 at h
    refine ye_iload rfl g5 ?_
    refine ye_if_lt rfl (fun h1 => ?_) (fun h1 => ?_)
    · replace h := yiT h1 h
      exact ye_ret rfl rfl (rQV h hM)
    · replace h := yiN h1 h
      refine ye_lload rfl g3 ?_
      refine ye_p rfl rfl ?_
      refine ye_ldiv rfl (by decide) ?_
      refine ye_p rfl rfl ?_
      refine ye_p rfl rfl ?_
      have g0_z1 := xG_o1 (i := 6) (v := .int ((l3 - l3 / 9 * 9).toInt32)) g0 rfl
      have g3_z1 := xG_o1 (i := 6) (v := .int ((l3 - l3 / 9 * 9).toInt32)) g3 rfl
      have g5_z1 := xG_o1 (i := 6) (v := .int ((l3 - l3 / 9 * 9).toInt32)) g5 rfl
      have g6_z1 := xG_same lv 6 (.int ((l3 - l3 / 9 * 9).toInt32))
      generalize xSt1 lv 6 (.int ((l3 - l3 / 9 * 9).toInt32)) = lvz1 at g0_z1 g3_z1 g5_z1 g6_z1 ⊢
      refine ye_aload rfl g0_z1 ?_
      refine ye_getr rfl (hM.obj fa0 ⟨rfl, rfl⟩) rfl (fun cx1 ecx1 => ?_)
      have fcx1 := yAt.row fa0 ecx1
      refine ye_iload rfl g5_z1 ?_
      refine ye_iload rfl g6_z1 ?_
      refine ye_p rfl rfl ?_
      refine ye_icmp_ne rfl (fun h2 => ?_) (fun h2 => ?_)
      · replace h := yiT h2 h
        refine ye_iload rfl g6_z1 ?_
        exact w_X7_readFields_38 (prim := prim) (d := d) N (fun S l3 l5 => f_X7_readFields_6 n N S l3 l5) ih S l3 l5 l5 ((l3 - l3 / 9 * 9).toInt32) hp lvz1 a0 cx1 fa0 fcx1 g0_z1 g3_z1 g5_z1 hM h
      · replace h := yiN h2 h
        refine ye_p rfl rfl ?_
        refine ye_p rfl rfl ?_
        exact w_X7_readFields_38 (prim := prim) (d := d) N (fun S l3 l5 => f_X7_readFields_6 n N S l3 l5) ih S l3 l5 l5 ((-1)) hp lvz1 a0 cx1 fa0 fcx1 g0_z1 g3_z1 g5_z1 hM h

def f_X7_readFields_0 (N : Nat) (S : yS) (l1 : Int64) : Option (Int32 × yS) := f_X7_readFields_6 N N S l1 7
set_option maxHeartbeats 4000000 in
set_option maxRecDepth 40000 in
theorem w_X7_readFields_0 {F : xH} {ev : xEv} {prim : xRel} {d sz : Nat} {T : yT} {v : Int32} {S' : yS} (N : Nat) (S : yS) (l1 : Int64) (hp : xH) (lv : xLv) (a0 : Nat) (fa0 : yAt T 7 6 0 a0) (g0 : xG lv 0 = some (.ref a0)) (g1 : xG lv 1 = some (.long l1)) (hM : cR [0, 1, 2, 3, 4, 5, 6, 7] F ev T S hp) (h : f_X7_readFields_0 N S l1 = some (v, S')) : yWE ev.2.1 (xstr ev) (xCalls ev xmi (xprog ev) prim (d + 0)) (pX7_readFields ev) (0, lv, [], hp, sz, 0) (ypQ [0, 1, 2, 3, 4, 5, 6, 7] F ev T sz (none) S') := by
  unfold f_X7_readFields_0 at h
  refine ye_lload rfl g1 ?_
  refine ye_p rfl rfl ?_
  have g0_z1 := xG_o2 (i := 3) (v := .long l1) g0 rfl
  have g3_z1 := xG_same2 lv 3 (.long l1)
  generalize xSt2 lv 3 (.long l1) = lvz1 at g0_z1 g3_z1 ⊢
  refine ye_p rfl rfl ?_
  refine ye_p rfl rfl ?_
  have g0_z2 := xG_o1 (i := 5) (v := .int 7) g0_z1 rfl
  have g3_z2 := xG_o1 (i := 5) (v := .int 7) g3_z1 rfl
  have g5_z2 := xG_same lvz1 5 (.int 7)
  generalize xSt1 lvz1 5 (.int 7) = lvz2 at g0_z2 g3_z2 g5_z2 ⊢
  exact w_X7_readFields_6 (prim := prim) (d := d) N N S l1 7 hp lvz2 a0 fa0 g0_z2 g3_z2 g5_z2 hM h
def f_X7_readFields (N : Nat) (S : yS) (xl1 : Int64) : Option (Int32 × yS) := f_X7_readFields_0 N S xl1
theorem m_X7_readFields {F : xH} {ev : xEv} {prim : xRel} {d : Nat} {T : yT} {v : Int32} {S' : yS} (N : Nat) (S : yS) (xl1 : Int64) (a0 : Nat) (fa0 : yAt T 7 6 0 a0) (h : f_X7_readFields N S xl1 = some (v, S')) : ykQ [0, 1, 2, 3, 4, 5, 6, 7] F ev prim (d + 1) 310 T S [.ref a0, .long xl1] (none) S' :=
  ykQ.of (pg_310 ev) mi_310 (Nat.le_of_ble_eq_true rfl) (fun hp sz hM => w_X7_readFields_0 (prim := prim) (d := d) N S xl1 hp _ a0 fa0 rfl rfl hM h)

def f_X12_any_52 (N : Nat) (rk : Nat → yS → Option (Int32 × yS)) (k5 : yS → Int32 → Option (Int32 × yS)) (S : yS) (t0 : Int32) : Option (Int32 × yS) := k5 S t0
set_option maxHeartbeats 4000000 in
set_option maxRecDepth 40000 in
theorem w_X12_any_52 {F : xH} {ev : xEv} {prim : xRel} {d sz : Nat} {T : yT} {v : Int32} {S' : yS} (N : Nat) (rk : Nat → yS → Option (Int32 × yS)) (hrec : ∀ (i : Nat) (S : yS) (v : Int32) (S' : yS), rk i S = some (v, S') → ∀ (a : Nat), yAt T 12 8 0 a → ykQ [8] F ev prim (d + 4) (235 + i) T S [.ref a] (some (.int v)) S') (k5 : yS → Int32 → Option (Int32 × yS)) (u5 : ∀ (S : yS) (l1 : Int32) (hp : xH) (lv : xLv) (a0 : Nat) (fa0 : yAt T 12 8 0 a0) (g0 : xG lv 0 = some (.ref a0)) (g1 : xG lv 1 = some (.int l1)) (hM : cR [8] F ev T S hp) (h : k5 S l1 = some (v, S')), yWE ev.2.1 (xstr ev) (xCalls ev xmi (xprog ev) prim (d + 4)) (pX12_any ev) (5, lv, [], hp, sz, 0) (ypQ [8] F ev T sz (some (.int v)) S')) (S : yS) (t0 : Int32) (hp : xH) (lv : xLv) (a0 : Nat) (fa0 : yAt T 12 8 0 a0) (g0 : xG lv 0 = some (.ref a0)) (hM : cR [8] F ev T S hp) (h : f_X12_any_52 N rk k5 S t0 = some (v, S')) : yWE ev.2.1 (xstr ev) (xCalls ev xmi (xprog ev) prim (d + 4)) (pX12_any ev) (52, lv, [.int t0], hp, sz, 0) (ypQ [8] F ev T sz (some (.int v)) S') := by
  unfold f_X12_any_52 at h
  refine ye_p rfl rfl ?_
  have g0_z1 := xG_o1 (i := 1) (v := .int t0) g0 rfl
  have g1_z1 := xG_same lv 1 (.int t0)
  generalize xSt1 lv 1 (.int t0) = lvz1 at g0_z1 g1_z1 ⊢
  refine ye_p rfl rfl ?_
  exact u5 S t0 hp lvz1 a0 fa0 g0_z1 g1_z1 hM h

def f_X12_any_43 (N : Nat) (rk : Nat → yS → Option (Int32 × yS)) (k5 : yS → Int32 → Option (Int32 × yS)) (S : yS) (t0 : Int32) (t1 : Int32) : Option (Int32 × yS) := if (t0 ||| t1) = 0 then f_X12_any_52 N rk k5 S 0 else f_X12_any_52 N rk k5 S 1
set_option maxHeartbeats 4000000 in
set_option maxRecDepth 40000 in
theorem w_X12_any_43 {F : xH} {ev : xEv} {prim : xRel} {d sz : Nat} {T : yT} {v : Int32} {S' : yS} (N : Nat) (rk : Nat → yS → Option (Int32 × yS)) (hrec : ∀ (i : Nat) (S : yS) (v : Int32) (S' : yS), rk i S = some (v, S') → ∀ (a : Nat), yAt T 12 8 0 a → ykQ [8] F ev prim (d + 4) (235 + i) T S [.ref a] (some (.int v)) S') (k5 : yS → Int32 → Option (Int32 × yS)) (u5 : ∀ (S : yS) (l1 : Int32) (hp : xH) (lv : xLv) (a0 : Nat) (fa0 : yAt T 12 8 0 a0) (g0 : xG lv 0 = some (.ref a0)) (g1 : xG lv 1 = some (.int l1)) (hM : cR [8] F ev T S hp) (h : k5 S l1 = some (v, S')), yWE ev.2.1 (xstr ev) (xCalls ev xmi (xprog ev) prim (d + 4)) (pX12_any ev) (5, lv, [], hp, sz, 0) (ypQ [8] F ev T sz (some (.int v)) S')) (S : yS) (t0 : Int32) (t1 : Int32) (hp : xH) (lv : xLv) (a0 : Nat) (fa0 : yAt T 12 8 0 a0) (g0 : xG lv 0 = some (.ref a0)) (hM : cR [8] F ev T S hp) (h : f_X12_any_43 N rk k5 S t0 t1 = some (v, S')) : yWE ev.2.1 (xstr ev) (xCalls ev xmi (xprog ev) prim (d + 4)) (pX12_any ev) (43, lv, [.int t1, .int t0], hp, sz, 0) (ypQ [8] F ev T sz (some (.int v)) S') := by
  unfold f_X12_any_43 at h
  refine ye_p rfl rfl ?_
  refine ye_if_eq rfl (fun h1 => ?_) (fun h1 => ?_)
  · replace h := yiT h1 h
    refine ye_p rfl rfl ?_
    exact w_X12_any_52 (prim := prim) (d := d) N rk hrec k5 u5 S 0 hp lv a0 fa0 g0 hM h
  · replace h := yiN h1 h
    refine ye_p rfl rfl ?_
    refine ye_p rfl rfl ?_
    exact w_X12_any_52 (prim := prim) (d := d) N rk hrec k5 u5 S 1 hp lv a0 fa0 g0 hM h

def f_X12_any_34 (N : Nat) (rk : Nat → yS → Option (Int32 × yS)) (k5 : yS → Int32 → Option (Int32 × yS)) (S : yS) (l1 : Int32) (t0 : Int32) : Option (Int32 × yS) := if l1 = 0 then f_X12_any_43 N rk k5 S t0 0 else f_X12_any_43 N rk k5 S t0 1
set_option maxHeartbeats 4000000 in
set_option maxRecDepth 40000 in
theorem w_X12_any_34 {F : xH} {ev : xEv} {prim : xRel} {d sz : Nat} {T : yT} {v : Int32} {S' : yS} (N : Nat) (rk : Nat → yS → Option (Int32 × yS)) (hrec : ∀ (i : Nat) (S : yS) (v : Int32) (S' : yS), rk i S = some (v, S') → ∀ (a : Nat), yAt T 12 8 0 a → ykQ [8] F ev prim (d + 4) (235 + i) T S [.ref a] (some (.int v)) S') (k5 : yS → Int32 → Option (Int32 × yS)) (u5 : ∀ (S : yS) (l1 : Int32) (hp : xH) (lv : xLv) (a0 : Nat) (fa0 : yAt T 12 8 0 a0) (g0 : xG lv 0 = some (.ref a0)) (g1 : xG lv 1 = some (.int l1)) (hM : cR [8] F ev T S hp) (h : k5 S l1 = some (v, S')), yWE ev.2.1 (xstr ev) (xCalls ev xmi (xprog ev) prim (d + 4)) (pX12_any ev) (5, lv, [], hp, sz, 0) (ypQ [8] F ev T sz (some (.int v)) S')) (S : yS) (l1 : Int32) (t0 : Int32) (hp : xH) (lv : xLv) (a0 : Nat) (fa0 : yAt T 12 8 0 a0) (g0 : xG lv 0 = some (.ref a0)) (g1 : xG lv 1 = some (.int l1)) (hM : cR [8] F ev T S hp) (h : f_X12_any_34 N rk k5 S l1 t0 = some (v, S')) : yWE ev.2.1 (xstr ev) (xCalls ev xmi (xprog ev) prim (d + 4)) (pX12_any ev) (34, lv, [.int t0], hp, sz, 0) (ypQ [8] F ev T sz (some (.int v)) S') := by
  unfold f_X12_any_34 at h
  refine ye_iload rfl g1 ?_
  refine ye_if_eq rfl (fun h1 => ?_) (fun h1 => ?_)
  · replace h := yiT h1 h
    refine ye_p rfl rfl ?_
    exact w_X12_any_43 (prim := prim) (d := d) N rk hrec k5 u5 S t0 0 hp lv a0 fa0 g0 hM h
  · replace h := yiN h1 h
    refine ye_p rfl rfl ?_
    refine ye_p rfl rfl ?_
    exact w_X12_any_43 (prim := prim) (d := d) N rk hrec k5 u5 S t0 1 hp lv a0 fa0 g0 hM h

def f_X12_any_56 (N : Nat) (rk : Nat → yS → Option (Int32 × yS)) (S : yS) (l1 : Int32) : Option (Int32 × yS) := some (l1, S)
set_option maxHeartbeats 4000000 in
set_option maxRecDepth 40000 in
theorem w_X12_any_56 {F : xH} {ev : xEv} {prim : xRel} {d sz : Nat} {T : yT} {v : Int32} {S' : yS} (N : Nat) (rk : Nat → yS → Option (Int32 × yS)) (hrec : ∀ (i : Nat) (S : yS) (v : Int32) (S' : yS), rk i S = some (v, S') → ∀ (a : Nat), yAt T 12 8 0 a → ykQ [8] F ev prim (d + 4) (235 + i) T S [.ref a] (some (.int v)) S') (S : yS) (l1 : Int32) (hp : xH) (lv : xLv) (g1 : xG lv 1 = some (.int l1)) (hM : cR [8] F ev T S hp) (h : f_X12_any_56 N rk S l1 = some (v, S')) : yWE ev.2.1 (xstr ev) (xCalls ev xmi (xprog ev) prim (d + 4)) (pX12_any ev) (56, lv, [], hp, sz, 0) (ypQ [8] F ev T sz (some (.int v)) S') := by
  unfold f_X12_any_56 at h
  refine ye_iload rfl g1 ?_
  exact ye_ret rfl rfl (rQ h hM)

def f_X12_any_5 : Nat → Nat → (Nat → yS → Option (Int32 × yS)) → yS → Int32 → Option (Int32 × yS)
  | 0, _, _, _, _ => none
  | n + 1, N, rk, S, l1 => if ¬ (S.1 8 54) = ((-1)) then f_X12_any_56 N rk S l1 else bS (f_X12_comes N S 124) fun w1 S1 => if w1 = 0 then f_X12_any_56 N rk S1 l1 else bS (rk 1 S1) fun w2 S2 => if w2 = 0 then f_X12_any_34 N rk (fun S l1 => f_X12_any_5 n N rk S l1) S2 l1 0 else f_X12_any_34 N rk (fun S l1 => f_X12_any_5 n N rk S l1) S2 l1 1
set_option maxHeartbeats 4000000 in
set_option maxRecDepth 40000 in
theorem w_X12_any_5 {F : xH} {ev : xEv} {prim : xRel} {d sz : Nat} {T : yT} {v : Int32} {S' : yS} (N : Nat) (rk : Nat → yS → Option (Int32 × yS)) (hrec : ∀ (i : Nat) (S : yS) (v : Int32) (S' : yS), rk i S = some (v, S') → ∀ (a : Nat), yAt T 12 8 0 a → ykQ [8] F ev prim (d + 4) (235 + i) T S [.ref a] (some (.int v)) S') (n : Nat) : ∀ (S : yS) (l1 : Int32) (hp : xH) (lv : xLv) (a0 : Nat) (fa0 : yAt T 12 8 0 a0) (g0 : xG lv 0 = some (.ref a0)) (g1 : xG lv 1 = some (.int l1)) (hM : cR [8] F ev T S hp) (h : f_X12_any_5 n N rk S l1 = some (v, S')), yWE ev.2.1 (xstr ev) (xCalls ev xmi (xprog ev) prim (d + 4)) (pX12_any ev) (5, lv, [], hp, sz, 0) (ypQ [8] F ev T sz (some (.int v)) S') := by
  induction n with
  | zero => intro S l1 hp lv a0 fa0 g0 g1 hM h; exact n_some h
  | succ n ih =>
    intro S l1 hp lv a0 fa0 g0 g1 hM h
    unfold f_X12_any_5 at h
    refine ye_aload rfl g0 ?_
    refine ye_getf rfl (hM.obj fa0 ⟨rfl, rfl⟩) rfl ?_
    refine ye_p rfl rfl ?_
    refine ye_icmp_ne rfl (fun h1 => ?_) (fun h1 => ?_)
    · replace h := yiT h1 h
      exact w_X12_any_56 (prim := prim) (d := d) N rk hrec S l1 hp lv g1 hM h
    · replace h := yiN h1 h
      refine ye_aload rfl g0 ?_
      refine ye_p rfl rfl ?_
      obtain ⟨w1, S1, hw1, h⟩ := bS_some h
      obtain ⟨y1, cy1, M1⟩ := (m_X12_comes (d := d + 2) (T := T) N S 124 a0 fa0 hw1) hp sz hM
      refine ye_callV (As := [.int 124]) (rest := []) 0 (Or.inl rfl) rfl rfl rfl (Nat.le_of_ble_eq_true rfl) (hM.obj fa0 ⟨rfl, rfl⟩) cy1 ?_
      refine ye_if_eq rfl (fun h2 => ?_) (fun h2 => ?_)
      · replace h := yiT h2 h
        exact w_X12_any_56 (prim := prim) (d := d) N rk hrec S1 l1 y1 lv g1 M1 h
      · replace h := yiN h2 h
        refine ye_aload rfl g0 ?_
        obtain ⟨w2, S2, hw2, h⟩ := bS_some h
        obtain ⟨y2, cy2, M2⟩ := (hrec 1 S1 _ _ hw2 a0 fa0) y1 sz M1
        refine ye_callV (As := []) (rest := []) 0 (Or.inl rfl) rfl rfl rfl (Nat.le_of_ble_eq_true rfl) (M1.obj fa0 ⟨rfl, rfl⟩) cy2 ?_
        refine ye_if_eq rfl (fun h3 => ?_) (fun h3 => ?_)
        · replace h := yiT h3 h
          refine ye_p rfl rfl ?_
          exact w_X12_any_34 (prim := prim) (d := d) N rk hrec (fun S l1 => f_X12_any_5 n N rk S l1) ih S2 l1 0 y2 lv a0 fa0 g0 g1 M2 h
        · replace h := yiN h3 h
          refine ye_p rfl rfl ?_
          refine ye_p rfl rfl ?_
          exact w_X12_any_34 (prim := prim) (d := d) N rk hrec (fun S l1 => f_X12_any_5 n N rk S l1) ih S2 l1 1 y2 lv a0 fa0 g0 g1 M2 h

def f_X12_any_0 (N : Nat) (rk : Nat → yS → Option (Int32 × yS)) (S : yS) : Option (Int32 × yS) := bS (rk 1 S) fun w1 S1 => f_X12_any_5 N N rk S1 w1
set_option maxHeartbeats 4000000 in
set_option maxRecDepth 40000 in
theorem w_X12_any_0 {F : xH} {ev : xEv} {prim : xRel} {d sz : Nat} {T : yT} {v : Int32} {S' : yS} (N : Nat) (rk : Nat → yS → Option (Int32 × yS)) (hrec : ∀ (i : Nat) (S : yS) (v : Int32) (S' : yS), rk i S = some (v, S') → ∀ (a : Nat), yAt T 12 8 0 a → ykQ [8] F ev prim (d + 4) (235 + i) T S [.ref a] (some (.int v)) S') (S : yS) (hp : xH) (lv : xLv) (a0 : Nat) (fa0 : yAt T 12 8 0 a0) (g0 : xG lv 0 = some (.ref a0)) (hM : cR [8] F ev T S hp) (h : f_X12_any_0 N rk S = some (v, S')) : yWE ev.2.1 (xstr ev) (xCalls ev xmi (xprog ev) prim (d + 4)) (pX12_any ev) (0, lv, [], hp, sz, 0) (ypQ [8] F ev T sz (some (.int v)) S') := by
  unfold f_X12_any_0 at h
  refine ye_aload rfl g0 ?_
  obtain ⟨w1, S1, hw1, h⟩ := bS_some h
  obtain ⟨y1, cy1, M1⟩ := (hrec 1 S _ _ hw1 a0 fa0) hp sz hM
  refine ye_callV (As := []) (rest := []) 0 (Or.inl rfl) rfl rfl rfl (Nat.le_of_ble_eq_true rfl) (hM.obj fa0 ⟨rfl, rfl⟩) cy1 ?_
  refine ye_p rfl rfl ?_
  have g0_z1 := xG_o1 (i := 1) (v := .int w1) g0 rfl
  have g1_z1 := xG_same lv 1 (.int w1)
  generalize xSt1 lv 1 (.int w1) = lvz1 at g0_z1 g1_z1 ⊢
  exact w_X12_any_5 (prim := prim) (d := d) N rk hrec N S1 w1 y1 lvz1 a0 fa0 g0_z1 g1_z1 M1 h
def f_X12_any (N : Nat) (rk : Nat → yS → Option (Int32 × yS)) (S : yS) : Option (Int32 × yS) := f_X12_any_0 N rk S
theorem m_X12_any {F : xH} {ev : xEv} {prim : xRel} {d : Nat} {T : yT} {v : Int32} {S' : yS} (N : Nat) (rk : Nat → yS → Option (Int32 × yS)) (hrec : ∀ (i : Nat) (S : yS) (v : Int32) (S' : yS), rk i S = some (v, S') → ∀ (a : Nat), yAt T 12 8 0 a → ykQ [8] F ev prim (d + 4) (235 + i) T S [.ref a] (some (.int v)) S') (S : yS) (a0 : Nat) (fa0 : yAt T 12 8 0 a0) (h : f_X12_any N rk S = some (v, S')) : ykQ [8] F ev prim (d + 5) 235 T S [.ref a0] (some (.int v)) S' :=
  ykQ.of (pg_235 ev) mi_235 (Nat.le_of_ble_eq_true rfl) (fun hp sz hM => w_X12_any_0 (prim := prim) (d := d) N rk hrec S hp _ a0 fa0 rfl hM h)

def f_X12_both_52 (N : Nat) (rk : Nat → yS → Option (Int32 × yS)) (k5 : yS → Int32 → Option (Int32 × yS)) (S : yS) (t0 : Int32) : Option (Int32 × yS) := k5 S t0
set_option maxHeartbeats 4000000 in
set_option maxRecDepth 40000 in
theorem w_X12_both_52 {F : xH} {ev : xEv} {prim : xRel} {d sz : Nat} {T : yT} {v : Int32} {S' : yS} (N : Nat) (rk : Nat → yS → Option (Int32 × yS)) (hrec : ∀ (i : Nat) (S : yS) (v : Int32) (S' : yS), rk i S = some (v, S') → ∀ (a : Nat), yAt T 12 8 0 a → ykQ [8] F ev prim (d + 4) (235 + i) T S [.ref a] (some (.int v)) S') (k5 : yS → Int32 → Option (Int32 × yS)) (u5 : ∀ (S : yS) (l1 : Int32) (hp : xH) (lv : xLv) (a0 : Nat) (fa0 : yAt T 12 8 0 a0) (g0 : xG lv 0 = some (.ref a0)) (g1 : xG lv 1 = some (.int l1)) (hM : cR [8] F ev T S hp) (h : k5 S l1 = some (v, S')), yWE ev.2.1 (xstr ev) (xCalls ev xmi (xprog ev) prim (d + 4)) (pX12_both ev) (5, lv, [], hp, sz, 0) (ypQ [8] F ev T sz (some (.int v)) S')) (S : yS) (t0 : Int32) (hp : xH) (lv : xLv) (a0 : Nat) (fa0 : yAt T 12 8 0 a0) (g0 : xG lv 0 = some (.ref a0)) (hM : cR [8] F ev T S hp) (h : f_X12_both_52 N rk k5 S t0 = some (v, S')) : yWE ev.2.1 (xstr ev) (xCalls ev xmi (xprog ev) prim (d + 4)) (pX12_both ev) (52, lv, [.int t0], hp, sz, 0) (ypQ [8] F ev T sz (some (.int v)) S') := by
  unfold f_X12_both_52 at h
  refine ye_p rfl rfl ?_
  have g0_z1 := xG_o1 (i := 1) (v := .int t0) g0 rfl
  have g1_z1 := xG_same lv 1 (.int t0)
  generalize xSt1 lv 1 (.int t0) = lvz1 at g0_z1 g1_z1 ⊢
  refine ye_p rfl rfl ?_
  exact u5 S t0 hp lvz1 a0 fa0 g0_z1 g1_z1 hM h

def f_X12_both_43 (N : Nat) (rk : Nat → yS → Option (Int32 × yS)) (k5 : yS → Int32 → Option (Int32 × yS)) (S : yS) (t0 : Int32) (t1 : Int32) : Option (Int32 × yS) := if (t0 &&& t1) = 0 then f_X12_both_52 N rk k5 S 0 else f_X12_both_52 N rk k5 S 1
set_option maxHeartbeats 4000000 in
set_option maxRecDepth 40000 in
theorem w_X12_both_43 {F : xH} {ev : xEv} {prim : xRel} {d sz : Nat} {T : yT} {v : Int32} {S' : yS} (N : Nat) (rk : Nat → yS → Option (Int32 × yS)) (hrec : ∀ (i : Nat) (S : yS) (v : Int32) (S' : yS), rk i S = some (v, S') → ∀ (a : Nat), yAt T 12 8 0 a → ykQ [8] F ev prim (d + 4) (235 + i) T S [.ref a] (some (.int v)) S') (k5 : yS → Int32 → Option (Int32 × yS)) (u5 : ∀ (S : yS) (l1 : Int32) (hp : xH) (lv : xLv) (a0 : Nat) (fa0 : yAt T 12 8 0 a0) (g0 : xG lv 0 = some (.ref a0)) (g1 : xG lv 1 = some (.int l1)) (hM : cR [8] F ev T S hp) (h : k5 S l1 = some (v, S')), yWE ev.2.1 (xstr ev) (xCalls ev xmi (xprog ev) prim (d + 4)) (pX12_both ev) (5, lv, [], hp, sz, 0) (ypQ [8] F ev T sz (some (.int v)) S')) (S : yS) (t0 : Int32) (t1 : Int32) (hp : xH) (lv : xLv) (a0 : Nat) (fa0 : yAt T 12 8 0 a0) (g0 : xG lv 0 = some (.ref a0)) (hM : cR [8] F ev T S hp) (h : f_X12_both_43 N rk k5 S t0 t1 = some (v, S')) : yWE ev.2.1 (xstr ev) (xCalls ev xmi (xprog ev) prim (d + 4)) (pX12_both ev) (43, lv, [.int t1, .int t0], hp, sz, 0) (ypQ [8] F ev T sz (some (.int v)) S') := by
  unfold f_X12_both_43 at h
  refine ye_p rfl rfl ?_
  refine ye_if_eq rfl (fun h1 => ?_) (fun h1 => ?_)
  · replace h := yiT h1 h
    refine ye_p rfl rfl ?_
    exact w_X12_both_52 (prim := prim) (d := d) N rk hrec k5 u5 S 0 hp lv a0 fa0 g0 hM h
  · replace h := yiN h1 h
    refine ye_p rfl rfl ?_
    refine ye_p rfl rfl ?_
    exact w_X12_both_52 (prim := prim) (d := d) N rk hrec k5 u5 S 1 hp lv a0 fa0 g0 hM h

def f_X12_both_34 (N : Nat) (rk : Nat → yS → Option (Int32 × yS)) (k5 : yS → Int32 → Option (Int32 × yS)) (S : yS) (l1 : Int32) (t0 : Int32) : Option (Int32 × yS) := if l1 = 0 then f_X12_both_43 N rk k5 S t0 0 else f_X12_both_43 N rk k5 S t0 1
set_option maxHeartbeats 4000000 in
set_option maxRecDepth 40000 in
theorem w_X12_both_34 {F : xH} {ev : xEv} {prim : xRel} {d sz : Nat} {T : yT} {v : Int32} {S' : yS} (N : Nat) (rk : Nat → yS → Option (Int32 × yS)) (hrec : ∀ (i : Nat) (S : yS) (v : Int32) (S' : yS), rk i S = some (v, S') → ∀ (a : Nat), yAt T 12 8 0 a → ykQ [8] F ev prim (d + 4) (235 + i) T S [.ref a] (some (.int v)) S') (k5 : yS → Int32 → Option (Int32 × yS)) (u5 : ∀ (S : yS) (l1 : Int32) (hp : xH) (lv : xLv) (a0 : Nat) (fa0 : yAt T 12 8 0 a0) (g0 : xG lv 0 = some (.ref a0)) (g1 : xG lv 1 = some (.int l1)) (hM : cR [8] F ev T S hp) (h : k5 S l1 = some (v, S')), yWE ev.2.1 (xstr ev) (xCalls ev xmi (xprog ev) prim (d + 4)) (pX12_both ev) (5, lv, [], hp, sz, 0) (ypQ [8] F ev T sz (some (.int v)) S')) (S : yS) (l1 : Int32) (t0 : Int32) (hp : xH) (lv : xLv) (a0 : Nat) (fa0 : yAt T 12 8 0 a0) (g0 : xG lv 0 = some (.ref a0)) (g1 : xG lv 1 = some (.int l1)) (hM : cR [8] F ev T S hp) (h : f_X12_both_34 N rk k5 S l1 t0 = some (v, S')) : yWE ev.2.1 (xstr ev) (xCalls ev xmi (xprog ev) prim (d + 4)) (pX12_both ev) (34, lv, [.int t0], hp, sz, 0) (ypQ [8] F ev T sz (some (.int v)) S') := by
  unfold f_X12_both_34 at h
  refine ye_iload rfl g1 ?_
  refine ye_if_eq rfl (fun h1 => ?_) (fun h1 => ?_)
  · replace h := yiT h1 h
    refine ye_p rfl rfl ?_
    exact w_X12_both_43 (prim := prim) (d := d) N rk hrec k5 u5 S t0 0 hp lv a0 fa0 g0 hM h
  · replace h := yiN h1 h
    refine ye_p rfl rfl ?_
    refine ye_p rfl rfl ?_
    exact w_X12_both_43 (prim := prim) (d := d) N rk hrec k5 u5 S t0 1 hp lv a0 fa0 g0 hM h

def f_X12_both_56 (N : Nat) (rk : Nat → yS → Option (Int32 × yS)) (S : yS) (l1 : Int32) : Option (Int32 × yS) := some (l1, S)
set_option maxHeartbeats 4000000 in
set_option maxRecDepth 40000 in
theorem w_X12_both_56 {F : xH} {ev : xEv} {prim : xRel} {d sz : Nat} {T : yT} {v : Int32} {S' : yS} (N : Nat) (rk : Nat → yS → Option (Int32 × yS)) (hrec : ∀ (i : Nat) (S : yS) (v : Int32) (S' : yS), rk i S = some (v, S') → ∀ (a : Nat), yAt T 12 8 0 a → ykQ [8] F ev prim (d + 4) (235 + i) T S [.ref a] (some (.int v)) S') (S : yS) (l1 : Int32) (hp : xH) (lv : xLv) (g1 : xG lv 1 = some (.int l1)) (hM : cR [8] F ev T S hp) (h : f_X12_both_56 N rk S l1 = some (v, S')) : yWE ev.2.1 (xstr ev) (xCalls ev xmi (xprog ev) prim (d + 4)) (pX12_both ev) (56, lv, [], hp, sz, 0) (ypQ [8] F ev T sz (some (.int v)) S') := by
  unfold f_X12_both_56 at h
  refine ye_iload rfl g1 ?_
  exact ye_ret rfl rfl (rQ h hM)

def f_X12_both_5 : Nat → Nat → (Nat → yS → Option (Int32 × yS)) → yS → Int32 → Option (Int32 × yS)
  | 0, _, _, _, _ => none
  | n + 1, N, rk, S, l1 => if ¬ (S.1 8 54) = ((-1)) then f_X12_both_56 N rk S l1 else bS (f_X12_comes N S 38) fun w1 S1 => if w1 = 0 then f_X12_both_56 N rk S1 l1 else bS (rk 2 S1) fun w2 S2 => if w2 = 0 then f_X12_both_34 N rk (fun S l1 => f_X12_both_5 n N rk S l1) S2 l1 0 else f_X12_both_34 N rk (fun S l1 => f_X12_both_5 n N rk S l1) S2 l1 1
set_option maxHeartbeats 4000000 in
set_option maxRecDepth 40000 in
theorem w_X12_both_5 {F : xH} {ev : xEv} {prim : xRel} {d sz : Nat} {T : yT} {v : Int32} {S' : yS} (N : Nat) (rk : Nat → yS → Option (Int32 × yS)) (hrec : ∀ (i : Nat) (S : yS) (v : Int32) (S' : yS), rk i S = some (v, S') → ∀ (a : Nat), yAt T 12 8 0 a → ykQ [8] F ev prim (d + 4) (235 + i) T S [.ref a] (some (.int v)) S') (n : Nat) : ∀ (S : yS) (l1 : Int32) (hp : xH) (lv : xLv) (a0 : Nat) (fa0 : yAt T 12 8 0 a0) (g0 : xG lv 0 = some (.ref a0)) (g1 : xG lv 1 = some (.int l1)) (hM : cR [8] F ev T S hp) (h : f_X12_both_5 n N rk S l1 = some (v, S')), yWE ev.2.1 (xstr ev) (xCalls ev xmi (xprog ev) prim (d + 4)) (pX12_both ev) (5, lv, [], hp, sz, 0) (ypQ [8] F ev T sz (some (.int v)) S') := by
  induction n with
  | zero => intro S l1 hp lv a0 fa0 g0 g1 hM h; exact n_some h
  | succ n ih =>
    intro S l1 hp lv a0 fa0 g0 g1 hM h
    unfold f_X12_both_5 at h
    refine ye_aload rfl g0 ?_
    refine ye_getf rfl (hM.obj fa0 ⟨rfl, rfl⟩) rfl ?_
    refine ye_p rfl rfl ?_
    refine ye_icmp_ne rfl (fun h1 => ?_) (fun h1 => ?_)
    · replace h := yiT h1 h
      exact w_X12_both_56 (prim := prim) (d := d) N rk hrec S l1 hp lv g1 hM h
    · replace h := yiN h1 h
      refine ye_aload rfl g0 ?_
      refine ye_p rfl rfl ?_
      obtain ⟨w1, S1, hw1, h⟩ := bS_some h
      obtain ⟨y1, cy1, M1⟩ := (m_X12_comes (d := d + 2) (T := T) N S 38 a0 fa0 hw1) hp sz hM
      refine ye_callV (As := [.int 38]) (rest := []) 0 (Or.inl rfl) rfl rfl rfl (Nat.le_of_ble_eq_true rfl) (hM.obj fa0 ⟨rfl, rfl⟩) cy1 ?_
      refine ye_if_eq rfl (fun h2 => ?_) (fun h2 => ?_)
      · replace h := yiT h2 h
        exact w_X12_both_56 (prim := prim) (d := d) N rk hrec S1 l1 y1 lv g1 M1 h
      · replace h := yiN h2 h
        refine ye_aload rfl g0 ?_
        obtain ⟨w2, S2, hw2, h⟩ := bS_some h
        obtain ⟨y2, cy2, M2⟩ := (hrec 2 S1 _ _ hw2 a0 fa0) y1 sz M1
        refine ye_callV (As := []) (rest := []) 0 (Or.inl rfl) rfl rfl rfl (Nat.le_of_ble_eq_true rfl) (M1.obj fa0 ⟨rfl, rfl⟩) cy2 ?_
        refine ye_if_eq rfl (fun h3 => ?_) (fun h3 => ?_)
        · replace h := yiT h3 h
          refine ye_p rfl rfl ?_
          exact w_X12_both_34 (prim := prim) (d := d) N rk hrec (fun S l1 => f_X12_both_5 n N rk S l1) ih S2 l1 0 y2 lv a0 fa0 g0 g1 M2 h
        · replace h := yiN h3 h
          refine ye_p rfl rfl ?_
          refine ye_p rfl rfl ?_
          exact w_X12_both_34 (prim := prim) (d := d) N rk hrec (fun S l1 => f_X12_both_5 n N rk S l1) ih S2 l1 1 y2 lv a0 fa0 g0 g1 M2 h

def f_X12_both_0 (N : Nat) (rk : Nat → yS → Option (Int32 × yS)) (S : yS) : Option (Int32 × yS) := bS (rk 2 S) fun w1 S1 => f_X12_both_5 N N rk S1 w1
set_option maxHeartbeats 4000000 in
set_option maxRecDepth 40000 in
theorem w_X12_both_0 {F : xH} {ev : xEv} {prim : xRel} {d sz : Nat} {T : yT} {v : Int32} {S' : yS} (N : Nat) (rk : Nat → yS → Option (Int32 × yS)) (hrec : ∀ (i : Nat) (S : yS) (v : Int32) (S' : yS), rk i S = some (v, S') → ∀ (a : Nat), yAt T 12 8 0 a → ykQ [8] F ev prim (d + 4) (235 + i) T S [.ref a] (some (.int v)) S') (S : yS) (hp : xH) (lv : xLv) (a0 : Nat) (fa0 : yAt T 12 8 0 a0) (g0 : xG lv 0 = some (.ref a0)) (hM : cR [8] F ev T S hp) (h : f_X12_both_0 N rk S = some (v, S')) : yWE ev.2.1 (xstr ev) (xCalls ev xmi (xprog ev) prim (d + 4)) (pX12_both ev) (0, lv, [], hp, sz, 0) (ypQ [8] F ev T sz (some (.int v)) S') := by
  unfold f_X12_both_0 at h
  refine ye_aload rfl g0 ?_
  obtain ⟨w1, S1, hw1, h⟩ := bS_some h
  obtain ⟨y1, cy1, M1⟩ := (hrec 2 S _ _ hw1 a0 fa0) hp sz hM
  refine ye_callV (As := []) (rest := []) 0 (Or.inl rfl) rfl rfl rfl (Nat.le_of_ble_eq_true rfl) (hM.obj fa0 ⟨rfl, rfl⟩) cy1 ?_
  refine ye_p rfl rfl ?_
  have g0_z1 := xG_o1 (i := 1) (v := .int w1) g0 rfl
  have g1_z1 := xG_same lv 1 (.int w1)
  generalize xSt1 lv 1 (.int w1) = lvz1 at g0_z1 g1_z1 ⊢
  exact w_X12_both_5 (prim := prim) (d := d) N rk hrec N S1 w1 y1 lvz1 a0 fa0 g0_z1 g1_z1 M1 h
def f_X12_both (N : Nat) (rk : Nat → yS → Option (Int32 × yS)) (S : yS) : Option (Int32 × yS) := f_X12_both_0 N rk S
theorem m_X12_both {F : xH} {ev : xEv} {prim : xRel} {d : Nat} {T : yT} {v : Int32} {S' : yS} (N : Nat) (rk : Nat → yS → Option (Int32 × yS)) (hrec : ∀ (i : Nat) (S : yS) (v : Int32) (S' : yS), rk i S = some (v, S') → ∀ (a : Nat), yAt T 12 8 0 a → ykQ [8] F ev prim (d + 4) (235 + i) T S [.ref a] (some (.int v)) S') (S : yS) (a0 : Nat) (fa0 : yAt T 12 8 0 a0) (h : f_X12_both N rk S = some (v, S')) : ykQ [8] F ev prim (d + 5) 236 T S [.ref a0] (some (.int v)) S' :=
  ykQ.of (pg_236 ev) mi_236 (Nat.le_of_ble_eq_true rfl) (fun hp sz hM => w_X12_both_0 (prim := prim) (d := d) N rk hrec S hp _ a0 fa0 rfl hM h)

def f_X12_held_37 (N : Nat) (rk : Nat → yS → Option (Int32 × yS)) (S : yS) (t0 : Int32) : Option (Int32 × yS) := some (t0, S)
set_option maxHeartbeats 4000000 in
set_option maxRecDepth 40000 in
theorem w_X12_held_37 {F : xH} {ev : xEv} {prim : xRel} {d sz : Nat} {T : yT} {v : Int32} {S' : yS} (N : Nat) (rk : Nat → yS → Option (Int32 × yS)) (hrec : ∀ (i : Nat) (S : yS) (v : Int32) (S' : yS), rk i S = some (v, S') → ∀ (a : Nat), yAt T 12 8 0 a → ykQ [8] F ev prim (d + 4) (235 + i) T S [.ref a] (some (.int v)) S') (S : yS) (t0 : Int32) (hp : xH) (lv : xLv) (hM : cR [8] F ev T S hp) (h : f_X12_held_37 N rk S t0 = some (v, S')) : yWE ev.2.1 (xstr ev) (xCalls ev xmi (xprog ev) prim (d + 4)) (pX12_held ev) (37, lv, [.int t0], hp, sz, 0) (ypQ [8] F ev T sz (some (.int v)) S') := by
  unfold f_X12_held_37 at h
  exact ye_ret rfl rfl (rQ h hM)

def f_X12_held_60 (N : Nat) (rk : Nat → yS → Option (Int32 × yS)) (S : yS) (t0 : Int32) : Option (Int32 × yS) := some (t0, S)
set_option maxHeartbeats 4000000 in
set_option maxRecDepth 40000 in
theorem w_X12_held_60 {F : xH} {ev : xEv} {prim : xRel} {d sz : Nat} {T : yT} {v : Int32} {S' : yS} (N : Nat) (rk : Nat → yS → Option (Int32 × yS)) (hrec : ∀ (i : Nat) (S : yS) (v : Int32) (S' : yS), rk i S = some (v, S') → ∀ (a : Nat), yAt T 12 8 0 a → ykQ [8] F ev prim (d + 4) (235 + i) T S [.ref a] (some (.int v)) S') (S : yS) (t0 : Int32) (hp : xH) (lv : xLv) (hM : cR [8] F ev T S hp) (h : f_X12_held_60 N rk S t0 = some (v, S')) : yWE ev.2.1 (xstr ev) (xCalls ev xmi (xprog ev) prim (d + 4)) (pX12_held ev) (60, lv, [.int t0], hp, sz, 0) (ypQ [8] F ev T sz (some (.int v)) S') := by
  unfold f_X12_held_60 at h
  exact ye_ret rfl rfl (rQ h hM)

def f_X12_held_83 (N : Nat) (rk : Nat → yS → Option (Int32 × yS)) (S : yS) (t0 : Int32) : Option (Int32 × yS) := some (t0, S)
set_option maxHeartbeats 4000000 in
set_option maxRecDepth 40000 in
theorem w_X12_held_83 {F : xH} {ev : xEv} {prim : xRel} {d sz : Nat} {T : yT} {v : Int32} {S' : yS} (N : Nat) (rk : Nat → yS → Option (Int32 × yS)) (hrec : ∀ (i : Nat) (S : yS) (v : Int32) (S' : yS), rk i S = some (v, S') → ∀ (a : Nat), yAt T 12 8 0 a → ykQ [8] F ev prim (d + 4) (235 + i) T S [.ref a] (some (.int v)) S') (S : yS) (t0 : Int32) (hp : xH) (lv : xLv) (hM : cR [8] F ev T S hp) (h : f_X12_held_83 N rk S t0 = some (v, S')) : yWE ev.2.1 (xstr ev) (xCalls ev xmi (xprog ev) prim (d + 4)) (pX12_held ev) (83, lv, [.int t0], hp, sz, 0) (ypQ [8] F ev T sz (some (.int v)) S') := by
  unfold f_X12_held_83 at h
  exact ye_ret rfl rfl (rQ h hM)

def f_X12_held_0 (N : Nat) (rk : Nat → yS → Option (Int32 × yS)) (S : yS) : Option (Int32 × yS) := bS (rk 3 S) fun w1 S1 => if (S1.1 8 54) = ((-1)) then bS (f_X12_comes N S1 60) fun w2 S2 => if w2 = 0 then bS (f_X12_comes N S2 62) fun w3 S3 => if w3 = 0 then bS (f_X12_comes N S3 61) fun w4 S4 => if w4 = 0 then some (w1, S4) else bS (rk 3 S4) fun w5 S5 => if ¬ w1 = w5 then f_X12_held_83 N rk S5 0 else f_X12_held_83 N rk S5 1 else bS (rk 3 S3) fun w6 S6 => if w1 ≤ w6 then f_X12_held_60 N rk S6 0 else f_X12_held_60 N rk S6 1 else bS (rk 3 S2) fun w7 S7 => if w7 ≤ w1 then f_X12_held_37 N rk S7 0 else f_X12_held_37 N rk S7 1 else some (0, S1)
set_option maxHeartbeats 4000000 in
set_option maxRecDepth 40000 in
theorem w_X12_held_0 {F : xH} {ev : xEv} {prim : xRel} {d sz : Nat} {T : yT} {v : Int32} {S' : yS} (N : Nat) (rk : Nat → yS → Option (Int32 × yS)) (hrec : ∀ (i : Nat) (S : yS) (v : Int32) (S' : yS), rk i S = some (v, S') → ∀ (a : Nat), yAt T 12 8 0 a → ykQ [8] F ev prim (d + 4) (235 + i) T S [.ref a] (some (.int v)) S') (S : yS) (hp : xH) (lv : xLv) (a0 : Nat) (fa0 : yAt T 12 8 0 a0) (g0 : xG lv 0 = some (.ref a0)) (hM : cR [8] F ev T S hp) (h : f_X12_held_0 N rk S = some (v, S')) : yWE ev.2.1 (xstr ev) (xCalls ev xmi (xprog ev) prim (d + 4)) (pX12_held ev) (0, lv, [], hp, sz, 0) (ypQ [8] F ev T sz (some (.int v)) S') := by
  unfold f_X12_held_0 at h
  refine ye_aload rfl g0 ?_
  obtain ⟨w1, S1, hw1, h⟩ := bS_some h
  obtain ⟨y1, cy1, M1⟩ := (hrec 3 S _ _ hw1 a0 fa0) hp sz hM
  refine ye_callV (As := []) (rest := []) 0 (Or.inl rfl) rfl rfl rfl (Nat.le_of_ble_eq_true rfl) (hM.obj fa0 ⟨rfl, rfl⟩) cy1 ?_
  refine ye_p rfl rfl ?_
  have g0_z1 := xG_o1 (i := 1) (v := .int w1) g0 rfl
  have g1_z1 := xG_same lv 1 (.int w1)
  generalize xSt1 lv 1 (.int w1) = lvz1 at g0_z1 g1_z1 ⊢
  refine ye_aload rfl g0_z1 ?_
  refine ye_getf rfl (M1.obj fa0 ⟨rfl, rfl⟩) rfl ?_
  refine ye_p rfl rfl ?_
  refine ye_icmp_eq rfl (fun h1 => ?_) (fun h1 => ?_)
  · replace h := yiT h1 h
    refine ye_aload rfl g0_z1 ?_
    refine ye_p rfl rfl ?_
    obtain ⟨w2, S2, hw2, h⟩ := bS_some h
    obtain ⟨y2, cy2, M2⟩ := (m_X12_comes (d := d + 2) (T := T) N S1 60 a0 fa0 hw2) y1 sz M1
    refine ye_callV (As := [.int 60]) (rest := []) 0 (Or.inl rfl) rfl rfl rfl (Nat.le_of_ble_eq_true rfl) (M1.obj fa0 ⟨rfl, rfl⟩) cy2 ?_
    refine ye_if_eq rfl (fun h2 => ?_) (fun h2 => ?_)
    · replace h := yiT h2 h
      refine ye_aload rfl g0_z1 ?_
      refine ye_p rfl rfl ?_
      obtain ⟨w3, S3, hw3, h⟩ := bS_some h
      obtain ⟨y3, cy3, M3⟩ := (m_X12_comes (d := d + 2) (T := T) N S2 62 a0 fa0 hw3) y2 sz M2
      refine ye_callV (As := [.int 62]) (rest := []) 0 (Or.inl rfl) rfl rfl rfl (Nat.le_of_ble_eq_true rfl) (M2.obj fa0 ⟨rfl, rfl⟩) cy3 ?_
      refine ye_if_eq rfl (fun h3 => ?_) (fun h3 => ?_)
      · replace h := yiT h3 h
        refine ye_aload rfl g0_z1 ?_
        refine ye_p rfl rfl ?_
        obtain ⟨w4, S4, hw4, h⟩ := bS_some h
        obtain ⟨y4, cy4, M4⟩ := (m_X12_comes (d := d + 2) (T := T) N S3 61 a0 fa0 hw4) y3 sz M3
        refine ye_callV (As := [.int 61]) (rest := []) 0 (Or.inl rfl) rfl rfl rfl (Nat.le_of_ble_eq_true rfl) (M3.obj fa0 ⟨rfl, rfl⟩) cy4 ?_
        refine ye_if_eq rfl (fun h4 => ?_) (fun h4 => ?_)
        · replace h := yiT h4 h
          refine ye_iload rfl g1_z1 ?_
          exact ye_ret rfl rfl (rQ h M4)
        · replace h := yiN h4 h
          refine ye_iload rfl g1_z1 ?_
          refine ye_aload rfl g0_z1 ?_
          obtain ⟨w5, S5, hw5, h⟩ := bS_some h
          obtain ⟨y5, cy5, M5⟩ := (hrec 3 S4 _ _ hw5 a0 fa0) y4 sz M4
          refine ye_callV (As := []) (rest := [.int w1]) 0 (Or.inl rfl) rfl rfl rfl (Nat.le_of_ble_eq_true rfl) (M4.obj fa0 ⟨rfl, rfl⟩) cy5 ?_
          refine ye_icmp_ne rfl (fun h5 => ?_) (fun h5 => ?_)
          · replace h := yiT h5 h
            refine ye_p rfl rfl ?_
            exact w_X12_held_83 (prim := prim) (d := d) N rk hrec S5 0 y5 lvz1 M5 h
          · replace h := yiN h5 h
            refine ye_p rfl rfl ?_
            refine ye_p rfl rfl ?_
            exact w_X12_held_83 (prim := prim) (d := d) N rk hrec S5 1 y5 lvz1 M5 h
      · replace h := yiN h3 h
        refine ye_iload rfl g1_z1 ?_
        refine ye_aload rfl g0_z1 ?_
        obtain ⟨w6, S6, hw6, h⟩ := bS_some h
        obtain ⟨y6, cy6, M6⟩ := (hrec 3 S3 _ _ hw6 a0 fa0) y3 sz M3
        refine ye_callV (As := []) (rest := [.int w1]) 0 (Or.inl rfl) rfl rfl rfl (Nat.le_of_ble_eq_true rfl) (M3.obj fa0 ⟨rfl, rfl⟩) cy6 ?_
        refine ye_icmp_le rfl (fun h6 => ?_) (fun h6 => ?_)
        · replace h := yiT h6 h
          refine ye_p rfl rfl ?_
          exact w_X12_held_60 (prim := prim) (d := d) N rk hrec S6 0 y6 lvz1 M6 h
        · replace h := yiN h6 h
          refine ye_p rfl rfl ?_
          refine ye_p rfl rfl ?_
          exact w_X12_held_60 (prim := prim) (d := d) N rk hrec S6 1 y6 lvz1 M6 h
    · replace h := yiN h2 h
      refine ye_iload rfl g1_z1 ?_
      refine ye_aload rfl g0_z1 ?_
      obtain ⟨w7, S7, hw7, h⟩ := bS_some h
      obtain ⟨y7, cy7, M7⟩ := (hrec 3 S2 _ _ hw7 a0 fa0) y2 sz M2
      refine ye_callV (As := []) (rest := [.int w1]) 0 (Or.inl rfl) rfl rfl rfl (Nat.le_of_ble_eq_true rfl) (M2.obj fa0 ⟨rfl, rfl⟩) cy7 ?_
      refine ye_icmp_ge rfl (fun h7 => ?_) (fun h7 => ?_)
      · replace h := yiT h7 h
        refine ye_p rfl rfl ?_
        exact w_X12_held_37 (prim := prim) (d := d) N rk hrec S7 0 y7 lvz1 M7 h
      · replace h := yiN h7 h
        refine ye_p rfl rfl ?_
        refine ye_p rfl rfl ?_
        exact w_X12_held_37 (prim := prim) (d := d) N rk hrec S7 1 y7 lvz1 M7 h
  · replace h := yiN h1 h
    refine ye_p rfl rfl ?_
    exact ye_ret rfl rfl (rQ h M1)
def f_X12_held (N : Nat) (rk : Nat → yS → Option (Int32 × yS)) (S : yS) : Option (Int32 × yS) := f_X12_held_0 N rk S
theorem m_X12_held {F : xH} {ev : xEv} {prim : xRel} {d : Nat} {T : yT} {v : Int32} {S' : yS} (N : Nat) (rk : Nat → yS → Option (Int32 × yS)) (hrec : ∀ (i : Nat) (S : yS) (v : Int32) (S' : yS), rk i S = some (v, S') → ∀ (a : Nat), yAt T 12 8 0 a → ykQ [8] F ev prim (d + 4) (235 + i) T S [.ref a] (some (.int v)) S') (S : yS) (a0 : Nat) (fa0 : yAt T 12 8 0 a0) (h : f_X12_held N rk S = some (v, S')) : ykQ [8] F ev prim (d + 5) 237 T S [.ref a0] (some (.int v)) S' :=
  ykQ.of (pg_237 ev) mi_237 (Nat.le_of_ble_eq_true rfl) (fun hp sz hM => w_X12_held_0 (prim := prim) (d := d) N rk hrec S hp _ a0 fa0 rfl hM h)

def f_X12_sum_51 (N : Nat) (rk : Nat → yS → Option (Int32 × yS)) (S : yS) (l1 : Int32) : Option (Int32 × yS) := some (l1, S)
set_option maxHeartbeats 4000000 in
set_option maxRecDepth 40000 in
theorem w_X12_sum_51 {F : xH} {ev : xEv} {prim : xRel} {d sz : Nat} {T : yT} {v : Int32} {S' : yS} (N : Nat) (rk : Nat → yS → Option (Int32 × yS)) (hrec : ∀ (i : Nat) (S : yS) (v : Int32) (S' : yS), rk i S = some (v, S') → ∀ (a : Nat), yAt T 12 8 0 a → ykQ [8] F ev prim (d + 4) (235 + i) T S [.ref a] (some (.int v)) S') (S : yS) (l1 : Int32) (hp : xH) (lv : xLv) (g1 : xG lv 1 = some (.int l1)) (hM : cR [8] F ev T S hp) (h : f_X12_sum_51 N rk S l1 = some (v, S')) : yWE ev.2.1 (xstr ev) (xCalls ev xmi (xprog ev) prim (d + 4)) (pX12_sum ev) (51, lv, [], hp, sz, 0) (ypQ [8] F ev T sz (some (.int v)) S') := by
  unfold f_X12_sum_51 at h
  refine ye_iload rfl g1 ?_
  exact ye_ret rfl rfl (rQ h hM)

def f_X12_sum_5 : Nat → Nat → (Nat → yS → Option (Int32 × yS)) → yS → Int32 → Option (Int32 × yS)
  | 0, _, _, _, _ => none
  | n + 1, N, rk, S, l1 => if ¬ (S.1 8 54) = ((-1)) then f_X12_sum_51 N rk S l1 else bS (f_X12_comes N S 43) fun w1 S1 => if w1 = 0 then bS (f_X12_comes N S1 45) fun w2 S2 => if w2 = 0 then f_X12_sum_51 N rk S2 l1 else bS (rk 4 S2) fun w3 S3 => f_X12_sum_5 n N rk S3 (l1 - w3) else bS (rk 4 S1) fun w4 S4 => f_X12_sum_5 n N rk S4 (l1 + w4)
set_option maxHeartbeats 4000000 in
set_option maxRecDepth 40000 in
theorem w_X12_sum_5 {F : xH} {ev : xEv} {prim : xRel} {d sz : Nat} {T : yT} {v : Int32} {S' : yS} (N : Nat) (rk : Nat → yS → Option (Int32 × yS)) (hrec : ∀ (i : Nat) (S : yS) (v : Int32) (S' : yS), rk i S = some (v, S') → ∀ (a : Nat), yAt T 12 8 0 a → ykQ [8] F ev prim (d + 4) (235 + i) T S [.ref a] (some (.int v)) S') (n : Nat) : ∀ (S : yS) (l1 : Int32) (hp : xH) (lv : xLv) (a0 : Nat) (fa0 : yAt T 12 8 0 a0) (g0 : xG lv 0 = some (.ref a0)) (g1 : xG lv 1 = some (.int l1)) (hM : cR [8] F ev T S hp) (h : f_X12_sum_5 n N rk S l1 = some (v, S')), yWE ev.2.1 (xstr ev) (xCalls ev xmi (xprog ev) prim (d + 4)) (pX12_sum ev) (5, lv, [], hp, sz, 0) (ypQ [8] F ev T sz (some (.int v)) S') := by
  induction n with
  | zero => intro S l1 hp lv a0 fa0 g0 g1 hM h; exact n_some h
  | succ n ih =>
    intro S l1 hp lv a0 fa0 g0 g1 hM h
    unfold f_X12_sum_5 at h
    refine ye_aload rfl g0 ?_
    refine ye_getf rfl (hM.obj fa0 ⟨rfl, rfl⟩) rfl ?_
    refine ye_p rfl rfl ?_
    refine ye_icmp_ne rfl (fun h1 => ?_) (fun h1 => ?_)
    · replace h := yiT h1 h
      exact w_X12_sum_51 (prim := prim) (d := d) N rk hrec S l1 hp lv g1 hM h
    · replace h := yiN h1 h
      refine ye_aload rfl g0 ?_
      refine ye_p rfl rfl ?_
      obtain ⟨w1, S1, hw1, h⟩ := bS_some h
      obtain ⟨y1, cy1, M1⟩ := (m_X12_comes (d := d + 2) (T := T) N S 43 a0 fa0 hw1) hp sz hM
      refine ye_callV (As := [.int 43]) (rest := []) 0 (Or.inl rfl) rfl rfl rfl (Nat.le_of_ble_eq_true rfl) (hM.obj fa0 ⟨rfl, rfl⟩) cy1 ?_
      refine ye_if_eq rfl (fun h2 => ?_) (fun h2 => ?_)
      · replace h := yiT h2 h
        refine ye_aload rfl g0 ?_
        refine ye_p rfl rfl ?_
        obtain ⟨w2, S2, hw2, h⟩ := bS_some h
        obtain ⟨y2, cy2, M2⟩ := (m_X12_comes (d := d + 2) (T := T) N S1 45 a0 fa0 hw2) y1 sz M1
        refine ye_callV (As := [.int 45]) (rest := []) 0 (Or.inl rfl) rfl rfl rfl (Nat.le_of_ble_eq_true rfl) (M1.obj fa0 ⟨rfl, rfl⟩) cy2 ?_
        refine ye_if_eq rfl (fun h3 => ?_) (fun h3 => ?_)
        · replace h := yiT h3 h
          exact w_X12_sum_51 (prim := prim) (d := d) N rk hrec S2 l1 y2 lv g1 M2 h
        · replace h := yiN h3 h
          refine ye_iload rfl g1 ?_
          refine ye_aload rfl g0 ?_
          obtain ⟨w3, S3, hw3, h⟩ := bS_some h
          obtain ⟨y3, cy3, M3⟩ := (hrec 4 S2 _ _ hw3 a0 fa0) y2 sz M2
          refine ye_callV (As := []) (rest := [.int l1]) 0 (Or.inl rfl) rfl rfl rfl (Nat.le_of_ble_eq_true rfl) (M2.obj fa0 ⟨rfl, rfl⟩) cy3 ?_
          refine ye_p rfl rfl ?_
          refine ye_p rfl rfl ?_
          have g0_z1 := xG_o1 (i := 1) (v := .int (l1 - w3)) g0 rfl
          have g1_z1 := xG_same lv 1 (.int (l1 - w3))
          generalize xSt1 lv 1 (.int (l1 - w3)) = lvz1 at g0_z1 g1_z1 ⊢
          refine ye_p rfl rfl ?_
          exact ih S3 (l1 - w3) y3 lvz1 a0 fa0 g0_z1 g1_z1 M3 h
      · replace h := yiN h2 h
        refine ye_iload rfl g1 ?_
        refine ye_aload rfl g0 ?_
        obtain ⟨w4, S4, hw4, h⟩ := bS_some h
        obtain ⟨y4, cy4, M4⟩ := (hrec 4 S1 _ _ hw4 a0 fa0) y1 sz M1
        refine ye_callV (As := []) (rest := [.int l1]) 0 (Or.inl rfl) rfl rfl rfl (Nat.le_of_ble_eq_true rfl) (M1.obj fa0 ⟨rfl, rfl⟩) cy4 ?_
        refine ye_p rfl rfl ?_
        refine ye_p rfl rfl ?_
        have g0_z2 := xG_o1 (i := 1) (v := .int (l1 + w4)) g0 rfl
        have g1_z2 := xG_same lv 1 (.int (l1 + w4))
        generalize xSt1 lv 1 (.int (l1 + w4)) = lvz2 at g0_z2 g1_z2 ⊢
        refine ye_p rfl rfl ?_
        exact ih S4 (l1 + w4) y4 lvz2 a0 fa0 g0_z2 g1_z2 M4 h

def f_X12_sum_0 (N : Nat) (rk : Nat → yS → Option (Int32 × yS)) (S : yS) : Option (Int32 × yS) := bS (rk 4 S) fun w1 S1 => f_X12_sum_5 N N rk S1 w1
set_option maxHeartbeats 4000000 in
set_option maxRecDepth 40000 in
theorem w_X12_sum_0 {F : xH} {ev : xEv} {prim : xRel} {d sz : Nat} {T : yT} {v : Int32} {S' : yS} (N : Nat) (rk : Nat → yS → Option (Int32 × yS)) (hrec : ∀ (i : Nat) (S : yS) (v : Int32) (S' : yS), rk i S = some (v, S') → ∀ (a : Nat), yAt T 12 8 0 a → ykQ [8] F ev prim (d + 4) (235 + i) T S [.ref a] (some (.int v)) S') (S : yS) (hp : xH) (lv : xLv) (a0 : Nat) (fa0 : yAt T 12 8 0 a0) (g0 : xG lv 0 = some (.ref a0)) (hM : cR [8] F ev T S hp) (h : f_X12_sum_0 N rk S = some (v, S')) : yWE ev.2.1 (xstr ev) (xCalls ev xmi (xprog ev) prim (d + 4)) (pX12_sum ev) (0, lv, [], hp, sz, 0) (ypQ [8] F ev T sz (some (.int v)) S') := by
  unfold f_X12_sum_0 at h
  refine ye_aload rfl g0 ?_
  obtain ⟨w1, S1, hw1, h⟩ := bS_some h
  obtain ⟨y1, cy1, M1⟩ := (hrec 4 S _ _ hw1 a0 fa0) hp sz hM
  refine ye_callV (As := []) (rest := []) 0 (Or.inl rfl) rfl rfl rfl (Nat.le_of_ble_eq_true rfl) (hM.obj fa0 ⟨rfl, rfl⟩) cy1 ?_
  refine ye_p rfl rfl ?_
  have g0_z1 := xG_o1 (i := 1) (v := .int w1) g0 rfl
  have g1_z1 := xG_same lv 1 (.int w1)
  generalize xSt1 lv 1 (.int w1) = lvz1 at g0_z1 g1_z1 ⊢
  exact w_X12_sum_5 (prim := prim) (d := d) N rk hrec N S1 w1 y1 lvz1 a0 fa0 g0_z1 g1_z1 M1 h
def f_X12_sum (N : Nat) (rk : Nat → yS → Option (Int32 × yS)) (S : yS) : Option (Int32 × yS) := f_X12_sum_0 N rk S
theorem m_X12_sum {F : xH} {ev : xEv} {prim : xRel} {d : Nat} {T : yT} {v : Int32} {S' : yS} (N : Nat) (rk : Nat → yS → Option (Int32 × yS)) (hrec : ∀ (i : Nat) (S : yS) (v : Int32) (S' : yS), rk i S = some (v, S') → ∀ (a : Nat), yAt T 12 8 0 a → ykQ [8] F ev prim (d + 4) (235 + i) T S [.ref a] (some (.int v)) S') (S : yS) (a0 : Nat) (fa0 : yAt T 12 8 0 a0) (h : f_X12_sum N rk S = some (v, S')) : ykQ [8] F ev prim (d + 5) 238 T S [.ref a0] (some (.int v)) S' :=
  ykQ.of (pg_238 ev) mi_238 (Nat.le_of_ble_eq_true rfl) (fun hp sz hM => w_X12_sum_0 (prim := prim) (d := d) N rk hrec S hp _ a0 fa0 rfl hM h)

def f_X12_product_32 (N : Nat) (rk : Nat → yS → Option (Int32 × yS)) (S : yS) (l1 : Int32) : Option (Int32 × yS) := some (l1, S)
set_option maxHeartbeats 4000000 in
set_option maxRecDepth 40000 in
theorem w_X12_product_32 {F : xH} {ev : xEv} {prim : xRel} {d sz : Nat} {T : yT} {v : Int32} {S' : yS} (N : Nat) (rk : Nat → yS → Option (Int32 × yS)) (hrec : ∀ (i : Nat) (S : yS) (v : Int32) (S' : yS), rk i S = some (v, S') → ∀ (a : Nat), yAt T 12 8 0 a → ykQ [8] F ev prim (d + 4) (235 + i) T S [.ref a] (some (.int v)) S') (S : yS) (l1 : Int32) (hp : xH) (lv : xLv) (g1 : xG lv 1 = some (.int l1)) (hM : cR [8] F ev T S hp) (h : f_X12_product_32 N rk S l1 = some (v, S')) : yWE ev.2.1 (xstr ev) (xCalls ev xmi (xprog ev) prim (d + 4)) (pX12_product ev) (32, lv, [], hp, sz, 0) (ypQ [8] F ev T sz (some (.int v)) S') := by
  unfold f_X12_product_32 at h
  refine ye_iload rfl g1 ?_
  exact ye_ret rfl rfl (rQ h hM)

def f_X12_product_5 : Nat → Nat → (Nat → yS → Option (Int32 × yS)) → yS → Int32 → Option (Int32 × yS)
  | 0, _, _, _, _ => none
  | n + 1, N, rk, S, l1 => if ¬ (S.1 8 54) = ((-1)) then f_X12_product_32 N rk S l1 else bS (f_X12_comes N S 42) fun w1 S1 => if w1 = 0 then f_X12_product_32 N rk S1 l1 else bS (rk 5 S1) fun w2 S2 => f_X12_product_5 n N rk S2 (l1 * w2)
set_option maxHeartbeats 4000000 in
set_option maxRecDepth 40000 in
theorem w_X12_product_5 {F : xH} {ev : xEv} {prim : xRel} {d sz : Nat} {T : yT} {v : Int32} {S' : yS} (N : Nat) (rk : Nat → yS → Option (Int32 × yS)) (hrec : ∀ (i : Nat) (S : yS) (v : Int32) (S' : yS), rk i S = some (v, S') → ∀ (a : Nat), yAt T 12 8 0 a → ykQ [8] F ev prim (d + 4) (235 + i) T S [.ref a] (some (.int v)) S') (n : Nat) : ∀ (S : yS) (l1 : Int32) (hp : xH) (lv : xLv) (a0 : Nat) (fa0 : yAt T 12 8 0 a0) (g0 : xG lv 0 = some (.ref a0)) (g1 : xG lv 1 = some (.int l1)) (hM : cR [8] F ev T S hp) (h : f_X12_product_5 n N rk S l1 = some (v, S')), yWE ev.2.1 (xstr ev) (xCalls ev xmi (xprog ev) prim (d + 4)) (pX12_product ev) (5, lv, [], hp, sz, 0) (ypQ [8] F ev T sz (some (.int v)) S') := by
  induction n with
  | zero => intro S l1 hp lv a0 fa0 g0 g1 hM h; exact n_some h
  | succ n ih =>
    intro S l1 hp lv a0 fa0 g0 g1 hM h
    unfold f_X12_product_5 at h
    refine ye_aload rfl g0 ?_
    refine ye_getf rfl (hM.obj fa0 ⟨rfl, rfl⟩) rfl ?_
    refine ye_p rfl rfl ?_
    refine ye_icmp_ne rfl (fun h1 => ?_) (fun h1 => ?_)
    · replace h := yiT h1 h
      exact w_X12_product_32 (prim := prim) (d := d) N rk hrec S l1 hp lv g1 hM h
    · replace h := yiN h1 h
      refine ye_aload rfl g0 ?_
      refine ye_p rfl rfl ?_
      obtain ⟨w1, S1, hw1, h⟩ := bS_some h
      obtain ⟨y1, cy1, M1⟩ := (m_X12_comes (d := d + 2) (T := T) N S 42 a0 fa0 hw1) hp sz hM
      refine ye_callV (As := [.int 42]) (rest := []) 0 (Or.inl rfl) rfl rfl rfl (Nat.le_of_ble_eq_true rfl) (hM.obj fa0 ⟨rfl, rfl⟩) cy1 ?_
      refine ye_if_eq rfl (fun h2 => ?_) (fun h2 => ?_)
      · replace h := yiT h2 h
        exact w_X12_product_32 (prim := prim) (d := d) N rk hrec S1 l1 y1 lv g1 M1 h
      · replace h := yiN h2 h
        refine ye_iload rfl g1 ?_
        refine ye_aload rfl g0 ?_
        obtain ⟨w2, S2, hw2, h⟩ := bS_some h
        obtain ⟨y2, cy2, M2⟩ := (hrec 5 S1 _ _ hw2 a0 fa0) y1 sz M1
        refine ye_callV (As := []) (rest := [.int l1]) 0 (Or.inl rfl) rfl rfl rfl (Nat.le_of_ble_eq_true rfl) (M1.obj fa0 ⟨rfl, rfl⟩) cy2 ?_
        refine ye_p rfl rfl ?_
        refine ye_p rfl rfl ?_
        have g0_z1 := xG_o1 (i := 1) (v := .int (l1 * w2)) g0 rfl
        have g1_z1 := xG_same lv 1 (.int (l1 * w2))
        generalize xSt1 lv 1 (.int (l1 * w2)) = lvz1 at g0_z1 g1_z1 ⊢
        refine ye_p rfl rfl ?_
        exact ih S2 (l1 * w2) y2 lvz1 a0 fa0 g0_z1 g1_z1 M2 h

def f_X12_product_0 (N : Nat) (rk : Nat → yS → Option (Int32 × yS)) (S : yS) : Option (Int32 × yS) := bS (rk 5 S) fun w1 S1 => f_X12_product_5 N N rk S1 w1
set_option maxHeartbeats 4000000 in
set_option maxRecDepth 40000 in
theorem w_X12_product_0 {F : xH} {ev : xEv} {prim : xRel} {d sz : Nat} {T : yT} {v : Int32} {S' : yS} (N : Nat) (rk : Nat → yS → Option (Int32 × yS)) (hrec : ∀ (i : Nat) (S : yS) (v : Int32) (S' : yS), rk i S = some (v, S') → ∀ (a : Nat), yAt T 12 8 0 a → ykQ [8] F ev prim (d + 4) (235 + i) T S [.ref a] (some (.int v)) S') (S : yS) (hp : xH) (lv : xLv) (a0 : Nat) (fa0 : yAt T 12 8 0 a0) (g0 : xG lv 0 = some (.ref a0)) (hM : cR [8] F ev T S hp) (h : f_X12_product_0 N rk S = some (v, S')) : yWE ev.2.1 (xstr ev) (xCalls ev xmi (xprog ev) prim (d + 4)) (pX12_product ev) (0, lv, [], hp, sz, 0) (ypQ [8] F ev T sz (some (.int v)) S') := by
  unfold f_X12_product_0 at h
  refine ye_aload rfl g0 ?_
  obtain ⟨w1, S1, hw1, h⟩ := bS_some h
  obtain ⟨y1, cy1, M1⟩ := (hrec 5 S _ _ hw1 a0 fa0) hp sz hM
  refine ye_callV (As := []) (rest := []) 0 (Or.inl rfl) rfl rfl rfl (Nat.le_of_ble_eq_true rfl) (hM.obj fa0 ⟨rfl, rfl⟩) cy1 ?_
  refine ye_p rfl rfl ?_
  have g0_z1 := xG_o1 (i := 1) (v := .int w1) g0 rfl
  have g1_z1 := xG_same lv 1 (.int w1)
  generalize xSt1 lv 1 (.int w1) = lvz1 at g0_z1 g1_z1 ⊢
  exact w_X12_product_5 (prim := prim) (d := d) N rk hrec N S1 w1 y1 lvz1 a0 fa0 g0_z1 g1_z1 M1 h
def f_X12_product (N : Nat) (rk : Nat → yS → Option (Int32 × yS)) (S : yS) : Option (Int32 × yS) := f_X12_product_0 N rk S
theorem m_X12_product {F : xH} {ev : xEv} {prim : xRel} {d : Nat} {T : yT} {v : Int32} {S' : yS} (N : Nat) (rk : Nat → yS → Option (Int32 × yS)) (hrec : ∀ (i : Nat) (S : yS) (v : Int32) (S' : yS), rk i S = some (v, S') → ∀ (a : Nat), yAt T 12 8 0 a → ykQ [8] F ev prim (d + 4) (235 + i) T S [.ref a] (some (.int v)) S') (S : yS) (a0 : Nat) (fa0 : yAt T 12 8 0 a0) (h : f_X12_product N rk S = some (v, S')) : ykQ [8] F ev prim (d + 5) 239 T S [.ref a0] (some (.int v)) S' :=
  ykQ.of (pg_239 ev) mi_239 (Nat.le_of_ble_eq_true rfl) (fun hp sz hM => w_X12_product_0 (prim := prim) (d := d) N rk hrec S hp _ a0 fa0 rfl hM h)

def f_X12_ahead_21 (N : Nat) (rk : Nat → yS → Option (Int32 × yS)) (S : yS) (t0 : Int32) : Option (Int32 × yS) := some (t0, S)
set_option maxHeartbeats 4000000 in
set_option maxRecDepth 40000 in
theorem w_X12_ahead_21 {F : xH} {ev : xEv} {prim : xRel} {d sz : Nat} {T : yT} {v : Int32} {S' : yS} (N : Nat) (rk : Nat → yS → Option (Int32 × yS)) (hrec : ∀ (i : Nat) (S : yS) (v : Int32) (S' : yS), rk i S = some (v, S') → ∀ (a : Nat), yAt T 12 8 0 a → ykQ [8] F ev prim (d + 4) (235 + i) T S [.ref a] (some (.int v)) S') (S : yS) (t0 : Int32) (hp : xH) (lv : xLv) (hM : cR [8] F ev T S hp) (h : f_X12_ahead_21 N rk S t0 = some (v, S')) : yWE ev.2.1 (xstr ev) (xCalls ev xmi (xprog ev) prim (d + 4)) (pX12_ahead ev) (21, lv, [.int t0], hp, sz, 0) (ypQ [8] F ev T sz (some (.int v)) S') := by
  unfold f_X12_ahead_21 at h
  exact ye_ret rfl rfl (rQ h hM)

def f_X12_ahead_73 (N : Nat) (rk : Nat → yS → Option (Int32 × yS)) (S : yS) (l1 : Int32) : Option (Int32 × yS) := some (l1, S)
set_option maxHeartbeats 4000000 in
set_option maxRecDepth 40000 in
theorem w_X12_ahead_73 {F : xH} {ev : xEv} {prim : xRel} {d sz : Nat} {T : yT} {v : Int32} {S' : yS} (N : Nat) (rk : Nat → yS → Option (Int32 × yS)) (hrec : ∀ (i : Nat) (S : yS) (v : Int32) (S' : yS), rk i S = some (v, S') → ∀ (a : Nat), yAt T 12 8 0 a → ykQ [8] F ev prim (d + 4) (235 + i) T S [.ref a] (some (.int v)) S') (S : yS) (l1 : Int32) (hp : xH) (lv : xLv) (g1 : xG lv 1 = some (.int l1)) (hM : cR [8] F ev T S hp) (h : f_X12_ahead_73 N rk S l1 = some (v, S')) : yWE ev.2.1 (xstr ev) (xCalls ev xmi (xprog ev) prim (d + 4)) (pX12_ahead ev) (73, lv, [], hp, sz, 0) (ypQ [8] F ev T sz (some (.int v)) S') := by
  unfold f_X12_ahead_73 at h
  refine ye_iload rfl g1 ?_
  exact ye_ret rfl rfl (rQ h hM)

def f_X12_ahead_127 (N : Nat) (rk : Nat → yS → Option (Int32 × yS)) (S : yS) (l1 : Int32) : Option (Int32 × yS) := some (l1, S)
set_option maxHeartbeats 4000000 in
set_option maxRecDepth 40000 in
theorem w_X12_ahead_127 {F : xH} {ev : xEv} {prim : xRel} {d sz : Nat} {T : yT} {v : Int32} {S' : yS} (N : Nat) (rk : Nat → yS → Option (Int32 × yS)) (hrec : ∀ (i : Nat) (S : yS) (v : Int32) (S' : yS), rk i S = some (v, S') → ∀ (a : Nat), yAt T 12 8 0 a → ykQ [8] F ev prim (d + 4) (235 + i) T S [.ref a] (some (.int v)) S') (S : yS) (l1 : Int32) (hp : xH) (lv : xLv) (g1 : xG lv 1 = some (.int l1)) (hM : cR [8] F ev T S hp) (h : f_X12_ahead_127 N rk S l1 = some (v, S')) : yWE ev.2.1 (xstr ev) (xCalls ev xmi (xprog ev) prim (d + 4)) (pX12_ahead ev) (127, lv, [], hp, sz, 0) (ypQ [8] F ev T sz (some (.int v)) S') := by
  unfold f_X12_ahead_127 at h
  refine ye_iload rfl g1 ?_
  exact ye_ret rfl rfl (rQ h hM)

def f_X12_ahead_86 : Nat → Nat → (Nat → yS → Option (Int32 × yS)) → yS → Int32 → Int32 → Option (Int32 × yS)
  | 0, _, _, _, _, _ => none
  | n + 1, N, rk, S, l1, l2 => if 3 ≤ l2 then f_X12_ahead_127 N rk S l1 else bV (f_X12_isDigit N S) fun w1 => if w1 = 0 then f_X12_ahead_127 N rk S l1 else bV (f_X12_here N S) fun w2 => sq (yI S 8 53 ((S.1 8 53) + 1)) fun S1 => f_X12_ahead_86 n N rk S1 (((10 * l1) + w2) - 48) (l2 + 1)
set_option maxHeartbeats 4000000 in
set_option maxRecDepth 40000 in
theorem w_X12_ahead_86 {F : xH} {ev : xEv} {prim : xRel} {d sz : Nat} {T : yT} {v : Int32} {S' : yS} (N : Nat) (rk : Nat → yS → Option (Int32 × yS)) (hrec : ∀ (i : Nat) (S : yS) (v : Int32) (S' : yS), rk i S = some (v, S') → ∀ (a : Nat), yAt T 12 8 0 a → ykQ [8] F ev prim (d + 4) (235 + i) T S [.ref a] (some (.int v)) S') (n : Nat) : ∀ (S : yS) (l1 : Int32) (l2 : Int32) (hp : xH) (lv : xLv) (a0 : Nat) (fa0 : yAt T 12 8 0 a0) (g0 : xG lv 0 = some (.ref a0)) (g1 : xG lv 1 = some (.int l1)) (g2 : xG lv 2 = some (.int l2)) (hM : cR [8] F ev T S hp) (h : f_X12_ahead_86 n N rk S l1 l2 = some (v, S')), yWE ev.2.1 (xstr ev) (xCalls ev xmi (xprog ev) prim (d + 4)) (pX12_ahead ev) (86, lv, [], hp, sz, 0) (ypQ [8] F ev T sz (some (.int v)) S') := by
  induction n with
  | zero => intro S l1 l2 hp lv a0 fa0 g0 g1 g2 hM h; exact n_some h
  | succ n ih =>
    intro S l1 l2 hp lv a0 fa0 g0 g1 g2 hM h
    unfold f_X12_ahead_86 at h
    refine ye_iload rfl g2 ?_
    refine ye_p rfl rfl ?_
    refine ye_icmp_ge rfl (fun h1 => ?_) (fun h1 => ?_)
    · replace h := yiT h1 h
      exact w_X12_ahead_127 (prim := prim) (d := d) N rk hrec S l1 hp lv g1 hM h
    · replace h := yiN h1 h
      refine ye_aload rfl g0 ?_
      obtain ⟨w1, hw1, h⟩ := bV_some h
      refine ye_callV (As := []) (rest := []) 0 (Or.inl rfl) rfl rfl rfl (Nat.le_of_ble_eq_true rfl) (hM.obj fa0 ⟨rfl, rfl⟩) ((m_X12_isDigit (d := d + 2) (T := T) N S a0 fa0 hw1) hp sz hM) ?_
      refine ye_if_eq rfl (fun h2 => ?_) (fun h2 => ?_)
      · replace h := yiT h2 h
        exact w_X12_ahead_127 (prim := prim) (d := d) N rk hrec S l1 hp lv g1 hM h
      · replace h := yiN h2 h
        refine ye_p rfl rfl ?_
        refine ye_iload rfl g1 ?_
        refine ye_p rfl rfl ?_
        refine ye_aload rfl g0 ?_
        obtain ⟨w2, hw2, h⟩ := bV_some h
        refine ye_callV (As := []) (rest := [.int (10 * l1)]) 0 (Or.inl rfl) rfl rfl rfl (Nat.le_of_ble_eq_true rfl) (hM.obj fa0 ⟨rfl, rfl⟩) ((m_X12_here (d := d + 3) (T := T) N S a0 fa0 hw2) hp sz hM) ?_
        refine ye_p rfl rfl ?_
        refine ye_p rfl rfl ?_
        refine ye_p rfl rfl ?_
        refine ye_p rfl rfl ?_
        have g0_z1 := xG_o1 (i := 1) (v := .int (((10 * l1) + w2) - 48)) g0 rfl
        have g2_z1 := xG_o1 (i := 1) (v := .int (((10 * l1) + w2) - 48)) g2 rfl
        have g1_z1 := xG_same lv 1 (.int (((10 * l1) + w2) - 48))
        generalize xSt1 lv 1 (.int (((10 * l1) + w2) - 48)) = lvz1 at g0_z1 g2_z1 g1_z1 ⊢
        refine ye_aload rfl g0_z1 ?_
        refine ye_p rfl rfl ?_
        refine ye_getf rfl (hM.obj fa0 ⟨rfl, rfl⟩) rfl ?_
        refine ye_p rfl rfl ?_
        refine ye_p rfl rfl ?_
        obtain ⟨S1, eS1, h⟩ := sq_some h
        refine yw_putI rfl hM fa0 rfl ⟨rfl, rfl⟩ (Nat.le_of_ble_eq_true rfl) rfl rfl (ys_12_53 ev T _ ((S.1 8 53) + 1)) (fun q => absurd q (by decide)) eS1 (fun y1 M1 => ?_)
        refine ye_iinc rfl g2_z1 ?_
        have g0_z2 := xG_o1 (i := 2) (v := .int (l2 + 1)) g0_z1 rfl
        have g1_z2 := xG_o1 (i := 2) (v := .int (l2 + 1)) g1_z1 rfl
        have g2_z2 := xG_same lvz1 2 (.int (l2 + 1))
        generalize xSt1 lvz1 2 (.int (l2 + 1)) = lvz2 at g0_z2 g1_z2 g2_z2 ⊢
        refine ye_p rfl rfl ?_
        exact ih S1 (((10 * l1) + w2) - 48) (l2 + 1) y1 lvz2 a0 fa0 g0_z2 g1_z2 g2_z2 M1 h

def f_X12_ahead_153 (N : Nat) (rk : Nat → yS → Option (Int32 × yS)) (S : yS) (t0 : Int32) : Option (Int32 × yS) := if 0 ≤ t0 then sq (yI S 8 53 ((S.1 8 53) + 1)) fun S1 => gA 10 t0 fun j1 => some (S1.2.1 8 56 j1, S1) else bS (f_X12_isWrong N S) fun w1 S2 => some (w1, S2)
set_option maxHeartbeats 4000000 in
set_option maxRecDepth 40000 in
theorem w_X12_ahead_153 {F : xH} {ev : xEv} {prim : xRel} {d sz : Nat} {T : yT} {v : Int32} {S' : yS} (N : Nat) (rk : Nat → yS → Option (Int32 × yS)) (hrec : ∀ (i : Nat) (S : yS) (v : Int32) (S' : yS), rk i S = some (v, S') → ∀ (a : Nat), yAt T 12 8 0 a → ykQ [8] F ev prim (d + 4) (235 + i) T S [.ref a] (some (.int v)) S') (S : yS) (t0 : Int32) (hp : xH) (lv : xLv) (a0 : Nat) (fa0 : yAt T 12 8 0 a0) (g0 : xG lv 0 = some (.ref a0)) (hM : cR [8] F ev T S hp) (h : f_X12_ahead_153 N rk S t0 = some (v, S')) : yWE ev.2.1 (xstr ev) (xCalls ev xmi (xprog ev) prim (d + 4)) (pX12_ahead ev) (153, lv, [.int t0], hp, sz, 0) (ypQ [8] F ev T sz (some (.int v)) S') := by
  unfold f_X12_ahead_153 at h
  refine ye_p rfl rfl ?_
  have g0_z1 := xG_o1 (i := 1) (v := .int t0) g0 rfl
  have g1_z1 := xG_same lv 1 (.int t0)
  generalize xSt1 lv 1 (.int t0) = lvz1 at g0_z1 g1_z1 ⊢
  refine ye_iload rfl g1_z1 ?_
  refine ye_if_ge rfl (fun h1 => ?_) (fun h1 => ?_)
  · replace h := yiT h1 h
    refine ye_aload rfl g0_z1 ?_
    refine ye_p rfl rfl ?_
    refine ye_getf rfl (hM.obj fa0 ⟨rfl, rfl⟩) rfl ?_
    refine ye_p rfl rfl ?_
    refine ye_p rfl rfl ?_
    obtain ⟨S1, eS1, h⟩ := sq_some h
    refine yw_putI rfl hM fa0 rfl ⟨rfl, rfl⟩ (Nat.le_of_ble_eq_true rfl) rfl rfl (ys_12_53 ev T _ ((S.1 8 53) + 1)) (fun q => absurd q (by decide)) eS1 (fun y1 M1 => ?_)
    refine ye_aload rfl g0_z1 ?_
    refine ye_getr rfl (M1.obj fa0 ⟨rfl, rfl⟩) rfl (fun cx1 ecx1 => ?_)
    have fcx1 := yAt.row fa0 ecx1
    refine ye_iload rfl g1_z1 ?_
    obtain ⟨j1, ej1, ij1, h⟩ := gA_some h
    refine yj_ald rfl (M1.arr fcx1 yr_12_56) ij1 ej1 ?_
    exact ye_ret rfl rfl (rQ h M1)
  · replace h := yiN h1 h
    refine ye_aload rfl g0_z1 ?_
    obtain ⟨w1, S2, hw1, h⟩ := bS_some h
    obtain ⟨y2, cy2, M2⟩ := (m_X12_isWrong (d := d + 3) (T := T) N S a0 fa0 hw1) hp sz hM
    refine ye_callV (As := []) (rest := []) 0 (Or.inl rfl) rfl rfl rfl (Nat.le_of_ble_eq_true rfl) (hM.obj fa0 ⟨rfl, rfl⟩) cy2 ?_
    exact ye_ret rfl rfl (rQ h M2)

def f_X12_ahead_0 (N : Nat) (rk : Nat → yS → Option (Int32 × yS)) (S : yS) : Option (Int32 × yS) := bS (f_X12_comes N S 33) fun w1 S1 => if w1 = 0 then bS (f_X12_comes N S1 45) fun w2 S2 => if w2 = 0 then bS (f_X12_comes N S2 40) fun w3 S3 => if w3 = 0 then bV (f_X12_isDigit N S3) fun w4 => if w4 = 0 then bV (f_X12_here N S3) fun w5 => if ¬ w5 = ((-1)) then gS (S3.1 8 55) fun m1 => bV (f_X12_here N S3) fun w6 => gP (m1 < 4) (f_X12_ahead_153 N rk S3 (sIdx m1 ((w6.toUInt32 % 65536).toInt32))) else f_X12_ahead_153 N rk S3 ((-1)) else f_X12_ahead_86 N N rk S3 0 0 else bS (rk 0 S3) fun w8 S4 => if ¬ (S4.1 8 54) = ((-1)) then f_X12_ahead_73 N rk S4 w8 else bS (f_X12_comes N S4 41) fun w9 S5 => if ¬ w9 = 0 then f_X12_ahead_73 N rk S5 w8 else bS (f_X12_isWrong N S5) fun w10 S6 => f_X12_ahead_73 N rk S6 w8 else bS (rk 5 S2) fun w11 S7 => some (-w11, S7) else bS (rk 5 S1) fun w12 S8 => if ¬ w12 = 0 then f_X12_ahead_21 N rk S8 0 else f_X12_ahead_21 N rk S8 1
set_option maxHeartbeats 4000000 in
set_option maxRecDepth 40000 in
theorem w_X12_ahead_0 {F : xH} {ev : xEv} {prim : xRel} {d sz : Nat} {T : yT} {v : Int32} {S' : yS} (N : Nat) (rk : Nat → yS → Option (Int32 × yS)) (hrec : ∀ (i : Nat) (S : yS) (v : Int32) (S' : yS), rk i S = some (v, S') → ∀ (a : Nat), yAt T 12 8 0 a → ykQ [8] F ev prim (d + 4) (235 + i) T S [.ref a] (some (.int v)) S') (S : yS) (hp : xH) (lv : xLv) (a0 : Nat) (fa0 : yAt T 12 8 0 a0) (g0 : xG lv 0 = some (.ref a0)) (hM : cR [8] F ev T S hp) (h : f_X12_ahead_0 N rk S = some (v, S')) : yWE ev.2.1 (xstr ev) (xCalls ev xmi (xprog ev) prim (d + 4)) (pX12_ahead ev) (0, lv, [], hp, sz, 0) (ypQ [8] F ev T sz (some (.int v)) S') := by
  unfold f_X12_ahead_0 at h
  refine ye_aload rfl g0 ?_
  refine ye_p rfl rfl ?_
  obtain ⟨w1, S1, hw1, h⟩ := bS_some h
  obtain ⟨y1, cy1, M1⟩ := (m_X12_comes (d := d + 2) (T := T) N S 33 a0 fa0 hw1) hp sz hM
  refine ye_callV (As := [.int 33]) (rest := []) 0 (Or.inl rfl) rfl rfl rfl (Nat.le_of_ble_eq_true rfl) (hM.obj fa0 ⟨rfl, rfl⟩) cy1 ?_
  refine ye_if_eq rfl (fun h1 => ?_) (fun h1 => ?_)
  · replace h := yiT h1 h
    refine ye_aload rfl g0 ?_
    refine ye_p rfl rfl ?_
    obtain ⟨w2, S2, hw2, h⟩ := bS_some h
    obtain ⟨y2, cy2, M2⟩ := (m_X12_comes (d := d + 2) (T := T) N S1 45 a0 fa0 hw2) y1 sz M1
    refine ye_callV (As := [.int 45]) (rest := []) 0 (Or.inl rfl) rfl rfl rfl (Nat.le_of_ble_eq_true rfl) (M1.obj fa0 ⟨rfl, rfl⟩) cy2 ?_
    refine ye_if_eq rfl (fun h2 => ?_) (fun h2 => ?_)
    · replace h := yiT h2 h
      refine ye_aload rfl g0 ?_
      refine ye_p rfl rfl ?_
      obtain ⟨w3, S3, hw3, h⟩ := bS_some h
      obtain ⟨y3, cy3, M3⟩ := (m_X12_comes (d := d + 2) (T := T) N S2 40 a0 fa0 hw3) y2 sz M2
      refine ye_callV (As := [.int 40]) (rest := []) 0 (Or.inl rfl) rfl rfl rfl (Nat.le_of_ble_eq_true rfl) (M2.obj fa0 ⟨rfl, rfl⟩) cy3 ?_
      refine ye_if_eq rfl (fun h3 => ?_) (fun h3 => ?_)
      · replace h := yiT h3 h
        refine ye_aload rfl g0 ?_
        obtain ⟨w4, hw4, h⟩ := bV_some h
        refine ye_callV (As := []) (rest := []) 0 (Or.inl rfl) rfl rfl rfl (Nat.le_of_ble_eq_true rfl) (M3.obj fa0 ⟨rfl, rfl⟩) ((m_X12_isDigit (d := d + 2) (T := T) N S3 a0 fa0 hw4) y3 sz M3) ?_
        refine ye_if_eq rfl (fun h4 => ?_) (fun h4 => ?_)
        · replace h := yiT h4 h
          refine ye_aload rfl g0 ?_
          obtain ⟨w5, hw5, h⟩ := bV_some h
          refine ye_callV (As := []) (rest := []) 0 (Or.inl rfl) rfl rfl rfl (Nat.le_of_ble_eq_true rfl) (M3.obj fa0 ⟨rfl, rfl⟩) ((m_X12_here (d := d + 3) (T := T) N S3 a0 fa0 hw5) y3 sz M3) ?_
          refine ye_p rfl rfl ?_
          refine ye_icmp_ne rfl (fun h5 => ?_) (fun h5 => ?_)
          · replace h := yiT h5 h
            refine ye_aload rfl g0 ?_
            obtain ⟨m1, e1, h⟩ := gS_some h
            refine ye_getf rfl (M3.obj fa0 ⟨rfl, rfl⟩) rfl ?_
            rw [show yStr ev (S3.1 8 55) = .ref (ev.2.1 m1) from e1.2 ev]
            refine ye_aload rfl g0 ?_
            obtain ⟨w6, hw6, h⟩ := bV_some h
            refine ye_callV (As := []) (rest := [.ref (ev.2.1 m1)]) 0 (Or.inl rfl) rfl rfl rfl (Nat.le_of_ble_eq_true rfl) (M3.obj fa0 ⟨rfl, rfl⟩) ((m_X12_here (d := d + 3) (T := T) N S3 a0 fa0 hw6) y3 sz M3) ?_
            refine ye_p rfl rfl ?_
            obtain ⟨i1, h⟩ := gP_some h
            refine ye_callT (i := m1) (As := [.int ((w6.toUInt32 % 65536).toInt32)]) (rest := []) rfl i1 rfl rfl (Nat.le_of_ble_eq_true rfl) (y_indexOf (d := d + 0) m1 ((w6.toUInt32 % 65536).toInt32) i1 y3 sz) ?_
            exact w_X12_ahead_153 (prim := prim) (d := d) N rk hrec S3 (sIdx m1 ((w6.toUInt32 % 65536).toInt32)) y3 lv a0 fa0 g0 M3 h
          · replace h := yiN h5 h
            refine ye_p rfl rfl ?_
            refine ye_p rfl rfl ?_
            exact w_X12_ahead_153 (prim := prim) (d := d) N rk hrec S3 ((-1)) y3 lv a0 fa0 g0 M3 h
        · replace h := yiN h4 h
          refine ye_p rfl rfl ?_
          refine ye_p rfl rfl ?_
          have g0_z1 := xG_o1 (i := 1) (v := .int 0) g0 rfl
          have g1_z1 := xG_same lv 1 (.int 0)
          generalize xSt1 lv 1 (.int 0) = lvz1 at g0_z1 g1_z1 ⊢
          refine ye_p rfl rfl ?_
          refine ye_p rfl rfl ?_
          have g0_z2 := xG_o1 (i := 2) (v := .int 0) g0_z1 rfl
          have g1_z2 := xG_o1 (i := 2) (v := .int 0) g1_z1 rfl
          have g2_z2 := xG_same lvz1 2 (.int 0)
          generalize xSt1 lvz1 2 (.int 0) = lvz2 at g0_z2 g1_z2 g2_z2 ⊢
          exact w_X12_ahead_86 (prim := prim) (d := d) N rk hrec N S3 0 0 y3 lvz2 a0 fa0 g0_z2 g1_z2 g2_z2 M3 h
      · replace h := yiN h3 h
        refine ye_aload rfl g0 ?_
        obtain ⟨w8, S4, hw8, h⟩ := bS_some h
        obtain ⟨y4, cy4, M4⟩ := (hrec 0 S3 _ _ hw8 a0 fa0) y3 sz M3
        refine ye_callV (As := []) (rest := []) 0 (Or.inl rfl) rfl rfl rfl (Nat.le_of_ble_eq_true rfl) (M3.obj fa0 ⟨rfl, rfl⟩) cy4 ?_
        refine ye_p rfl rfl ?_
        have g0_z3 := xG_o1 (i := 1) (v := .int w8) g0 rfl
        have g1_z3 := xG_same lv 1 (.int w8)
        generalize xSt1 lv 1 (.int w8) = lvz3 at g0_z3 g1_z3 ⊢
        refine ye_aload rfl g0_z3 ?_
        refine ye_getf rfl (M4.obj fa0 ⟨rfl, rfl⟩) rfl ?_
        refine ye_p rfl rfl ?_
        refine ye_icmp_ne rfl (fun h6 => ?_) (fun h6 => ?_)
        · replace h := yiT h6 h
          exact w_X12_ahead_73 (prim := prim) (d := d) N rk hrec S4 w8 y4 lvz3 g1_z3 M4 h
        · replace h := yiN h6 h
          refine ye_aload rfl g0_z3 ?_
          refine ye_p rfl rfl ?_
          obtain ⟨w9, S5, hw9, h⟩ := bS_some h
          obtain ⟨y5, cy5, M5⟩ := (m_X12_comes (d := d + 2) (T := T) N S4 41 a0 fa0 hw9) y4 sz M4
          refine ye_callV (As := [.int 41]) (rest := []) 0 (Or.inl rfl) rfl rfl rfl (Nat.le_of_ble_eq_true rfl) (M4.obj fa0 ⟨rfl, rfl⟩) cy5 ?_
          refine ye_if_ne rfl (fun h7 => ?_) (fun h7 => ?_)
          · replace h := yiT h7 h
            exact w_X12_ahead_73 (prim := prim) (d := d) N rk hrec S5 w8 y5 lvz3 g1_z3 M5 h
          · replace h := yiN h7 h
            refine ye_aload rfl g0_z3 ?_
            obtain ⟨w10, S6, hw10, h⟩ := bS_some h
            obtain ⟨y6, cy6, M6⟩ := (m_X12_isWrong (d := d + 3) (T := T) N S5 a0 fa0 hw10) y5 sz M5
            refine ye_callV (As := []) (rest := []) 0 (Or.inl rfl) rfl rfl rfl (Nat.le_of_ble_eq_true rfl) (M5.obj fa0 ⟨rfl, rfl⟩) cy6 ?_
            refine ye_p rfl rfl ?_
            exact w_X12_ahead_73 (prim := prim) (d := d) N rk hrec S6 w8 y6 lvz3 g1_z3 M6 h
    · replace h := yiN h2 h
      refine ye_aload rfl g0 ?_
      obtain ⟨w11, S7, hw11, h⟩ := bS_some h
      obtain ⟨y7, cy7, M7⟩ := (hrec 5 S2 _ _ hw11 a0 fa0) y2 sz M2
      refine ye_callV (As := []) (rest := []) 0 (Or.inl rfl) rfl rfl rfl (Nat.le_of_ble_eq_true rfl) (M2.obj fa0 ⟨rfl, rfl⟩) cy7 ?_
      refine ye_p rfl rfl ?_
      exact ye_ret rfl rfl (rQ h M7)
  · replace h := yiN h1 h
    refine ye_aload rfl g0 ?_
    obtain ⟨w12, S8, hw12, h⟩ := bS_some h
    obtain ⟨y8, cy8, M8⟩ := (hrec 5 S1 _ _ hw12 a0 fa0) y1 sz M1
    refine ye_callV (As := []) (rest := []) 0 (Or.inl rfl) rfl rfl rfl (Nat.le_of_ble_eq_true rfl) (M1.obj fa0 ⟨rfl, rfl⟩) cy8 ?_
    refine ye_if_ne rfl (fun h8 => ?_) (fun h8 => ?_)
    · replace h := yiT h8 h
      refine ye_p rfl rfl ?_
      exact w_X12_ahead_21 (prim := prim) (d := d) N rk hrec S8 0 y8 lv M8 h
    · replace h := yiN h8 h
      refine ye_p rfl rfl ?_
      refine ye_p rfl rfl ?_
      exact w_X12_ahead_21 (prim := prim) (d := d) N rk hrec S8 1 y8 lv M8 h
def f_X12_ahead (N : Nat) (rk : Nat → yS → Option (Int32 × yS)) (S : yS) : Option (Int32 × yS) := f_X12_ahead_0 N rk S
theorem m_X12_ahead {F : xH} {ev : xEv} {prim : xRel} {d : Nat} {T : yT} {v : Int32} {S' : yS} (N : Nat) (rk : Nat → yS → Option (Int32 × yS)) (hrec : ∀ (i : Nat) (S : yS) (v : Int32) (S' : yS), rk i S = some (v, S') → ∀ (a : Nat), yAt T 12 8 0 a → ykQ [8] F ev prim (d + 4) (235 + i) T S [.ref a] (some (.int v)) S') (S : yS) (a0 : Nat) (fa0 : yAt T 12 8 0 a0) (h : f_X12_ahead N rk S = some (v, S')) : ykQ [8] F ev prim (d + 5) 240 T S [.ref a0] (some (.int v)) S' :=
  ykQ.of (pg_240 ev) mi_240 (Nat.le_of_ble_eq_true rfl) (fun hp sz hM => w_X12_ahead_0 (prim := prim) (d := d) N rk hrec S hp _ a0 fa0 rfl hM h)

def f_X12_choice_22 (N : Nat) (rk : Nat → yS → Option (Int32 × yS)) (S : yS) (l1 : Int32) : Option (Int32 × yS) := some (l1, S)
set_option maxHeartbeats 4000000 in
set_option maxRecDepth 40000 in
theorem w_X12_choice_22 {F : xH} {ev : xEv} {prim : xRel} {d sz : Nat} {T : yT} {v : Int32} {S' : yS} (N : Nat) (rk : Nat → yS → Option (Int32 × yS)) (hrec : ∀ (i : Nat) (S : yS) (v : Int32) (S' : yS), rk i S = some (v, S') → ∀ (a : Nat), yAt T 12 8 0 a → ykQ [8] F ev prim (d + 4) (235 + i) T S [.ref a] (some (.int v)) S') (S : yS) (l1 : Int32) (hp : xH) (lv : xLv) (g1 : xG lv 1 = some (.int l1)) (hM : cR [8] F ev T S hp) (h : f_X12_choice_22 N rk S l1 = some (v, S')) : yWE ev.2.1 (xstr ev) (xCalls ev xmi (xprog ev) prim (d + 4)) (pX12_choice ev) (22, lv, [], hp, sz, 0) (ypQ [8] F ev T sz (some (.int v)) S') := by
  unfold f_X12_choice_22 at h
  refine ye_iload rfl g1 ?_
  exact ye_ret rfl rfl (rQ h hM)

def f_X12_choice_75 (N : Nat) (rk : Nat → yS → Option (Int32 × yS)) (S : yS) (t0 : Int32) : Option (Int32 × yS) := some (t0, S)
set_option maxHeartbeats 4000000 in
set_option maxRecDepth 40000 in
theorem w_X12_choice_75 {F : xH} {ev : xEv} {prim : xRel} {d sz : Nat} {T : yT} {v : Int32} {S' : yS} (N : Nat) (rk : Nat → yS → Option (Int32 × yS)) (hrec : ∀ (i : Nat) (S : yS) (v : Int32) (S' : yS), rk i S = some (v, S') → ∀ (a : Nat), yAt T 12 8 0 a → ykQ [8] F ev prim (d + 4) (235 + i) T S [.ref a] (some (.int v)) S') (S : yS) (t0 : Int32) (hp : xH) (lv : xLv) (hM : cR [8] F ev T S hp) (h : f_X12_choice_75 N rk S t0 = some (v, S')) : yWE ev.2.1 (xstr ev) (xCalls ev xmi (xprog ev) prim (d + 4)) (pX12_choice ev) (75, lv, [.int t0], hp, sz, 0) (ypQ [8] F ev T sz (some (.int v)) S') := by
  unfold f_X12_choice_75 at h
  exact ye_ret rfl rfl (rQ h hM)

def f_X12_choice_51 (N : Nat) (rk : Nat → yS → Option (Int32 × yS)) (S : yS) (l1 : Int32) (l2 : Int32) : Option (Int32 × yS) := if (S.1 8 54) = ((-1)) then bS (rk 6 S) fun w1 S1 => if l1 = 0 then f_X12_choice_75 N rk S1 w1 else f_X12_choice_75 N rk S1 l2 else some (0, S)
set_option maxHeartbeats 4000000 in
set_option maxRecDepth 40000 in
theorem w_X12_choice_51 {F : xH} {ev : xEv} {prim : xRel} {d sz : Nat} {T : yT} {v : Int32} {S' : yS} (N : Nat) (rk : Nat → yS → Option (Int32 × yS)) (hrec : ∀ (i : Nat) (S : yS) (v : Int32) (S' : yS), rk i S = some (v, S') → ∀ (a : Nat), yAt T 12 8 0 a → ykQ [8] F ev prim (d + 4) (235 + i) T S [.ref a] (some (.int v)) S') (S : yS) (l1 : Int32) (l2 : Int32) (hp : xH) (lv : xLv) (a0 : Nat) (fa0 : yAt T 12 8 0 a0) (g0 : xG lv 0 = some (.ref a0)) (g1 : xG lv 1 = some (.int l1)) (g2 : xG lv 2 = some (.int l2)) (hM : cR [8] F ev T S hp) (h : f_X12_choice_51 N rk S l1 l2 = some (v, S')) : yWE ev.2.1 (xstr ev) (xCalls ev xmi (xprog ev) prim (d + 4)) (pX12_choice ev) (51, lv, [], hp, sz, 0) (ypQ [8] F ev T sz (some (.int v)) S') := by
  unfold f_X12_choice_51 at h
  refine ye_aload rfl g0 ?_
  refine ye_getf rfl (hM.obj fa0 ⟨rfl, rfl⟩) rfl ?_
  refine ye_p rfl rfl ?_
  refine ye_icmp_eq rfl (fun h1 => ?_) (fun h1 => ?_)
  · replace h := yiT h1 h
    refine ye_aload rfl g0 ?_
    obtain ⟨w1, S1, hw1, h⟩ := bS_some h
    obtain ⟨y1, cy1, M1⟩ := (hrec 6 S _ _ hw1 a0 fa0) hp sz hM
    refine ye_callV (As := []) (rest := []) 0 (Or.inl rfl) rfl rfl rfl (Nat.le_of_ble_eq_true rfl) (hM.obj fa0 ⟨rfl, rfl⟩) cy1 ?_
    refine ye_p rfl rfl ?_
    have g1_z1 := xG_o1 (i := 3) (v := .int w1) g1 rfl
    have g2_z1 := xG_o1 (i := 3) (v := .int w1) g2 rfl
    have g3_z1 := xG_same lv 3 (.int w1)
    generalize xSt1 lv 3 (.int w1) = lvz1 at g1_z1 g2_z1 g3_z1 ⊢
    refine ye_iload rfl g1_z1 ?_
    refine ye_if_eq rfl (fun h2 => ?_) (fun h2 => ?_)
    · replace h := yiT h2 h
      refine ye_iload rfl g3_z1 ?_
      exact w_X12_choice_75 (prim := prim) (d := d) N rk hrec S1 w1 y1 lvz1 M1 h
    · replace h := yiN h2 h
      refine ye_iload rfl g2_z1 ?_
      refine ye_p rfl rfl ?_
      exact w_X12_choice_75 (prim := prim) (d := d) N rk hrec S1 l2 y1 lvz1 M1 h
  · replace h := yiN h1 h
    refine ye_p rfl rfl ?_
    exact ye_ret rfl rfl (rQ h hM)

def f_X12_choice_0 (N : Nat) (rk : Nat → yS → Option (Int32 × yS)) (S : yS) : Option (Int32 × yS) := bS (rk 0 S) fun w1 S1 => if ¬ (S1.1 8 54) = ((-1)) then f_X12_choice_22 N rk S1 w1 else bS (f_X12_comes N S1 63) fun w2 S2 => if ¬ w2 = 0 then bS (rk 6 S2) fun w3 S3 => if ¬ (S3.1 8 54) = ((-1)) then f_X12_choice_51 N rk S3 w1 w3 else bS (f_X12_comes N S3 58) fun w4 S4 => if ¬ w4 = 0 then f_X12_choice_51 N rk S4 w1 w3 else bS (f_X12_isWrong N S4) fun w5 S5 => some (w5, S5) else f_X12_choice_22 N rk S2 w1
set_option maxHeartbeats 4000000 in
set_option maxRecDepth 40000 in
theorem w_X12_choice_0 {F : xH} {ev : xEv} {prim : xRel} {d sz : Nat} {T : yT} {v : Int32} {S' : yS} (N : Nat) (rk : Nat → yS → Option (Int32 × yS)) (hrec : ∀ (i : Nat) (S : yS) (v : Int32) (S' : yS), rk i S = some (v, S') → ∀ (a : Nat), yAt T 12 8 0 a → ykQ [8] F ev prim (d + 4) (235 + i) T S [.ref a] (some (.int v)) S') (S : yS) (hp : xH) (lv : xLv) (a0 : Nat) (fa0 : yAt T 12 8 0 a0) (g0 : xG lv 0 = some (.ref a0)) (hM : cR [8] F ev T S hp) (h : f_X12_choice_0 N rk S = some (v, S')) : yWE ev.2.1 (xstr ev) (xCalls ev xmi (xprog ev) prim (d + 4)) (pX12_choice ev) (0, lv, [], hp, sz, 0) (ypQ [8] F ev T sz (some (.int v)) S') := by
  unfold f_X12_choice_0 at h
  refine ye_aload rfl g0 ?_
  obtain ⟨w1, S1, hw1, h⟩ := bS_some h
  obtain ⟨y1, cy1, M1⟩ := (hrec 0 S _ _ hw1 a0 fa0) hp sz hM
  refine ye_callV (As := []) (rest := []) 0 (Or.inl rfl) rfl rfl rfl (Nat.le_of_ble_eq_true rfl) (hM.obj fa0 ⟨rfl, rfl⟩) cy1 ?_
  refine ye_p rfl rfl ?_
  have g0_z1 := xG_o1 (i := 1) (v := .int w1) g0 rfl
  have g1_z1 := xG_same lv 1 (.int w1)
  generalize xSt1 lv 1 (.int w1) = lvz1 at g0_z1 g1_z1 ⊢
  refine ye_aload rfl g0_z1 ?_
  refine ye_getf rfl (M1.obj fa0 ⟨rfl, rfl⟩) rfl ?_
  refine ye_p rfl rfl ?_
  refine ye_icmp_ne rfl (fun h1 => ?_) (fun h1 => ?_)
  · replace h := yiT h1 h
    exact w_X12_choice_22 (prim := prim) (d := d) N rk hrec S1 w1 y1 lvz1 g1_z1 M1 h
  · replace h := yiN h1 h
    refine ye_aload rfl g0_z1 ?_
    refine ye_p rfl rfl ?_
    obtain ⟨w2, S2, hw2, h⟩ := bS_some h
    obtain ⟨y2, cy2, M2⟩ := (m_X12_comes (d := d + 2) (T := T) N S1 63 a0 fa0 hw2) y1 sz M1
    refine ye_callV (As := [.int 63]) (rest := []) 0 (Or.inl rfl) rfl rfl rfl (Nat.le_of_ble_eq_true rfl) (M1.obj fa0 ⟨rfl, rfl⟩) cy2 ?_
    refine ye_if_ne rfl (fun h2 => ?_) (fun h2 => ?_)
    · replace h := yiT h2 h
      refine ye_aload rfl g0_z1 ?_
      obtain ⟨w3, S3, hw3, h⟩ := bS_some h
      obtain ⟨y3, cy3, M3⟩ := (hrec 6 S2 _ _ hw3 a0 fa0) y2 sz M2
      refine ye_callV (As := []) (rest := []) 0 (Or.inl rfl) rfl rfl rfl (Nat.le_of_ble_eq_true rfl) (M2.obj fa0 ⟨rfl, rfl⟩) cy3 ?_
      refine ye_p rfl rfl ?_
      have g0_z2 := xG_o1 (i := 2) (v := .int w3) g0_z1 rfl
      have g1_z2 := xG_o1 (i := 2) (v := .int w3) g1_z1 rfl
      have g2_z2 := xG_same lvz1 2 (.int w3)
      generalize xSt1 lvz1 2 (.int w3) = lvz2 at g0_z2 g1_z2 g2_z2 ⊢
      refine ye_aload rfl g0_z2 ?_
      refine ye_getf rfl (M3.obj fa0 ⟨rfl, rfl⟩) rfl ?_
      refine ye_p rfl rfl ?_
      refine ye_icmp_ne rfl (fun h3 => ?_) (fun h3 => ?_)
      · replace h := yiT h3 h
        exact w_X12_choice_51 (prim := prim) (d := d) N rk hrec S3 w1 w3 y3 lvz2 a0 fa0 g0_z2 g1_z2 g2_z2 M3 h
      · replace h := yiN h3 h
        refine ye_aload rfl g0_z2 ?_
        refine ye_p rfl rfl ?_
        obtain ⟨w4, S4, hw4, h⟩ := bS_some h
        obtain ⟨y4, cy4, M4⟩ := (m_X12_comes (d := d + 2) (T := T) N S3 58 a0 fa0 hw4) y3 sz M3
        refine ye_callV (As := [.int 58]) (rest := []) 0 (Or.inl rfl) rfl rfl rfl (Nat.le_of_ble_eq_true rfl) (M3.obj fa0 ⟨rfl, rfl⟩) cy4 ?_
        refine ye_if_ne rfl (fun h4 => ?_) (fun h4 => ?_)
        · replace h := yiT h4 h
          exact w_X12_choice_51 (prim := prim) (d := d) N rk hrec S4 w1 w3 y4 lvz2 a0 fa0 g0_z2 g1_z2 g2_z2 M4 h
        · replace h := yiN h4 h
          refine ye_aload rfl g0_z2 ?_
          obtain ⟨w5, S5, hw5, h⟩ := bS_some h
          obtain ⟨y5, cy5, M5⟩ := (m_X12_isWrong (d := d + 3) (T := T) N S4 a0 fa0 hw5) y4 sz M4
          refine ye_callV (As := []) (rest := []) 0 (Or.inl rfl) rfl rfl rfl (Nat.le_of_ble_eq_true rfl) (M4.obj fa0 ⟨rfl, rfl⟩) cy5 ?_
          exact ye_ret rfl rfl (rQ h M5)
    · replace h := yiN h2 h
      exact w_X12_choice_22 (prim := prim) (d := d) N rk hrec S2 w1 y2 lvz1 g1_z1 M2 h
def f_X12_choice (N : Nat) (rk : Nat → yS → Option (Int32 × yS)) (S : yS) : Option (Int32 × yS) := f_X12_choice_0 N rk S
theorem m_X12_choice {F : xH} {ev : xEv} {prim : xRel} {d : Nat} {T : yT} {v : Int32} {S' : yS} (N : Nat) (rk : Nat → yS → Option (Int32 × yS)) (hrec : ∀ (i : Nat) (S : yS) (v : Int32) (S' : yS), rk i S = some (v, S') → ∀ (a : Nat), yAt T 12 8 0 a → ykQ [8] F ev prim (d + 4) (235 + i) T S [.ref a] (some (.int v)) S') (S : yS) (a0 : Nat) (fa0 : yAt T 12 8 0 a0) (h : f_X12_choice N rk S = some (v, S')) : ykQ [8] F ev prim (d + 5) 241 T S [.ref a0] (some (.int v)) S' :=
  ykQ.of (pg_241 ev) mi_241 (Nat.le_of_ble_eq_true rfl) (fun hp sz hM => w_X12_choice_0 (prim := prim) (d := d) N rk hrec S hp _ a0 fa0 rfl hM h)
def f_par (N : Nat) : Nat → Nat → yS → Option (Int32 × yS)
  | 0, _, _ => none
  | n + 1, i, S => match i with
    | 0 => f_X12_any N (f_par N n) S
    | 1 => f_X12_both N (f_par N n) S
    | 2 => f_X12_held N (f_par N n) S
    | 3 => f_X12_sum N (f_par N n) S
    | 4 => f_X12_product N (f_par N n) S
    | 5 => f_X12_ahead N (f_par N n) S
    | 6 => f_X12_choice N (f_par N n) S
    | _ => none
theorem m_par {F : xH} {ev : xEv} {prim : xRel} {T : yT} (d N n : Nat) : ∀ (i : Nat) (S : yS) (v : Int32) (S' : yS), f_par N n i S = some (v, S') → ∀ (a : Nat), yAt T 12 8 0 a → ykQ [8] F ev prim (d + n + 4) (235 + i) T S [.ref a] (some (.int v)) S' := by
  induction n with
  | zero => intro i S v S' h; exact n_some h
  | succ n ih =>
    intro i S v S' h a fa
    unfold f_par at h
    match i, h with
    | 0, h => exact (show d + (n + 1) + 4 = d + n + 5 by omega) ▸ m_X12_any (d := d + n) N (f_par N n) ih S a fa h
    | 1, h => exact (show d + (n + 1) + 4 = d + n + 5 by omega) ▸ m_X12_both (d := d + n) N (f_par N n) ih S a fa h
    | 2, h => exact (show d + (n + 1) + 4 = d + n + 5 by omega) ▸ m_X12_held (d := d + n) N (f_par N n) ih S a fa h
    | 3, h => exact (show d + (n + 1) + 4 = d + n + 5 by omega) ▸ m_X12_sum (d := d + n) N (f_par N n) ih S a fa h
    | 4, h => exact (show d + (n + 1) + 4 = d + n + 5 by omega) ▸ m_X12_product (d := d + n) N (f_par N n) ih S a fa h
    | 5, h => exact (show d + (n + 1) + 4 = d + n + 5 by omega) ▸ m_X12_ahead (d := d + n) N (f_par N n) ih S a fa h
    | 6, h => exact (show d + (n + 1) + 4 = d + n + 5 by omega) ▸ m_X12_choice (d := d + n) N (f_par N n) ih S a fa h
    | _ + 7, h => exact n_some h
def f_X12_anyT (N : Nat) (S : yS) : Option (Int32 × yS) := f_par N 400 0 S
theorem m_X12_anyT {F : xH} {ev : xEv} {prim : xRel} {d : Nat} {T : yT} {v : Int32} {S' : yS} (N : Nat) (S : yS) (a0 : Nat) (fa0 : yAt T 12 8 0 a0) (h : f_X12_anyT N S = some (v, S')) : ykQ [8] F ev prim (d + 404) 235 T S [.ref a0] (some (.int v)) S' := (show d + 400 + 4 = d + 404 by omega) ▸ m_par d N 400 0 S v S' h a0 fa0
def f_X12_bothT (N : Nat) (S : yS) : Option (Int32 × yS) := f_par N 400 1 S
theorem m_X12_bothT {F : xH} {ev : xEv} {prim : xRel} {d : Nat} {T : yT} {v : Int32} {S' : yS} (N : Nat) (S : yS) (a0 : Nat) (fa0 : yAt T 12 8 0 a0) (h : f_X12_bothT N S = some (v, S')) : ykQ [8] F ev prim (d + 404) 236 T S [.ref a0] (some (.int v)) S' := (show d + 400 + 4 = d + 404 by omega) ▸ m_par d N 400 1 S v S' h a0 fa0
def f_X12_heldT (N : Nat) (S : yS) : Option (Int32 × yS) := f_par N 400 2 S
theorem m_X12_heldT {F : xH} {ev : xEv} {prim : xRel} {d : Nat} {T : yT} {v : Int32} {S' : yS} (N : Nat) (S : yS) (a0 : Nat) (fa0 : yAt T 12 8 0 a0) (h : f_X12_heldT N S = some (v, S')) : ykQ [8] F ev prim (d + 404) 237 T S [.ref a0] (some (.int v)) S' := (show d + 400 + 4 = d + 404 by omega) ▸ m_par d N 400 2 S v S' h a0 fa0
def f_X12_sumT (N : Nat) (S : yS) : Option (Int32 × yS) := f_par N 400 3 S
theorem m_X12_sumT {F : xH} {ev : xEv} {prim : xRel} {d : Nat} {T : yT} {v : Int32} {S' : yS} (N : Nat) (S : yS) (a0 : Nat) (fa0 : yAt T 12 8 0 a0) (h : f_X12_sumT N S = some (v, S')) : ykQ [8] F ev prim (d + 404) 238 T S [.ref a0] (some (.int v)) S' := (show d + 400 + 4 = d + 404 by omega) ▸ m_par d N 400 3 S v S' h a0 fa0
def f_X12_productT (N : Nat) (S : yS) : Option (Int32 × yS) := f_par N 400 4 S
theorem m_X12_productT {F : xH} {ev : xEv} {prim : xRel} {d : Nat} {T : yT} {v : Int32} {S' : yS} (N : Nat) (S : yS) (a0 : Nat) (fa0 : yAt T 12 8 0 a0) (h : f_X12_productT N S = some (v, S')) : ykQ [8] F ev prim (d + 404) 239 T S [.ref a0] (some (.int v)) S' := (show d + 400 + 4 = d + 404 by omega) ▸ m_par d N 400 4 S v S' h a0 fa0
def f_X12_aheadT (N : Nat) (S : yS) : Option (Int32 × yS) := f_par N 400 5 S
theorem m_X12_aheadT {F : xH} {ev : xEv} {prim : xRel} {d : Nat} {T : yT} {v : Int32} {S' : yS} (N : Nat) (S : yS) (a0 : Nat) (fa0 : yAt T 12 8 0 a0) (h : f_X12_aheadT N S = some (v, S')) : ykQ [8] F ev prim (d + 404) 240 T S [.ref a0] (some (.int v)) S' := (show d + 400 + 4 = d + 404 by omega) ▸ m_par d N 400 5 S v S' h a0 fa0
def f_X12_choiceT (N : Nat) (S : yS) : Option (Int32 × yS) := f_par N 400 6 S
theorem m_X12_choiceT {F : xH} {ev : xEv} {prim : xRel} {d : Nat} {T : yT} {v : Int32} {S' : yS} (N : Nat) (S : yS) (a0 : Nat) (fa0 : yAt T 12 8 0 a0) (h : f_X12_choiceT N S = some (v, S')) : ykQ [8] F ev prim (d + 404) 241 T S [.ref a0] (some (.int v)) S' := (show d + 400 + 4 = d + 404 by omega) ▸ m_par d N 400 6 S v S' h a0 fa0


def f_X12_sendFrom_87 (N : Nat) (rk : yS → Int32 → Int32 → Int32 → Option (Int32 × yS)) (k9 : yS → Int32 → Int32 → Int32 → Int32 → Int32 → Int32 → Option (Int32 × yS)) (k24 : yS → Int32 → Int32 → Int32 → Int32 → Int32 → Int32 → Int32 → Int32 → Option (Int32 × yS)) (S : yS) (l1 : Int32) (l2 : Int32) (l3 : Int32) (l4 : Int32) (l5 : Int32) (l6 : Int32) (l7 : Int32) (l8 : Int32) : Option (Int32 × yS) := k24 S l1 l2 l3 l4 l5 l6 l7 (l8 + 1)
set_option maxHeartbeats 4000000 in
set_option maxRecDepth 40000 in
theorem w_X12_sendFrom_87 {F : xH} {ev : xEv} {prim : xRel} {d sz : Nat} {T : yT} {v : Int32} {S' : yS} (N : Nat) (rk : yS → Int32 → Int32 → Int32 → Option (Int32 × yS)) (hrec : ∀ (S : yS) (x0 x1 x2 : Int32) (v : Int32) (S' : yS), rk S x0 x1 x2 = some (v, S') → ∀ (a : Nat), yAt T 12 8 0 a → ykQ [8] F ev prim (d + 2) 289 T S [.ref a, .int x0, .int x1, .int x2] none S') (k9 : yS → Int32 → Int32 → Int32 → Int32 → Int32 → Int32 → Option (Int32 × yS)) (k24 : yS → Int32 → Int32 → Int32 → Int32 → Int32 → Int32 → Int32 → Int32 → Option (Int32 × yS)) (u9 : ∀ (S : yS) (l1 : Int32) (l2 : Int32) (l3 : Int32) (l4 : Int32) (l5 : Int32) (l6 : Int32) (hp : xH) (lv : xLv) (a0 : Nat) (fa0 : yAt T 12 8 0 a0) (g0 : xG lv 0 = some (.ref a0)) (g1 : xG lv 1 = some (.int l1)) (g2 : xG lv 2 = some (.int l2)) (g3 : xG lv 3 = some (.int l3)) (g4 : xG lv 4 = some (.int l4)) (g5 : xG lv 5 = some (.int l5)) (g6 : xG lv 6 = some (.int l6)) (hM : cR [8] F ev T S hp) (h : k9 S l1 l2 l3 l4 l5 l6 = some (v, S')), yWE ev.2.1 (xstr ev) (xCalls ev xmi (xprog ev) prim (d + 2)) (pX12_sendFrom ev) (9, lv, [], hp, sz, 0) (ypQ [8] F ev T sz (none) S')) (u24 : ∀ (S : yS) (l1 : Int32) (l2 : Int32) (l3 : Int32) (l4 : Int32) (l5 : Int32) (l6 : Int32) (l7 : Int32) (l8 : Int32) (hp : xH) (lv : xLv) (a0 : Nat) (fa0 : yAt T 12 8 0 a0) (g0 : xG lv 0 = some (.ref a0)) (g1 : xG lv 1 = some (.int l1)) (g2 : xG lv 2 = some (.int l2)) (g3 : xG lv 3 = some (.int l3)) (g4 : xG lv 4 = some (.int l4)) (g5 : xG lv 5 = some (.int l5)) (g6 : xG lv 6 = some (.int l6)) (g7 : xG lv 7 = some (.int l7)) (g8 : xG lv 8 = some (.int l8)) (hM : cR [8] F ev T S hp) (h : k24 S l1 l2 l3 l4 l5 l6 l7 l8 = some (v, S')), yWE ev.2.1 (xstr ev) (xCalls ev xmi (xprog ev) prim (d + 2)) (pX12_sendFrom ev) (24, lv, [], hp, sz, 0) (ypQ [8] F ev T sz (none) S')) (S : yS) (l1 : Int32) (l2 : Int32) (l3 : Int32) (l4 : Int32) (l5 : Int32) (l6 : Int32) (l7 : Int32) (l8 : Int32) (hp : xH) (lv : xLv) (a0 : Nat) (fa0 : yAt T 12 8 0 a0) (g0 : xG lv 0 = some (.ref a0)) (g1 : xG lv 1 = some (.int l1)) (g2 : xG lv 2 = some (.int l2)) (g3 : xG lv 3 = some (.int l3)) (g4 : xG lv 4 = some (.int l4)) (g5 : xG lv 5 = some (.int l5)) (g6 : xG lv 6 = some (.int l6)) (g7 : xG lv 7 = some (.int l7)) (g8 : xG lv 8 = some (.int l8)) (hM : cR [8] F ev T S hp) (h : f_X12_sendFrom_87 N rk k9 k24 S l1 l2 l3 l4 l5 l6 l7 l8 = some (v, S')) : yWE ev.2.1 (xstr ev) (xCalls ev xmi (xprog ev) prim (d + 2)) (pX12_sendFrom ev) (87, lv, [], hp, sz, 0) (ypQ [8] F ev T sz (none) S') := by
  unfold f_X12_sendFrom_87 at h
  refine ye_iinc rfl g8 ?_
  have g0_z1 := xG_o1 (i := 8) (v := .int (l8 + 1)) g0 rfl
  have g1_z1 := xG_o1 (i := 8) (v := .int (l8 + 1)) g1 rfl
  have g2_z1 := xG_o1 (i := 8) (v := .int (l8 + 1)) g2 rfl
  have g3_z1 := xG_o1 (i := 8) (v := .int (l8 + 1)) g3 rfl
  have g4_z1 := xG_o1 (i := 8) (v := .int (l8 + 1)) g4 rfl
  have g5_z1 := xG_o1 (i := 8) (v := .int (l8 + 1)) g5 rfl
  have g6_z1 := xG_o1 (i := 8) (v := .int (l8 + 1)) g6 rfl
  have g7_z1 := xG_o1 (i := 8) (v := .int (l8 + 1)) g7 rfl
  have g8_z1 := xG_same lv 8 (.int (l8 + 1))
  generalize xSt1 lv 8 (.int (l8 + 1)) = lvz1 at g0_z1 g1_z1 g2_z1 g3_z1 g4_z1 g5_z1 g6_z1 g7_z1 g8_z1 ⊢
  refine ye_p rfl rfl ?_
  exact u24 S l1 l2 l3 l4 l5 l6 l7 (l8 + 1) hp lvz1 a0 fa0 g0_z1 g1_z1 g2_z1 g3_z1 g4_z1 g5_z1 g6_z1 g7_z1 g8_z1 hM h

def f_X12_sendFrom_83 (N : Nat) (rk : yS → Int32 → Int32 → Int32 → Option (Int32 × yS)) (k9 : yS → Int32 → Int32 → Int32 → Int32 → Int32 → Int32 → Option (Int32 × yS)) (k24 : yS → Int32 → Int32 → Int32 → Int32 → Int32 → Int32 → Int32 → Int32 → Option (Int32 × yS)) (S : yS) (l1 : Int32) (l2 : Int32) (l3 : Int32) (l4 : Int32) (l5 : Int32) (l6 : Int32) (l8 : Int32) (l9 : Int32) : Option (Int32 × yS) := f_X12_sendFrom_87 N rk k9 k24 S l1 l2 l3 l4 l5 l6 l9 l8
set_option maxHeartbeats 4000000 in
set_option maxRecDepth 40000 in
theorem w_X12_sendFrom_83 {F : xH} {ev : xEv} {prim : xRel} {d sz : Nat} {T : yT} {v : Int32} {S' : yS} (N : Nat) (rk : yS → Int32 → Int32 → Int32 → Option (Int32 × yS)) (hrec : ∀ (S : yS) (x0 x1 x2 : Int32) (v : Int32) (S' : yS), rk S x0 x1 x2 = some (v, S') → ∀ (a : Nat), yAt T 12 8 0 a → ykQ [8] F ev prim (d + 2) 289 T S [.ref a, .int x0, .int x1, .int x2] none S') (k9 : yS → Int32 → Int32 → Int32 → Int32 → Int32 → Int32 → Option (Int32 × yS)) (k24 : yS → Int32 → Int32 → Int32 → Int32 → Int32 → Int32 → Int32 → Int32 → Option (Int32 × yS)) (u9 : ∀ (S : yS) (l1 : Int32) (l2 : Int32) (l3 : Int32) (l4 : Int32) (l5 : Int32) (l6 : Int32) (hp : xH) (lv : xLv) (a0 : Nat) (fa0 : yAt T 12 8 0 a0) (g0 : xG lv 0 = some (.ref a0)) (g1 : xG lv 1 = some (.int l1)) (g2 : xG lv 2 = some (.int l2)) (g3 : xG lv 3 = some (.int l3)) (g4 : xG lv 4 = some (.int l4)) (g5 : xG lv 5 = some (.int l5)) (g6 : xG lv 6 = some (.int l6)) (hM : cR [8] F ev T S hp) (h : k9 S l1 l2 l3 l4 l5 l6 = some (v, S')), yWE ev.2.1 (xstr ev) (xCalls ev xmi (xprog ev) prim (d + 2)) (pX12_sendFrom ev) (9, lv, [], hp, sz, 0) (ypQ [8] F ev T sz (none) S')) (u24 : ∀ (S : yS) (l1 : Int32) (l2 : Int32) (l3 : Int32) (l4 : Int32) (l5 : Int32) (l6 : Int32) (l7 : Int32) (l8 : Int32) (hp : xH) (lv : xLv) (a0 : Nat) (fa0 : yAt T 12 8 0 a0) (g0 : xG lv 0 = some (.ref a0)) (g1 : xG lv 1 = some (.int l1)) (g2 : xG lv 2 = some (.int l2)) (g3 : xG lv 3 = some (.int l3)) (g4 : xG lv 4 = some (.int l4)) (g5 : xG lv 5 = some (.int l5)) (g6 : xG lv 6 = some (.int l6)) (g7 : xG lv 7 = some (.int l7)) (g8 : xG lv 8 = some (.int l8)) (hM : cR [8] F ev T S hp) (h : k24 S l1 l2 l3 l4 l5 l6 l7 l8 = some (v, S')), yWE ev.2.1 (xstr ev) (xCalls ev xmi (xprog ev) prim (d + 2)) (pX12_sendFrom ev) (24, lv, [], hp, sz, 0) (ypQ [8] F ev T sz (none) S')) (S : yS) (l1 : Int32) (l2 : Int32) (l3 : Int32) (l4 : Int32) (l5 : Int32) (l6 : Int32) (l8 : Int32) (l9 : Int32) (hp : xH) (lv : xLv) (a0 : Nat) (fa0 : yAt T 12 8 0 a0) (g0 : xG lv 0 = some (.ref a0)) (g1 : xG lv 1 = some (.int l1)) (g2 : xG lv 2 = some (.int l2)) (g3 : xG lv 3 = some (.int l3)) (g4 : xG lv 4 = some (.int l4)) (g5 : xG lv 5 = some (.int l5)) (g6 : xG lv 6 = some (.int l6)) (g8 : xG lv 8 = some (.int l8)) (g9 : xG lv 9 = some (.int l9)) (hM : cR [8] F ev T S hp) (h : f_X12_sendFrom_83 N rk k9 k24 S l1 l2 l3 l4 l5 l6 l8 l9 = some (v, S')) : yWE ev.2.1 (xstr ev) (xCalls ev xmi (xprog ev) prim (d + 2)) (pX12_sendFrom ev) (83, lv, [], hp, sz, 0) (ypQ [8] F ev T sz (none) S') := by
  unfold f_X12_sendFrom_83 at h
  refine ye_iload rfl g9 ?_
  refine ye_p rfl rfl ?_
  have g0_z1 := xG_o1 (i := 7) (v := .int l9) g0 rfl
  have g1_z1 := xG_o1 (i := 7) (v := .int l9) g1 rfl
  have g2_z1 := xG_o1 (i := 7) (v := .int l9) g2 rfl
  have g3_z1 := xG_o1 (i := 7) (v := .int l9) g3 rfl
  have g4_z1 := xG_o1 (i := 7) (v := .int l9) g4 rfl
  have g5_z1 := xG_o1 (i := 7) (v := .int l9) g5 rfl
  have g6_z1 := xG_o1 (i := 7) (v := .int l9) g6 rfl
  have g8_z1 := xG_o1 (i := 7) (v := .int l9) g8 rfl
  have g7_z1 := xG_same lv 7 (.int l9)
  generalize xSt1 lv 7 (.int l9) = lvz1 at g0_z1 g1_z1 g2_z1 g3_z1 g4_z1 g5_z1 g6_z1 g8_z1 g7_z1 ⊢
  exact w_X12_sendFrom_87 (prim := prim) (d := d) N rk hrec k9 k24 u9 u24 S l1 l2 l3 l4 l5 l6 l9 l8 hp lvz1 a0 fa0 g0_z1 g1_z1 g2_z1 g3_z1 g4_z1 g5_z1 g6_z1 g7_z1 g8_z1 hM h

def f_X12_sendFrom_112 (N : Nat) (rk : yS → Int32 → Int32 → Int32 → Option (Int32 × yS)) (k9 : yS → Int32 → Int32 → Int32 → Int32 → Int32 → Int32 → Option (Int32 × yS)) (S : yS) (l1 : Int32) (l2 : Int32) (l3 : Int32) (l4 : Int32) (l5 : Int32) (l6 : Int32) : Option (Int32 × yS) := k9 S l1 l2 l3 l4 l5 (l6 + 1)
set_option maxHeartbeats 4000000 in
set_option maxRecDepth 40000 in
theorem w_X12_sendFrom_112 {F : xH} {ev : xEv} {prim : xRel} {d sz : Nat} {T : yT} {v : Int32} {S' : yS} (N : Nat) (rk : yS → Int32 → Int32 → Int32 → Option (Int32 × yS)) (hrec : ∀ (S : yS) (x0 x1 x2 : Int32) (v : Int32) (S' : yS), rk S x0 x1 x2 = some (v, S') → ∀ (a : Nat), yAt T 12 8 0 a → ykQ [8] F ev prim (d + 2) 289 T S [.ref a, .int x0, .int x1, .int x2] none S') (k9 : yS → Int32 → Int32 → Int32 → Int32 → Int32 → Int32 → Option (Int32 × yS)) (u9 : ∀ (S : yS) (l1 : Int32) (l2 : Int32) (l3 : Int32) (l4 : Int32) (l5 : Int32) (l6 : Int32) (hp : xH) (lv : xLv) (a0 : Nat) (fa0 : yAt T 12 8 0 a0) (g0 : xG lv 0 = some (.ref a0)) (g1 : xG lv 1 = some (.int l1)) (g2 : xG lv 2 = some (.int l2)) (g3 : xG lv 3 = some (.int l3)) (g4 : xG lv 4 = some (.int l4)) (g5 : xG lv 5 = some (.int l5)) (g6 : xG lv 6 = some (.int l6)) (hM : cR [8] F ev T S hp) (h : k9 S l1 l2 l3 l4 l5 l6 = some (v, S')), yWE ev.2.1 (xstr ev) (xCalls ev xmi (xprog ev) prim (d + 2)) (pX12_sendFrom ev) (9, lv, [], hp, sz, 0) (ypQ [8] F ev T sz (none) S')) (S : yS) (l1 : Int32) (l2 : Int32) (l3 : Int32) (l4 : Int32) (l5 : Int32) (l6 : Int32) (hp : xH) (lv : xLv) (a0 : Nat) (fa0 : yAt T 12 8 0 a0) (g0 : xG lv 0 = some (.ref a0)) (g1 : xG lv 1 = some (.int l1)) (g2 : xG lv 2 = some (.int l2)) (g3 : xG lv 3 = some (.int l3)) (g4 : xG lv 4 = some (.int l4)) (g5 : xG lv 5 = some (.int l5)) (g6 : xG lv 6 = some (.int l6)) (hM : cR [8] F ev T S hp) (h : f_X12_sendFrom_112 N rk k9 S l1 l2 l3 l4 l5 l6 = some (v, S')) : yWE ev.2.1 (xstr ev) (xCalls ev xmi (xprog ev) prim (d + 2)) (pX12_sendFrom ev) (112, lv, [], hp, sz, 0) (ypQ [8] F ev T sz (none) S') := by
  unfold f_X12_sendFrom_112 at h
  refine ye_iinc rfl g6 ?_
  have g0_z1 := xG_o1 (i := 6) (v := .int (l6 + 1)) g0 rfl
  have g1_z1 := xG_o1 (i := 6) (v := .int (l6 + 1)) g1 rfl
  have g2_z1 := xG_o1 (i := 6) (v := .int (l6 + 1)) g2 rfl
  have g3_z1 := xG_o1 (i := 6) (v := .int (l6 + 1)) g3 rfl
  have g4_z1 := xG_o1 (i := 6) (v := .int (l6 + 1)) g4 rfl
  have g5_z1 := xG_o1 (i := 6) (v := .int (l6 + 1)) g5 rfl
  have g6_z1 := xG_same lv 6 (.int (l6 + 1))
  generalize xSt1 lv 6 (.int (l6 + 1)) = lvz1 at g0_z1 g1_z1 g2_z1 g3_z1 g4_z1 g5_z1 g6_z1 ⊢
  refine ye_p rfl rfl ?_
  exact u9 S l1 l2 l3 l4 l5 (l6 + 1) hp lvz1 a0 fa0 g0_z1 g1_z1 g2_z1 g3_z1 g4_z1 g5_z1 g6_z1 hM h

def f_X12_sendFrom_24 : Nat → Nat → (yS → Int32 → Int32 → Int32 → Option (Int32 × yS)) → (yS → Int32 → Int32 → Int32 → Int32 → Int32 → Int32 → Option (Int32 × yS)) → yS → Int32 → Int32 → Int32 → Int32 → Int32 → Int32 → Int32 → Int32 → Option (Int32 × yS)
  | 0, _, _, _, _, _, _, _, _, _, _, _, _ => none
  | n + 1, N, rk, k9, S, l1, l2, l3, l4, l5, l6, l7, l8 => if (S.1 8 1) ≤ l8 then if ¬ l7 = ((-1)) then f_X12_sendFrom_112 N rk k9 S l1 l2 l3 (l4 + 1) (l5 + l7) l6 else f_X12_sendFrom_112 N rk k9 S l1 l2 l3 l4 l5 l6 else gA 8 l6 fun j1 => bV (f_X12_quarters N S l8 (S.2.1 8 58 j1)) fun w1 => if w1 = ((-1)) then f_X12_sendFrom_87 N rk k9 (fun S l1 l2 l3 l4 l5 l6 l7 l8 => f_X12_sendFrom_24 n N rk k9 S l1 l2 l3 l4 l5 l6 l7 l8) S l1 l2 l3 l4 l5 l6 l7 l8 else gA 2305 ((3 + (2 * l8)) + 1) fun j2 => if (S.2.1 8 48 j2) ≤ 0 then f_X12_sendFrom_87 N rk k9 (fun S l1 l2 l3 l4 l5 l6 l7 l8 => f_X12_sendFrom_24 n N rk k9 S l1 l2 l3 l4 l5 l6 l7 l8) S l1 l2 l3 l4 l5 l6 l7 l8 else if l7 = ((-1)) then f_X12_sendFrom_83 N rk k9 (fun S l1 l2 l3 l4 l5 l6 l7 l8 => f_X12_sendFrom_24 n N rk k9 S l1 l2 l3 l4 l5 l6 l7 l8) S l1 l2 l3 l4 l5 l6 l8 w1 else if l7 ≤ w1 then f_X12_sendFrom_87 N rk k9 (fun S l1 l2 l3 l4 l5 l6 l7 l8 => f_X12_sendFrom_24 n N rk k9 S l1 l2 l3 l4 l5 l6 l7 l8) S l1 l2 l3 l4 l5 l6 l7 l8 else f_X12_sendFrom_83 N rk k9 (fun S l1 l2 l3 l4 l5 l6 l7 l8 => f_X12_sendFrom_24 n N rk k9 S l1 l2 l3 l4 l5 l6 l7 l8) S l1 l2 l3 l4 l5 l6 l8 w1
set_option maxHeartbeats 4000000 in
set_option maxRecDepth 40000 in
theorem w_X12_sendFrom_24 {F : xH} {ev : xEv} {prim : xRel} {d sz : Nat} {T : yT} {v : Int32} {S' : yS} (N : Nat) (rk : yS → Int32 → Int32 → Int32 → Option (Int32 × yS)) (hrec : ∀ (S : yS) (x0 x1 x2 : Int32) (v : Int32) (S' : yS), rk S x0 x1 x2 = some (v, S') → ∀ (a : Nat), yAt T 12 8 0 a → ykQ [8] F ev prim (d + 2) 289 T S [.ref a, .int x0, .int x1, .int x2] none S') (n : Nat) (k9 : yS → Int32 → Int32 → Int32 → Int32 → Int32 → Int32 → Option (Int32 × yS)) (u9 : ∀ (S : yS) (l1 : Int32) (l2 : Int32) (l3 : Int32) (l4 : Int32) (l5 : Int32) (l6 : Int32) (hp : xH) (lv : xLv) (a0 : Nat) (fa0 : yAt T 12 8 0 a0) (g0 : xG lv 0 = some (.ref a0)) (g1 : xG lv 1 = some (.int l1)) (g2 : xG lv 2 = some (.int l2)) (g3 : xG lv 3 = some (.int l3)) (g4 : xG lv 4 = some (.int l4)) (g5 : xG lv 5 = some (.int l5)) (g6 : xG lv 6 = some (.int l6)) (hM : cR [8] F ev T S hp) (h : k9 S l1 l2 l3 l4 l5 l6 = some (v, S')), yWE ev.2.1 (xstr ev) (xCalls ev xmi (xprog ev) prim (d + 2)) (pX12_sendFrom ev) (9, lv, [], hp, sz, 0) (ypQ [8] F ev T sz (none) S')) : ∀ (S : yS) (l1 : Int32) (l2 : Int32) (l3 : Int32) (l4 : Int32) (l5 : Int32) (l6 : Int32) (l7 : Int32) (l8 : Int32) (hp : xH) (lv : xLv) (a0 : Nat) (fa0 : yAt T 12 8 0 a0) (g0 : xG lv 0 = some (.ref a0)) (g1 : xG lv 1 = some (.int l1)) (g2 : xG lv 2 = some (.int l2)) (g3 : xG lv 3 = some (.int l3)) (g4 : xG lv 4 = some (.int l4)) (g5 : xG lv 5 = some (.int l5)) (g6 : xG lv 6 = some (.int l6)) (g7 : xG lv 7 = some (.int l7)) (g8 : xG lv 8 = some (.int l8)) (hM : cR [8] F ev T S hp) (h : f_X12_sendFrom_24 n N rk k9 S l1 l2 l3 l4 l5 l6 l7 l8 = some (v, S')), yWE ev.2.1 (xstr ev) (xCalls ev xmi (xprog ev) prim (d + 2)) (pX12_sendFrom ev) (24, lv, [], hp, sz, 0) (ypQ [8] F ev T sz (none) S') := by
  induction n with
  | zero => intro S l1 l2 l3 l4 l5 l6 l7 l8 hp lv a0 fa0 g0 g1 g2 g3 g4 g5 g6 g7 g8 hM h; exact n_some h
  | succ n ih =>
    intro S l1 l2 l3 l4 l5 l6 l7 l8 hp lv a0 fa0 g0 g1 g2 g3 g4 g5 g6 g7 g8 hM h
    unfold f_X12_sendFrom_24 at h
    refine ye_iload rfl g8 ?_
    refine ye_aload rfl g0 ?_
    refine ye_getf rfl (hM.obj fa0 ⟨rfl, rfl⟩) rfl ?_
    refine ye_icmp_ge rfl (fun h1 => ?_) (fun h1 => ?_)
    · replace h := yiT h1 h
      refine ye_iload rfl g7 ?_
      refine ye_p rfl rfl ?_
      refine ye_icmp_ne rfl (fun h2 => ?_) (fun h2 => ?_)
      · replace h := yiT h2 h
        refine ye_iinc rfl g4 ?_
        have g0_z1 := xG_o1 (i := 4) (v := .int (l4 + 1)) g0 rfl
        have g1_z1 := xG_o1 (i := 4) (v := .int (l4 + 1)) g1 rfl
        have g2_z1 := xG_o1 (i := 4) (v := .int (l4 + 1)) g2 rfl
        have g3_z1 := xG_o1 (i := 4) (v := .int (l4 + 1)) g3 rfl
        have g5_z1 := xG_o1 (i := 4) (v := .int (l4 + 1)) g5 rfl
        have g6_z1 := xG_o1 (i := 4) (v := .int (l4 + 1)) g6 rfl
        have g7_z1 := xG_o1 (i := 4) (v := .int (l4 + 1)) g7 rfl
        have g4_z1 := xG_same lv 4 (.int (l4 + 1))
        generalize xSt1 lv 4 (.int (l4 + 1)) = lvz1 at g0_z1 g1_z1 g2_z1 g3_z1 g5_z1 g6_z1 g7_z1 g4_z1 ⊢
        refine ye_iload rfl g5_z1 ?_
        refine ye_iload rfl g7_z1 ?_
        refine ye_p rfl rfl ?_
        refine ye_p rfl rfl ?_
        have g0_z2 := xG_o1 (i := 5) (v := .int (l5 + l7)) g0_z1 rfl
        have g1_z2 := xG_o1 (i := 5) (v := .int (l5 + l7)) g1_z1 rfl
        have g2_z2 := xG_o1 (i := 5) (v := .int (l5 + l7)) g2_z1 rfl
        have g3_z2 := xG_o1 (i := 5) (v := .int (l5 + l7)) g3_z1 rfl
        have g4_z2 := xG_o1 (i := 5) (v := .int (l5 + l7)) g4_z1 rfl
        have g6_z2 := xG_o1 (i := 5) (v := .int (l5 + l7)) g6_z1 rfl
        have g5_z2 := xG_same lvz1 5 (.int (l5 + l7))
        generalize xSt1 lvz1 5 (.int (l5 + l7)) = lvz2 at g0_z2 g1_z2 g2_z2 g3_z2 g4_z2 g6_z2 g5_z2 ⊢
        exact w_X12_sendFrom_112 (prim := prim) (d := d) N rk hrec k9 u9 S l1 l2 l3 (l4 + 1) (l5 + l7) l6 hp lvz2 a0 fa0 g0_z2 g1_z2 g2_z2 g3_z2 g4_z2 g5_z2 g6_z2 hM h
      · replace h := yiN h2 h
        refine ye_p rfl rfl ?_
        exact w_X12_sendFrom_112 (prim := prim) (d := d) N rk hrec k9 u9 S l1 l2 l3 l4 l5 l6 hp lv a0 fa0 g0 g1 g2 g3 g4 g5 g6 hM h
    · replace h := yiN h1 h
      refine ye_aload rfl g0 ?_
      refine ye_iload rfl g8 ?_
      refine ye_aload rfl g0 ?_
      refine ye_getr rfl (hM.obj fa0 ⟨rfl, rfl⟩) rfl (fun cx1 ecx1 => ?_)
      have fcx1 := yAt.row fa0 ecx1
      refine ye_iload rfl g6 ?_
      obtain ⟨j1, ej1, ij1, h⟩ := gA_some h
      refine yj_ald rfl (hM.arr fcx1 yr_12_58) ij1 ej1 ?_
      obtain ⟨w1, hw1, h⟩ := bV_some h
      refine ye_callV (As := [.int l8, .int (S.2.1 8 58 j1)]) (rest := []) 0 (Or.inl rfl) rfl rfl rfl (Nat.le_of_ble_eq_true rfl) (hM.obj fa0 ⟨rfl, rfl⟩) ((m_X12_quarters (d := d + 0) (T := T) N S l8 (S.2.1 8 58 j1) a0 fa0 hw1) hp sz hM) ?_
      refine ye_p rfl rfl ?_
      have g0_z3 := xG_o1 (i := 9) (v := .int w1) g0 rfl
      have g1_z3 := xG_o1 (i := 9) (v := .int w1) g1 rfl
      have g2_z3 := xG_o1 (i := 9) (v := .int w1) g2 rfl
      have g3_z3 := xG_o1 (i := 9) (v := .int w1) g3 rfl
      have g4_z3 := xG_o1 (i := 9) (v := .int w1) g4 rfl
      have g5_z3 := xG_o1 (i := 9) (v := .int w1) g5 rfl
      have g6_z3 := xG_o1 (i := 9) (v := .int w1) g6 rfl
      have g7_z3 := xG_o1 (i := 9) (v := .int w1) g7 rfl
      have g8_z3 := xG_o1 (i := 9) (v := .int w1) g8 rfl
      have g9_z3 := xG_same lv 9 (.int w1)
      generalize xSt1 lv 9 (.int w1) = lvz3 at g0_z3 g1_z3 g2_z3 g3_z3 g4_z3 g5_z3 g6_z3 g7_z3 g8_z3 g9_z3 ⊢
      refine ye_iload rfl g9_z3 ?_
      refine ye_p rfl rfl ?_
      refine ye_icmp_eq rfl (fun h3 => ?_) (fun h3 => ?_)
      · replace h := yiT h3 h
        exact w_X12_sendFrom_87 (prim := prim) (d := d) N rk hrec k9 (fun S l1 l2 l3 l4 l5 l6 l7 l8 => f_X12_sendFrom_24 n N rk k9 S l1 l2 l3 l4 l5 l6 l7 l8) u9 ih S l1 l2 l3 l4 l5 l6 l7 l8 hp lvz3 a0 fa0 g0_z3 g1_z3 g2_z3 g3_z3 g4_z3 g5_z3 g6_z3 g7_z3 g8_z3 hM h
      · replace h := yiN h3 h
        refine ye_aload rfl g0_z3 ?_
        refine ye_getr rfl (hM.obj fa0 ⟨rfl, rfl⟩) rfl (fun cx2 ecx2 => ?_)
        have fcx2 := yAt.row fa0 ecx2
        refine ye_p rfl rfl ?_
        refine ye_p rfl rfl ?_
        refine ye_iload rfl g8_z3 ?_
        refine ye_p rfl rfl ?_
        refine ye_p rfl rfl ?_
        refine ye_p rfl rfl ?_
        refine ye_p rfl rfl ?_
        obtain ⟨j2, ej2, ij2, h⟩ := gA_some h
        refine yj_ald rfl (hM.arr fcx2 yr_12_48) ij2 ej2 ?_
        refine ye_if_le rfl (fun h4 => ?_) (fun h4 => ?_)
        · replace h := yiT h4 h
          exact w_X12_sendFrom_87 (prim := prim) (d := d) N rk hrec k9 (fun S l1 l2 l3 l4 l5 l6 l7 l8 => f_X12_sendFrom_24 n N rk k9 S l1 l2 l3 l4 l5 l6 l7 l8) u9 ih S l1 l2 l3 l4 l5 l6 l7 l8 hp lvz3 a0 fa0 g0_z3 g1_z3 g2_z3 g3_z3 g4_z3 g5_z3 g6_z3 g7_z3 g8_z3 hM h
        · replace h := yiN h4 h
          refine ye_iload rfl g7_z3 ?_
          refine ye_p rfl rfl ?_
          refine ye_icmp_eq rfl (fun h5 => ?_) (fun h5 => ?_)
          · replace h := yiT h5 h
            exact w_X12_sendFrom_83 (prim := prim) (d := d) N rk hrec k9 (fun S l1 l2 l3 l4 l5 l6 l7 l8 => f_X12_sendFrom_24 n N rk k9 S l1 l2 l3 l4 l5 l6 l7 l8) u9 ih S l1 l2 l3 l4 l5 l6 l8 w1 hp lvz3 a0 fa0 g0_z3 g1_z3 g2_z3 g3_z3 g4_z3 g5_z3 g6_z3 g8_z3 g9_z3 hM h
          · replace h := yiN h5 h
            refine ye_iload rfl g9_z3 ?_
            refine ye_iload rfl g7_z3 ?_
            refine ye_icmp_ge rfl (fun h6 => ?_) (fun h6 => ?_)
            · replace h := yiT h6 h
              exact w_X12_sendFrom_87 (prim := prim) (d := d) N rk hrec k9 (fun S l1 l2 l3 l4 l5 l6 l7 l8 => f_X12_sendFrom_24 n N rk k9 S l1 l2 l3 l4 l5 l6 l7 l8) u9 ih S l1 l2 l3 l4 l5 l6 l7 l8 hp lvz3 a0 fa0 g0_z3 g1_z3 g2_z3 g3_z3 g4_z3 g5_z3 g6_z3 g7_z3 g8_z3 hM h
            · replace h := yiN h6 h
              exact w_X12_sendFrom_83 (prim := prim) (d := d) N rk hrec k9 (fun S l1 l2 l3 l4 l5 l6 l7 l8 => f_X12_sendFrom_24 n N rk k9 S l1 l2 l3 l4 l5 l6 l7 l8) u9 ih S l1 l2 l3 l4 l5 l6 l8 w1 hp lvz3 a0 fa0 g0_z3 g1_z3 g2_z3 g3_z3 g4_z3 g5_z3 g6_z3 g8_z3 g9_z3 hM h

def f_X12_sendFrom_149 (N : Nat) (rk : yS → Int32 → Int32 → Int32 → Option (Int32 × yS)) (S : yS) : Option (Int32 × yS) := some (0, S)
set_option maxHeartbeats 4000000 in
set_option maxRecDepth 40000 in
theorem w_X12_sendFrom_149 {F : xH} {ev : xEv} {prim : xRel} {d sz : Nat} {T : yT} {v : Int32} {S' : yS} (N : Nat) (rk : yS → Int32 → Int32 → Int32 → Option (Int32 × yS)) (hrec : ∀ (S : yS) (x0 x1 x2 : Int32) (v : Int32) (S' : yS), rk S x0 x1 x2 = some (v, S') → ∀ (a : Nat), yAt T 12 8 0 a → ykQ [8] F ev prim (d + 2) 289 T S [.ref a, .int x0, .int x1, .int x2] none S') (S : yS) (hp : xH) (lv : xLv) (hM : cR [8] F ev T S hp) (h : f_X12_sendFrom_149 N rk S = some (v, S')) : yWE ev.2.1 (xstr ev) (xCalls ev xmi (xprog ev) prim (d + 2)) (pX12_sendFrom ev) (149, lv, [], hp, sz, 0) (ypQ [8] F ev T sz (none) S') := by
  unfold f_X12_sendFrom_149 at h
  exact ye_ret rfl rfl (rQV h hM)

def f_X12_sendFrom_171 : Nat → Nat → (yS → Int32 → Int32 → Int32 → Option (Int32 × yS)) → yS → Int32 → Option (Int32 × yS)
  | 0, _, _, _, _ => none
  | n + 1, N, rk, S, l6 => if (S.1 8 59) ≤ l6 then some (0, S) else gA 8 l6 fun j1 => gA 8 l6 fun j2 => sq (yA S 8 61 (upd (S.2.1 8 61) j2 (S.2.1 8 60 j1))) fun S1 => f_X12_sendFrom_171 n N rk S1 (l6 + 1)
set_option maxHeartbeats 4000000 in
set_option maxRecDepth 40000 in
theorem w_X12_sendFrom_171 {F : xH} {ev : xEv} {prim : xRel} {d sz : Nat} {T : yT} {v : Int32} {S' : yS} (N : Nat) (rk : yS → Int32 → Int32 → Int32 → Option (Int32 × yS)) (hrec : ∀ (S : yS) (x0 x1 x2 : Int32) (v : Int32) (S' : yS), rk S x0 x1 x2 = some (v, S') → ∀ (a : Nat), yAt T 12 8 0 a → ykQ [8] F ev prim (d + 2) 289 T S [.ref a, .int x0, .int x1, .int x2] none S') (n : Nat) : ∀ (S : yS) (l6 : Int32) (hp : xH) (lv : xLv) (a0 : Nat) (fa0 : yAt T 12 8 0 a0) (g0 : xG lv 0 = some (.ref a0)) (g6 : xG lv 6 = some (.int l6)) (hM : cR [8] F ev T S hp) (h : f_X12_sendFrom_171 n N rk S l6 = some (v, S')), yWE ev.2.1 (xstr ev) (xCalls ev xmi (xprog ev) prim (d + 2)) (pX12_sendFrom ev) (171, lv, [], hp, sz, 0) (ypQ [8] F ev T sz (none) S') := by
  induction n with
  | zero => intro S l6 hp lv a0 fa0 g0 g6 hM h; exact n_some h
  | succ n ih =>
    intro S l6 hp lv a0 fa0 g0 g6 hM h
    unfold f_X12_sendFrom_171 at h
    refine ye_iload rfl g6 ?_
    refine ye_aload rfl g0 ?_
    refine ye_getf rfl (hM.obj fa0 ⟨rfl, rfl⟩) rfl ?_
    refine ye_icmp_ge rfl (fun h1 => ?_) (fun h1 => ?_)
    · replace h := yiT h1 h
      exact ye_ret rfl rfl (rQV h hM)
    · replace h := yiN h1 h
      refine ye_aload rfl g0 ?_
      refine ye_getr rfl (hM.obj fa0 ⟨rfl, rfl⟩) rfl (fun cx1 ecx1 => ?_)
      have fcx1 := yAt.row fa0 ecx1
      refine ye_iload rfl g6 ?_
      refine ye_aload rfl g0 ?_
      refine ye_getr rfl (hM.obj fa0 ⟨rfl, rfl⟩) rfl (fun cx2 ecx2 => ?_)
      have fcx2 := yAt.row fa0 ecx2
      refine ye_iload rfl g6 ?_
      obtain ⟨j1, ej1, ij1, h⟩ := gA_some h
      refine yj_ald rfl (hM.arr fcx2 yr_12_60) ij1 ej1 ?_
      obtain ⟨j2, ej2, ij2, h⟩ := gA_some h
      obtain ⟨S1, eS1, h⟩ := sq_some h
      refine yw_ast rfl hM fcx1 yr_12_61 (by decide) ij2 ej2 eS1 (fun y1 M1 => ?_)
      refine ye_iinc rfl g6 ?_
      have g0_z1 := xG_o1 (i := 6) (v := .int (l6 + 1)) g0 rfl
      have g6_z1 := xG_same lv 6 (.int (l6 + 1))
      generalize xSt1 lv 6 (.int (l6 + 1)) = lvz1 at g0_z1 g6_z1 ⊢
      refine ye_p rfl rfl ?_
      exact ih S1 (l6 + 1) y1 lvz1 a0 fa0 g0_z1 g6_z1 M1 h

def f_X12_sendFrom_300 (N : Nat) (rk : yS → Int32 → Int32 → Int32 → Option (Int32 × yS)) (k204 : yS → Int32 → Int32 → Int32 → Int32 → Option (Int32 × yS)) (S : yS) (l1 : Int32) (l2 : Int32) (l3 : Int32) (l6 : Int32) : Option (Int32 × yS) := k204 S l1 l2 l3 (l6 + 1)
set_option maxHeartbeats 4000000 in
set_option maxRecDepth 40000 in
theorem w_X12_sendFrom_300 {F : xH} {ev : xEv} {prim : xRel} {d sz : Nat} {T : yT} {v : Int32} {S' : yS} (N : Nat) (rk : yS → Int32 → Int32 → Int32 → Option (Int32 × yS)) (hrec : ∀ (S : yS) (x0 x1 x2 : Int32) (v : Int32) (S' : yS), rk S x0 x1 x2 = some (v, S') → ∀ (a : Nat), yAt T 12 8 0 a → ykQ [8] F ev prim (d + 2) 289 T S [.ref a, .int x0, .int x1, .int x2] none S') (k204 : yS → Int32 → Int32 → Int32 → Int32 → Option (Int32 × yS)) (u204 : ∀ (S : yS) (l1 : Int32) (l2 : Int32) (l3 : Int32) (l6 : Int32) (hp : xH) (lv : xLv) (a0 : Nat) (fa0 : yAt T 12 8 0 a0) (g0 : xG lv 0 = some (.ref a0)) (g1 : xG lv 1 = some (.int l1)) (g2 : xG lv 2 = some (.int l2)) (g3 : xG lv 3 = some (.int l3)) (g6 : xG lv 6 = some (.int l6)) (hM : cR [8] F ev T S hp) (h : k204 S l1 l2 l3 l6 = some (v, S')), yWE ev.2.1 (xstr ev) (xCalls ev xmi (xprog ev) prim (d + 2)) (pX12_sendFrom ev) (204, lv, [], hp, sz, 0) (ypQ [8] F ev T sz (none) S')) (S : yS) (l1 : Int32) (l2 : Int32) (l3 : Int32) (l6 : Int32) (hp : xH) (lv : xLv) (a0 : Nat) (fa0 : yAt T 12 8 0 a0) (g0 : xG lv 0 = some (.ref a0)) (g1 : xG lv 1 = some (.int l1)) (g2 : xG lv 2 = some (.int l2)) (g3 : xG lv 3 = some (.int l3)) (g6 : xG lv 6 = some (.int l6)) (hM : cR [8] F ev T S hp) (h : f_X12_sendFrom_300 N rk k204 S l1 l2 l3 l6 = some (v, S')) : yWE ev.2.1 (xstr ev) (xCalls ev xmi (xprog ev) prim (d + 2)) (pX12_sendFrom ev) (300, lv, [], hp, sz, 0) (ypQ [8] F ev T sz (none) S') := by
  unfold f_X12_sendFrom_300 at h
  refine ye_iinc rfl g6 ?_
  have g0_z1 := xG_o1 (i := 6) (v := .int (l6 + 1)) g0 rfl
  have g1_z1 := xG_o1 (i := 6) (v := .int (l6 + 1)) g1 rfl
  have g2_z1 := xG_o1 (i := 6) (v := .int (l6 + 1)) g2 rfl
  have g3_z1 := xG_o1 (i := 6) (v := .int (l6 + 1)) g3 rfl
  have g6_z1 := xG_same lv 6 (.int (l6 + 1))
  generalize xSt1 lv 6 (.int (l6 + 1)) = lvz1 at g0_z1 g1_z1 g2_z1 g3_z1 g6_z1 ⊢
  refine ye_p rfl rfl ?_
  exact u204 S l1 l2 l3 (l6 + 1) hp lvz1 a0 fa0 g0_z1 g1_z1 g2_z1 g3_z1 g6_z1 hM h

def f_X12_sendFrom_204 : Nat → Nat → (yS → Int32 → Int32 → Int32 → Option (Int32 × yS)) → yS → Int32 → Int32 → Int32 → Int32 → Option (Int32 × yS)
  | 0, _, _, _, _, _, _, _ => none
  | n + 1, N, rk, S, l1, l2, l3, l6 => if (S.1 8 1) ≤ l6 then gA 8 l1 fun j1 => sq (yA S 8 60 (upd (S.2.1 8 60) j1 ((-1)))) fun S1 => bS (rk S1 (l1 + 1) l2 l3) fun w1 S2 => some (0, S2) else gA 8 l1 fun j2 => bV (f_X12_quarters N S l6 (S.2.1 8 58 j2)) fun w2 => if w2 = ((-1)) then f_X12_sendFrom_300 N rk (fun S l1 l2 l3 l6 => f_X12_sendFrom_204 n N rk S l1 l2 l3 l6) S l1 l2 l3 l6 else gA 2305 ((3 + (2 * l6)) + 1) fun j3 => if ¬ (S.2.1 8 48 j3) = 0 then gA 2305 ((3 + (2 * l6)) + 1) fun j4 => gA 2305 ((3 + (2 * l6)) + 1) fun j5 => sq (yA S 8 48 (upd (S.2.1 8 48) j5 ((S.2.1 8 48 j4) - 1))) fun S3 => gA 8 l1 fun j6 => sq (yA S3 8 60 (upd (S3.2.1 8 60) j6 l6)) fun S4 => bS (rk S4 (l1 + 1) (l2 + 1) (l3 + w2)) fun w3 S5 => gA 2305 ((3 + (2 * l6)) + 1) fun j7 => gA 2305 ((3 + (2 * l6)) + 1) fun j8 => sq (yA S5 8 48 (upd (S5.2.1 8 48) j8 ((S5.2.1 8 48 j7) + 1))) fun S6 => f_X12_sendFrom_300 N rk (fun S l1 l2 l3 l6 => f_X12_sendFrom_204 n N rk S l1 l2 l3 l6) S6 l1 l2 l3 l6 else f_X12_sendFrom_300 N rk (fun S l1 l2 l3 l6 => f_X12_sendFrom_204 n N rk S l1 l2 l3 l6) S l1 l2 l3 l6
set_option maxHeartbeats 4000000 in
set_option maxRecDepth 40000 in
theorem w_X12_sendFrom_204 {F : xH} {ev : xEv} {prim : xRel} {d sz : Nat} {T : yT} {v : Int32} {S' : yS} (N : Nat) (rk : yS → Int32 → Int32 → Int32 → Option (Int32 × yS)) (hrec : ∀ (S : yS) (x0 x1 x2 : Int32) (v : Int32) (S' : yS), rk S x0 x1 x2 = some (v, S') → ∀ (a : Nat), yAt T 12 8 0 a → ykQ [8] F ev prim (d + 2) 289 T S [.ref a, .int x0, .int x1, .int x2] none S') (n : Nat) : ∀ (S : yS) (l1 : Int32) (l2 : Int32) (l3 : Int32) (l6 : Int32) (hp : xH) (lv : xLv) (a0 : Nat) (fa0 : yAt T 12 8 0 a0) (g0 : xG lv 0 = some (.ref a0)) (g1 : xG lv 1 = some (.int l1)) (g2 : xG lv 2 = some (.int l2)) (g3 : xG lv 3 = some (.int l3)) (g6 : xG lv 6 = some (.int l6)) (hM : cR [8] F ev T S hp) (h : f_X12_sendFrom_204 n N rk S l1 l2 l3 l6 = some (v, S')), yWE ev.2.1 (xstr ev) (xCalls ev xmi (xprog ev) prim (d + 2)) (pX12_sendFrom ev) (204, lv, [], hp, sz, 0) (ypQ [8] F ev T sz (none) S') := by
  induction n with
  | zero => intro S l1 l2 l3 l6 hp lv a0 fa0 g0 g1 g2 g3 g6 hM h; exact n_some h
  | succ n ih =>
    intro S l1 l2 l3 l6 hp lv a0 fa0 g0 g1 g2 g3 g6 hM h
    unfold f_X12_sendFrom_204 at h
    refine ye_iload rfl g6 ?_
    refine ye_aload rfl g0 ?_
    refine ye_getf rfl (hM.obj fa0 ⟨rfl, rfl⟩) rfl ?_
    refine ye_icmp_ge rfl (fun h1 => ?_) (fun h1 => ?_)
    · replace h := yiT h1 h
      refine ye_aload rfl g0 ?_
      refine ye_getr rfl (hM.obj fa0 ⟨rfl, rfl⟩) rfl (fun cx1 ecx1 => ?_)
      have fcx1 := yAt.row fa0 ecx1
      refine ye_iload rfl g1 ?_
      refine ye_p rfl rfl ?_
      obtain ⟨j1, ej1, ij1, h⟩ := gA_some h
      obtain ⟨S1, eS1, h⟩ := sq_some h
      refine yw_ast rfl hM fcx1 yr_12_60 (by decide) ij1 ej1 eS1 (fun y1 M1 => ?_)
      refine ye_aload rfl g0 ?_
      refine ye_iload rfl g1 ?_
      refine ye_p rfl rfl ?_
      refine ye_p rfl rfl ?_
      refine ye_iload rfl g2 ?_
      refine ye_iload rfl g3 ?_
      obtain ⟨w1, S2, hw1, h⟩ := bS_some h
      obtain ⟨y2, cy2, M2⟩ := (hrec S1 (l1 + 1) l2 l3 _ _ hw1 a0 fa0) y1 sz M1
      refine ye_callV (As := [.int (l1 + 1), .int l2, .int l3]) (rest := []) 0 (Or.inl rfl) rfl rfl rfl (Nat.le_of_ble_eq_true rfl) (M1.obj fa0 ⟨rfl, rfl⟩) cy2 ?_
      exact ye_ret rfl rfl (rQV h M2)
    · replace h := yiN h1 h
      refine ye_p rfl rfl ?_
      refine ye_p rfl rfl ?_
      refine ye_iload rfl g6 ?_
      refine ye_p rfl rfl ?_
      refine ye_p rfl rfl ?_
      refine ye_p rfl rfl ?_
      refine ye_p rfl rfl ?_
      refine ye_p rfl rfl ?_
      have g0_z1 := xG_o1 (i := 7) (v := .int ((3 + (2 * l6)) + 1)) g0 rfl
      have g1_z1 := xG_o1 (i := 7) (v := .int ((3 + (2 * l6)) + 1)) g1 rfl
      have g2_z1 := xG_o1 (i := 7) (v := .int ((3 + (2 * l6)) + 1)) g2 rfl
      have g3_z1 := xG_o1 (i := 7) (v := .int ((3 + (2 * l6)) + 1)) g3 rfl
      have g6_z1 := xG_o1 (i := 7) (v := .int ((3 + (2 * l6)) + 1)) g6 rfl
      have g7_z1 := xG_same lv 7 (.int ((3 + (2 * l6)) + 1))
      generalize xSt1 lv 7 (.int ((3 + (2 * l6)) + 1)) = lvz1 at g0_z1 g1_z1 g2_z1 g3_z1 g6_z1 g7_z1 ⊢
      refine ye_aload rfl g0_z1 ?_
      refine ye_iload rfl g6_z1 ?_
      refine ye_aload rfl g0_z1 ?_
      refine ye_getr rfl (hM.obj fa0 ⟨rfl, rfl⟩) rfl (fun cx2 ecx2 => ?_)
      have fcx2 := yAt.row fa0 ecx2
      refine ye_iload rfl g1_z1 ?_
      obtain ⟨j2, ej2, ij2, h⟩ := gA_some h
      refine yj_ald rfl (hM.arr fcx2 yr_12_58) ij2 ej2 ?_
      obtain ⟨w2, hw2, h⟩ := bV_some h
      refine ye_callV (As := [.int l6, .int (S.2.1 8 58 j2)]) (rest := []) 0 (Or.inl rfl) rfl rfl rfl (Nat.le_of_ble_eq_true rfl) (hM.obj fa0 ⟨rfl, rfl⟩) ((m_X12_quarters (d := d + 0) (T := T) N S l6 (S.2.1 8 58 j2) a0 fa0 hw2) hp sz hM) ?_
      refine ye_p rfl rfl ?_
      have g0_z2 := xG_o1 (i := 8) (v := .int w2) g0_z1 rfl
      have g1_z2 := xG_o1 (i := 8) (v := .int w2) g1_z1 rfl
      have g2_z2 := xG_o1 (i := 8) (v := .int w2) g2_z1 rfl
      have g3_z2 := xG_o1 (i := 8) (v := .int w2) g3_z1 rfl
      have g6_z2 := xG_o1 (i := 8) (v := .int w2) g6_z1 rfl
      have g7_z2 := xG_o1 (i := 8) (v := .int w2) g7_z1 rfl
      have g8_z2 := xG_same lvz1 8 (.int w2)
      generalize xSt1 lvz1 8 (.int w2) = lvz2 at g0_z2 g1_z2 g2_z2 g3_z2 g6_z2 g7_z2 g8_z2 ⊢
      refine ye_iload rfl g8_z2 ?_
      refine ye_p rfl rfl ?_
      refine ye_icmp_eq rfl (fun h2 => ?_) (fun h2 => ?_)
      · replace h := yiT h2 h
        exact w_X12_sendFrom_300 (prim := prim) (d := d) N rk hrec (fun S l1 l2 l3 l6 => f_X12_sendFrom_204 n N rk S l1 l2 l3 l6) ih S l1 l2 l3 l6 hp lvz2 a0 fa0 g0_z2 g1_z2 g2_z2 g3_z2 g6_z2 hM h
      · replace h := yiN h2 h
        refine ye_aload rfl g0_z2 ?_
        refine ye_getr rfl (hM.obj fa0 ⟨rfl, rfl⟩) rfl (fun cx3 ecx3 => ?_)
        have fcx3 := yAt.row fa0 ecx3
        refine ye_iload rfl g7_z2 ?_
        obtain ⟨j3, ej3, ij3, h⟩ := gA_some h
        refine yj_ald rfl (hM.arr fcx3 yr_12_48) ij3 ej3 ?_
        refine ye_if_ne rfl (fun h3 => ?_) (fun h3 => ?_)
        · replace h := yiT h3 h
          refine ye_aload rfl g0_z2 ?_
          refine ye_getr rfl (hM.obj fa0 ⟨rfl, rfl⟩) rfl (fun cx4 ecx4 => ?_)
          have fcx4 := yAt.row fa0 ecx4
          refine ye_iload rfl g7_z2 ?_
          refine ye_p rfl rfl ?_
          obtain ⟨j4, ej4, ij4, h⟩ := gA_some h
          refine yj_ald rfl (hM.arr fcx4 yr_12_48) ij4 ej4 ?_
          refine ye_p rfl rfl ?_
          refine ye_p rfl rfl ?_
          obtain ⟨j5, ej5, ij5, h⟩ := gA_some h
          obtain ⟨S3, eS3, h⟩ := sq_some h
          refine yw_ast rfl hM fcx4 yr_12_48 (by decide) ij5 ej5 eS3 (fun y3 M3 => ?_)
          refine ye_aload rfl g0_z2 ?_
          refine ye_getr rfl (M3.obj fa0 ⟨rfl, rfl⟩) rfl (fun cx5 ecx5 => ?_)
          have fcx5 := yAt.row fa0 ecx5
          refine ye_iload rfl g1_z2 ?_
          refine ye_iload rfl g6_z2 ?_
          obtain ⟨j6, ej6, ij6, h⟩ := gA_some h
          obtain ⟨S4, eS4, h⟩ := sq_some h
          refine yw_ast rfl M3 fcx5 yr_12_60 (by decide) ij6 ej6 eS4 (fun y4 M4 => ?_)
          refine ye_aload rfl g0_z2 ?_
          refine ye_iload rfl g1_z2 ?_
          refine ye_p rfl rfl ?_
          refine ye_p rfl rfl ?_
          refine ye_iload rfl g2_z2 ?_
          refine ye_p rfl rfl ?_
          refine ye_p rfl rfl ?_
          refine ye_iload rfl g3_z2 ?_
          refine ye_iload rfl g8_z2 ?_
          refine ye_p rfl rfl ?_
          obtain ⟨w3, S5, hw3, h⟩ := bS_some h
          obtain ⟨y5, cy5, M5⟩ := (hrec S4 (l1 + 1) (l2 + 1) (l3 + w2) _ _ hw3 a0 fa0) y4 sz M4
          refine ye_callV (As := [.int (l1 + 1), .int (l2 + 1), .int (l3 + w2)]) (rest := []) 0 (Or.inl rfl) rfl rfl rfl (Nat.le_of_ble_eq_true rfl) (M4.obj fa0 ⟨rfl, rfl⟩) cy5 ?_
          refine ye_aload rfl g0_z2 ?_
          refine ye_getr rfl (M5.obj fa0 ⟨rfl, rfl⟩) rfl (fun cx6 ecx6 => ?_)
          have fcx6 := yAt.row fa0 ecx6
          refine ye_iload rfl g7_z2 ?_
          refine ye_p rfl rfl ?_
          obtain ⟨j7, ej7, ij7, h⟩ := gA_some h
          refine yj_ald rfl (M5.arr fcx6 yr_12_48) ij7 ej7 ?_
          refine ye_p rfl rfl ?_
          refine ye_p rfl rfl ?_
          obtain ⟨j8, ej8, ij8, h⟩ := gA_some h
          obtain ⟨S6, eS6, h⟩ := sq_some h
          refine yw_ast rfl M5 fcx6 yr_12_48 (by decide) ij8 ej8 eS6 (fun y6 M6 => ?_)
          exact w_X12_sendFrom_300 (prim := prim) (d := d) N rk hrec (fun S l1 l2 l3 l6 => f_X12_sendFrom_204 n N rk S l1 l2 l3 l6) ih S6 l1 l2 l3 l6 y6 lvz2 a0 fa0 g0_z2 g1_z2 g2_z2 g3_z2 g6_z2 M6 h
        · replace h := yiN h3 h
          refine ye_p rfl rfl ?_
          exact w_X12_sendFrom_300 (prim := prim) (d := d) N rk hrec (fun S l1 l2 l3 l6 => f_X12_sendFrom_204 n N rk S l1 l2 l3 l6) ih S l1 l2 l3 l6 hp lvz2 a0 fa0 g0_z2 g1_z2 g2_z2 g3_z2 g6_z2 hM h

def f_X12_sendFrom_150 (N : Nat) (rk : yS → Int32 → Int32 → Int32 → Option (Int32 × yS)) (S : yS) (l1 : Int32) (l2 : Int32) (l3 : Int32) : Option (Int32 × yS) := if ¬ l1 = (S.1 8 59) then f_X12_sendFrom_204 N N rk S l1 l2 l3 0 else sq (yI S 8 62 l2) fun S1 => sq (yI S1 8 63 l3) fun S2 => f_X12_sendFrom_171 N N rk S2 0
set_option maxHeartbeats 4000000 in
set_option maxRecDepth 40000 in
theorem w_X12_sendFrom_150 {F : xH} {ev : xEv} {prim : xRel} {d sz : Nat} {T : yT} {v : Int32} {S' : yS} (N : Nat) (rk : yS → Int32 → Int32 → Int32 → Option (Int32 × yS)) (hrec : ∀ (S : yS) (x0 x1 x2 : Int32) (v : Int32) (S' : yS), rk S x0 x1 x2 = some (v, S') → ∀ (a : Nat), yAt T 12 8 0 a → ykQ [8] F ev prim (d + 2) 289 T S [.ref a, .int x0, .int x1, .int x2] none S') (S : yS) (l1 : Int32) (l2 : Int32) (l3 : Int32) (hp : xH) (lv : xLv) (a0 : Nat) (fa0 : yAt T 12 8 0 a0) (g0 : xG lv 0 = some (.ref a0)) (g1 : xG lv 1 = some (.int l1)) (g2 : xG lv 2 = some (.int l2)) (g3 : xG lv 3 = some (.int l3)) (hM : cR [8] F ev T S hp) (h : f_X12_sendFrom_150 N rk S l1 l2 l3 = some (v, S')) : yWE ev.2.1 (xstr ev) (xCalls ev xmi (xprog ev) prim (d + 2)) (pX12_sendFrom ev) (150, lv, [], hp, sz, 0) (ypQ [8] F ev T sz (none) S') := by
  unfold f_X12_sendFrom_150 at h
  refine ye_iload rfl g1 ?_
  refine ye_aload rfl g0 ?_
  refine ye_getf rfl (hM.obj fa0 ⟨rfl, rfl⟩) rfl ?_
  refine ye_icmp_ne rfl (fun h1 => ?_) (fun h1 => ?_)
  · replace h := yiT h1 h
    refine ye_p rfl rfl ?_
    refine ye_p rfl rfl ?_
    have g0_z1 := xG_o1 (i := 6) (v := .int 0) g0 rfl
    have g1_z1 := xG_o1 (i := 6) (v := .int 0) g1 rfl
    have g2_z1 := xG_o1 (i := 6) (v := .int 0) g2 rfl
    have g3_z1 := xG_o1 (i := 6) (v := .int 0) g3 rfl
    have g6_z1 := xG_same lv 6 (.int 0)
    generalize xSt1 lv 6 (.int 0) = lvz1 at g0_z1 g1_z1 g2_z1 g3_z1 g6_z1 ⊢
    exact w_X12_sendFrom_204 (prim := prim) (d := d) N rk hrec N S l1 l2 l3 0 hp lvz1 a0 fa0 g0_z1 g1_z1 g2_z1 g3_z1 g6_z1 hM h
  · replace h := yiN h1 h
    refine ye_aload rfl g0 ?_
    refine ye_iload rfl g2 ?_
    obtain ⟨S1, eS1, h⟩ := sq_some h
    refine yw_putI rfl hM fa0 rfl ⟨rfl, rfl⟩ (Nat.le_of_ble_eq_true rfl) rfl rfl (ys_12_62 ev T _ l2) (fun q => absurd q (by decide)) eS1 (fun y1 M1 => ?_)
    refine ye_aload rfl g0 ?_
    refine ye_iload rfl g3 ?_
    obtain ⟨S2, eS2, h⟩ := sq_some h
    refine yw_putI rfl M1 fa0 rfl ⟨rfl, rfl⟩ (Nat.le_of_ble_eq_true rfl) rfl rfl (ys_12_63 ev T _ l3) (fun q => absurd q (by decide)) eS2 (fun y2 M2 => ?_)
    refine ye_p rfl rfl ?_
    refine ye_p rfl rfl ?_
    have g0_z2 := xG_o1 (i := 6) (v := .int 0) g0 rfl
    have g6_z2 := xG_same lv 6 (.int 0)
    generalize xSt1 lv 6 (.int 0) = lvz2 at g0_z2 g6_z2 ⊢
    exact w_X12_sendFrom_171 (prim := prim) (d := d) N rk hrec N S2 0 y2 lvz2 a0 fa0 g0_z2 g6_z2 M2 h

def f_X12_sendFrom_9 : Nat → Nat → (yS → Int32 → Int32 → Int32 → Option (Int32 × yS)) → yS → Int32 → Int32 → Int32 → Int32 → Int32 → Int32 → Option (Int32 × yS)
  | 0, _, _, _, _, _, _, _, _, _ => none
  | n + 1, N, rk, S, l1, l2, l3, l4, l5, l6 => if (S.1 8 59) ≤ l6 then if (l2 + l4) < (S.1 8 62) then f_X12_sendFrom_149 N rk S else if ¬ (l2 + l4) = (S.1 8 62) then f_X12_sendFrom_150 N rk S l1 l2 l3 else if l5 < (S.1 8 63) then f_X12_sendFrom_150 N rk S l1 l2 l3 else f_X12_sendFrom_149 N rk S else f_X12_sendFrom_24 N N rk (fun S l1 l2 l3 l4 l5 l6 => f_X12_sendFrom_9 n N rk S l1 l2 l3 l4 l5 l6) S l1 l2 l3 l4 l5 l6 ((-1)) 0
set_option maxHeartbeats 4000000 in
set_option maxRecDepth 40000 in
theorem w_X12_sendFrom_9 {F : xH} {ev : xEv} {prim : xRel} {d sz : Nat} {T : yT} {v : Int32} {S' : yS} (N : Nat) (rk : yS → Int32 → Int32 → Int32 → Option (Int32 × yS)) (hrec : ∀ (S : yS) (x0 x1 x2 : Int32) (v : Int32) (S' : yS), rk S x0 x1 x2 = some (v, S') → ∀ (a : Nat), yAt T 12 8 0 a → ykQ [8] F ev prim (d + 2) 289 T S [.ref a, .int x0, .int x1, .int x2] none S') (n : Nat) : ∀ (S : yS) (l1 : Int32) (l2 : Int32) (l3 : Int32) (l4 : Int32) (l5 : Int32) (l6 : Int32) (hp : xH) (lv : xLv) (a0 : Nat) (fa0 : yAt T 12 8 0 a0) (g0 : xG lv 0 = some (.ref a0)) (g1 : xG lv 1 = some (.int l1)) (g2 : xG lv 2 = some (.int l2)) (g3 : xG lv 3 = some (.int l3)) (g4 : xG lv 4 = some (.int l4)) (g5 : xG lv 5 = some (.int l5)) (g6 : xG lv 6 = some (.int l6)) (hM : cR [8] F ev T S hp) (h : f_X12_sendFrom_9 n N rk S l1 l2 l3 l4 l5 l6 = some (v, S')), yWE ev.2.1 (xstr ev) (xCalls ev xmi (xprog ev) prim (d + 2)) (pX12_sendFrom ev) (9, lv, [], hp, sz, 0) (ypQ [8] F ev T sz (none) S') := by
  induction n with
  | zero => intro S l1 l2 l3 l4 l5 l6 hp lv a0 fa0 g0 g1 g2 g3 g4 g5 g6 hM h; exact n_some h
  | succ n ih =>
    intro S l1 l2 l3 l4 l5 l6 hp lv a0 fa0 g0 g1 g2 g3 g4 g5 g6 hM h
    unfold f_X12_sendFrom_9 at h
    refine ye_iload rfl g6 ?_
    refine ye_aload rfl g0 ?_
    refine ye_getf rfl (hM.obj fa0 ⟨rfl, rfl⟩) rfl ?_
    refine ye_icmp_ge rfl (fun h1 => ?_) (fun h1 => ?_)
    · replace h := yiT h1 h
      refine ye_iload rfl g2 ?_
      refine ye_iload rfl g4 ?_
      refine ye_p rfl rfl ?_
      refine ye_aload rfl g0 ?_
      refine ye_getf rfl (hM.obj fa0 ⟨rfl, rfl⟩) rfl ?_
      refine ye_icmp_lt rfl (fun h2 => ?_) (fun h2 => ?_)
      · replace h := yiT h2 h
        exact w_X12_sendFrom_149 (prim := prim) (d := d) N rk hrec S hp lv hM h
      · replace h := yiN h2 h
        refine ye_iload rfl g2 ?_
        refine ye_iload rfl g4 ?_
        refine ye_p rfl rfl ?_
        refine ye_aload rfl g0 ?_
        refine ye_getf rfl (hM.obj fa0 ⟨rfl, rfl⟩) rfl ?_
        refine ye_icmp_ne rfl (fun h3 => ?_) (fun h3 => ?_)
        · replace h := yiT h3 h
          exact w_X12_sendFrom_150 (prim := prim) (d := d) N rk hrec S l1 l2 l3 hp lv a0 fa0 g0 g1 g2 g3 hM h
        · replace h := yiN h3 h
          refine ye_iload rfl g5 ?_
          refine ye_aload rfl g0 ?_
          refine ye_getf rfl (hM.obj fa0 ⟨rfl, rfl⟩) rfl ?_
          refine ye_icmp_lt rfl (fun h4 => ?_) (fun h4 => ?_)
          · replace h := yiT h4 h
            exact w_X12_sendFrom_150 (prim := prim) (d := d) N rk hrec S l1 l2 l3 hp lv a0 fa0 g0 g1 g2 g3 hM h
          · replace h := yiN h4 h
            exact w_X12_sendFrom_149 (prim := prim) (d := d) N rk hrec S hp lv hM h
    · replace h := yiN h1 h
      refine ye_p rfl rfl ?_
      refine ye_p rfl rfl ?_
      have g0_z1 := xG_o1 (i := 7) (v := .int ((-1))) g0 rfl
      have g1_z1 := xG_o1 (i := 7) (v := .int ((-1))) g1 rfl
      have g2_z1 := xG_o1 (i := 7) (v := .int ((-1))) g2 rfl
      have g3_z1 := xG_o1 (i := 7) (v := .int ((-1))) g3 rfl
      have g4_z1 := xG_o1 (i := 7) (v := .int ((-1))) g4 rfl
      have g5_z1 := xG_o1 (i := 7) (v := .int ((-1))) g5 rfl
      have g6_z1 := xG_o1 (i := 7) (v := .int ((-1))) g6 rfl
      have g7_z1 := xG_same lv 7 (.int ((-1)))
      generalize xSt1 lv 7 (.int ((-1))) = lvz1 at g0_z1 g1_z1 g2_z1 g3_z1 g4_z1 g5_z1 g6_z1 g7_z1 ⊢
      refine ye_p rfl rfl ?_
      refine ye_p rfl rfl ?_
      have g0_z2 := xG_o1 (i := 8) (v := .int 0) g0_z1 rfl
      have g1_z2 := xG_o1 (i := 8) (v := .int 0) g1_z1 rfl
      have g2_z2 := xG_o1 (i := 8) (v := .int 0) g2_z1 rfl
      have g3_z2 := xG_o1 (i := 8) (v := .int 0) g3_z1 rfl
      have g4_z2 := xG_o1 (i := 8) (v := .int 0) g4_z1 rfl
      have g5_z2 := xG_o1 (i := 8) (v := .int 0) g5_z1 rfl
      have g6_z2 := xG_o1 (i := 8) (v := .int 0) g6_z1 rfl
      have g7_z2 := xG_o1 (i := 8) (v := .int 0) g7_z1 rfl
      have g8_z2 := xG_same lvz1 8 (.int 0)
      generalize xSt1 lvz1 8 (.int 0) = lvz2 at g0_z2 g1_z2 g2_z2 g3_z2 g4_z2 g5_z2 g6_z2 g7_z2 g8_z2 ⊢
      exact w_X12_sendFrom_24 (prim := prim) (d := d) N rk hrec N (fun S l1 l2 l3 l4 l5 l6 => f_X12_sendFrom_9 n N rk S l1 l2 l3 l4 l5 l6) ih S l1 l2 l3 l4 l5 l6 ((-1)) 0 hp lvz2 a0 fa0 g0_z2 g1_z2 g2_z2 g3_z2 g4_z2 g5_z2 g6_z2 g7_z2 g8_z2 hM h

def f_X12_sendFrom_0 (N : Nat) (rk : yS → Int32 → Int32 → Int32 → Option (Int32 × yS)) (S : yS) (l1 : Int32) (l2 : Int32) (l3 : Int32) : Option (Int32 × yS) := f_X12_sendFrom_9 N N rk S l1 l2 l3 0 l3 l1
set_option maxHeartbeats 4000000 in
set_option maxRecDepth 40000 in
theorem w_X12_sendFrom_0 {F : xH} {ev : xEv} {prim : xRel} {d sz : Nat} {T : yT} {v : Int32} {S' : yS} (N : Nat) (rk : yS → Int32 → Int32 → Int32 → Option (Int32 × yS)) (hrec : ∀ (S : yS) (x0 x1 x2 : Int32) (v : Int32) (S' : yS), rk S x0 x1 x2 = some (v, S') → ∀ (a : Nat), yAt T 12 8 0 a → ykQ [8] F ev prim (d + 2) 289 T S [.ref a, .int x0, .int x1, .int x2] none S') (S : yS) (l1 : Int32) (l2 : Int32) (l3 : Int32) (hp : xH) (lv : xLv) (a0 : Nat) (fa0 : yAt T 12 8 0 a0) (g0 : xG lv 0 = some (.ref a0)) (g1 : xG lv 1 = some (.int l1)) (g2 : xG lv 2 = some (.int l2)) (g3 : xG lv 3 = some (.int l3)) (hM : cR [8] F ev T S hp) (h : f_X12_sendFrom_0 N rk S l1 l2 l3 = some (v, S')) : yWE ev.2.1 (xstr ev) (xCalls ev xmi (xprog ev) prim (d + 2)) (pX12_sendFrom ev) (0, lv, [], hp, sz, 0) (ypQ [8] F ev T sz (none) S') := by
  unfold f_X12_sendFrom_0 at h
  refine ye_p rfl rfl ?_
  refine ye_p rfl rfl ?_
  have g0_z1 := xG_o1 (i := 4) (v := .int 0) g0 rfl
  have g1_z1 := xG_o1 (i := 4) (v := .int 0) g1 rfl
  have g2_z1 := xG_o1 (i := 4) (v := .int 0) g2 rfl
  have g3_z1 := xG_o1 (i := 4) (v := .int 0) g3 rfl
  have g4_z1 := xG_same lv 4 (.int 0)
  generalize xSt1 lv 4 (.int 0) = lvz1 at g0_z1 g1_z1 g2_z1 g3_z1 g4_z1 ⊢
  refine ye_iload rfl g3_z1 ?_
  refine ye_p rfl rfl ?_
  have g0_z2 := xG_o1 (i := 5) (v := .int l3) g0_z1 rfl
  have g1_z2 := xG_o1 (i := 5) (v := .int l3) g1_z1 rfl
  have g2_z2 := xG_o1 (i := 5) (v := .int l3) g2_z1 rfl
  have g3_z2 := xG_o1 (i := 5) (v := .int l3) g3_z1 rfl
  have g4_z2 := xG_o1 (i := 5) (v := .int l3) g4_z1 rfl
  have g5_z2 := xG_same lvz1 5 (.int l3)
  generalize xSt1 lvz1 5 (.int l3) = lvz2 at g0_z2 g1_z2 g2_z2 g3_z2 g4_z2 g5_z2 ⊢
  refine ye_iload rfl g1_z2 ?_
  refine ye_p rfl rfl ?_
  have g0_z3 := xG_o1 (i := 6) (v := .int l1) g0_z2 rfl
  have g1_z3 := xG_o1 (i := 6) (v := .int l1) g1_z2 rfl
  have g2_z3 := xG_o1 (i := 6) (v := .int l1) g2_z2 rfl
  have g3_z3 := xG_o1 (i := 6) (v := .int l1) g3_z2 rfl
  have g4_z3 := xG_o1 (i := 6) (v := .int l1) g4_z2 rfl
  have g5_z3 := xG_o1 (i := 6) (v := .int l1) g5_z2 rfl
  have g6_z3 := xG_same lvz2 6 (.int l1)
  generalize xSt1 lvz2 6 (.int l1) = lvz3 at g0_z3 g1_z3 g2_z3 g3_z3 g4_z3 g5_z3 g6_z3 ⊢
  exact w_X12_sendFrom_9 (prim := prim) (d := d) N rk hrec N S l1 l2 l3 0 l3 l1 hp lvz3 a0 fa0 g0_z3 g1_z3 g2_z3 g3_z3 g4_z3 g5_z3 g6_z3 hM h
def f_X12_sendFrom (N : Nat) (rk : yS → Int32 → Int32 → Int32 → Option (Int32 × yS)) (S : yS) (xl1 : Int32) (xl2 : Int32) (xl3 : Int32) : Option (Int32 × yS) := f_X12_sendFrom_0 N rk S xl1 xl2 xl3
theorem m_X12_sendFrom {F : xH} {ev : xEv} {prim : xRel} {d : Nat} {T : yT} {v : Int32} {S' : yS} (N : Nat) (rk : yS → Int32 → Int32 → Int32 → Option (Int32 × yS)) (hrec : ∀ (S : yS) (x0 x1 x2 : Int32) (v : Int32) (S' : yS), rk S x0 x1 x2 = some (v, S') → ∀ (a : Nat), yAt T 12 8 0 a → ykQ [8] F ev prim (d + 2) 289 T S [.ref a, .int x0, .int x1, .int x2] none S') (S : yS) (xl1 : Int32) (xl2 : Int32) (xl3 : Int32) (a0 : Nat) (fa0 : yAt T 12 8 0 a0) (h : f_X12_sendFrom N rk S xl1 xl2 xl3 = some (v, S')) : ykQ [8] F ev prim (d + 3) 289 T S [.ref a0, .int xl1, .int xl2, .int xl3] (none) S' :=
  ykQ.of (pg_289 ev) mi_289 (Nat.le_of_ble_eq_true rfl) (fun hp sz hM => w_X12_sendFrom_0 (prim := prim) (d := d) N rk hrec S xl1 xl2 xl3 hp _ a0 fa0 rfl rfl rfl rfl hM h)
def f_sendR (N : Nat) : Nat → yS → Int32 → Int32 → Int32 → Option (Int32 × yS)
  | 0, _, _, _, _ => none
  | n + 1, S, x, y, z => f_X12_sendFrom N (f_sendR N n) S x y z
theorem m_sendR {F : xH} {ev : xEv} {prim : xRel} {T : yT} (d N n : Nat) : ∀ (S : yS) (x0 x1 x2 : Int32) (v : Int32) (S' : yS), f_sendR N n S x0 x1 x2 = some (v, S') → ∀ (a : Nat), yAt T 12 8 0 a → ykQ [8] F ev prim (d + n + 2) 289 T S [.ref a, .int x0, .int x1, .int x2] none S' := by
  induction n with
  | zero => intro S x0 x1 x2 v S' h; exact n_some h
  | succ n ih =>
    intro S x0 x1 x2 v S' h a fa
    unfold f_sendR at h
    exact (show d + (n + 1) + 2 = d + n + 3 by omega) ▸ m_X12_sendFrom (d := d + n) N (f_sendR N n) ih S x0 x1 x2 a fa h
def f_X12_sendFromT (N : Nat) (S : yS) (x0 x1 x2 : Int32) : Option (Int32 × yS) := f_sendR N 10 S x0 x1 x2
theorem m_X12_sendFromT {F : xH} {ev : xEv} {prim : xRel} {d : Nat} {T : yT} {v : Int32} {S' : yS} (N : Nat) (S : yS) (x0 x1 x2 : Int32) (a0 : Nat) (fa0 : yAt T 12 8 0 a0) (h : f_X12_sendFromT N S x0 x1 x2 = some (v, S')) : ykQ [8] F ev prim (d + 12) 289 T S [.ref a0, .int x0, .int x1, .int x2] none S' := (show d + 10 + 2 = d + 12 by omega) ▸ m_sendR d N 10 S x0 x1 x2 v S' h a0 fa0

