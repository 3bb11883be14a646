
def f_X8l_inForce_72 (N : Nat) (k5 : yS → Int32 → Int32 → Int32 → Int32 → Option Int32) (S : yS) (l1 : Int32) (l2 : Int32) (l3 : Int32) (l4 : Int32) : Option Int32 := k5 S l1 l2 l3 (l4 + 1)
set_option maxHeartbeats 4000000 in
set_option maxRecDepth 40000 in
theorem w_X8l_inForce_72 {F : xH} {ev : xEv} {prim : xRel} {d sz : Nat} {T : yT} {v : Int32} {hp : xH} (N : Nat) (k5 : yS → Int32 → Int32 → Int32 → Int32 → Option Int32) (u5 : ∀ (S : yS) (l1 : Int32) (l2 : Int32) (l3 : Int32) (l4 : Int32) (lv : xLv) (a0 : Nat) (fa0 : yAt T 8 5 0 a0) (g0 : xG lv 0 = some (.ref a0)) (g1 : xG lv 1 = some (.int l1)) (g2 : xG lv 2 = some (.int l2)) (g3 : xG lv 3 = some (.int l3)) (g4 : xG lv 4 = some (.int l4)) (hM : cR [0, 1, 2, 3, 4, 5, 6, 7] F ev T S hp) (h : k5 S l1 l2 l3 l4 = some v), yWE ev.2.1 (xstr ev) (xCalls ev xmi (xprog ev) prim (d + 0)) (pX8_inForce ev) (5, lv, [], hp, sz, 0) (ypP hp sz (.int v))) (S : yS) (l1 : Int32) (l2 : Int32) (l3 : Int32) (l4 : Int32) (lv : xLv) (a0 : Nat) (fa0 : yAt T 8 5 0 a0) (g0 : xG lv 0 = some (.ref a0)) (g1 : xG lv 1 = some (.int l1)) (g2 : xG lv 2 = some (.int l2)) (g3 : xG lv 3 = some (.int l3)) (g4 : xG lv 4 = some (.int l4)) (hM : cR [0, 1, 2, 3, 4, 5, 6, 7] F ev T S hp) (h : f_X8l_inForce_72 N k5 S l1 l2 l3 l4 = some v) : yWE ev.2.1 (xstr ev) (xCalls ev xmi (xprog ev) prim (d + 0)) (pX8_inForce ev) (72, lv, [], hp, sz, 0) (ypP hp sz (.int v)) := by
  unfold f_X8l_inForce_72 at h
  refine ye_iinc rfl g4 ?_
  have g0_z1 := xG_o1 (i := 4) (v := .int (l4 + 1)) g0 rfl
  have g1_z1 := xG_o1 (i := 4) (v := .int (l4 + 1)) g1 rfl
  have g2_z1 := xG_o1 (i := 4) (v := .int (l4 + 1)) g2 rfl
  have g3_z1 := xG_o1 (i := 4) (v := .int (l4 + 1)) g3 rfl
  have g4_z1 := xG_same lv 4 (.int (l4 + 1))
  generalize xSt1 lv 4 (.int (l4 + 1)) = lvz1 at g0_z1 g1_z1 g2_z1 g3_z1 g4_z1 ⊢
  refine ye_p rfl rfl ?_
  exact u5 S l1 l2 l3 (l4 + 1) lvz1 a0 fa0 g0_z1 g1_z1 g2_z1 g3_z1 g4_z1 hM h

def f_X8l_inForce_69 (N : Nat) (k5 : yS → Int32 → Int32 → Int32 → Int32 → Option Int32) (S : yS) (l1 : Int32) (l2 : Int32) (l4 : Int32) : Option Int32 := f_X8l_inForce_72 N k5 S l1 l2 l4 l4
set_option maxHeartbeats 4000000 in
set_option maxRecDepth 40000 in
theorem w_X8l_inForce_69 {F : xH} {ev : xEv} {prim : xRel} {d sz : Nat} {T : yT} {v : Int32} {hp : xH} (N : Nat) (k5 : yS → Int32 → Int32 → Int32 → Int32 → Option Int32) (u5 : ∀ (S : yS) (l1 : Int32) (l2 : Int32) (l3 : Int32) (l4 : Int32) (lv : xLv) (a0 : Nat) (fa0 : yAt T 8 5 0 a0) (g0 : xG lv 0 = some (.ref a0)) (g1 : xG lv 1 = some (.int l1)) (g2 : xG lv 2 = some (.int l2)) (g3 : xG lv 3 = some (.int l3)) (g4 : xG lv 4 = some (.int l4)) (hM : cR [0, 1, 2, 3, 4, 5, 6, 7] F ev T S hp) (h : k5 S l1 l2 l3 l4 = some v), yWE ev.2.1 (xstr ev) (xCalls ev xmi (xprog ev) prim (d + 0)) (pX8_inForce ev) (5, lv, [], hp, sz, 0) (ypP hp sz (.int v))) (S : yS) (l1 : Int32) (l2 : Int32) (l4 : Int32) (lv : xLv) (a0 : Nat) (fa0 : yAt T 8 5 0 a0) (g0 : xG lv 0 = some (.ref a0)) (g1 : xG lv 1 = some (.int l1)) (g2 : xG lv 2 = some (.int l2)) (g4 : xG lv 4 = some (.int l4)) (hM : cR [0, 1, 2, 3, 4, 5, 6, 7] F ev T S hp) (h : f_X8l_inForce_69 N k5 S l1 l2 l4 = some v) : yWE ev.2.1 (xstr ev) (xCalls ev xmi (xprog ev) prim (d + 0)) (pX8_inForce ev) (69, lv, [], hp, sz, 0) (ypP hp sz (.int v)) := by
  unfold f_X8l_inForce_69 at h
  refine ye_iload rfl g4 ?_
  refine ye_p rfl rfl ?_
  have g0_z1 := xG_o1 (i := 3) (v := .int l4) g0 rfl
  have g1_z1 := xG_o1 (i := 3) (v := .int l4) g1 rfl
  have g2_z1 := xG_o1 (i := 3) (v := .int l4) g2 rfl
  have g4_z1 := xG_o1 (i := 3) (v := .int l4) g4 rfl
  have g3_z1 := xG_same lv 3 (.int l4)
  generalize xSt1 lv 3 (.int l4) = lvz1 at g0_z1 g1_z1 g2_z1 g4_z1 g3_z1 ⊢
  exact w_X8l_inForce_72 (prim := prim) (d := d) N k5 u5 S l1 l2 l4 l4 lvz1 a0 fa0 g0_z1 g1_z1 g2_z1 g3_z1 g4_z1 hM h

def f_X8l_inForce_41 (N : Nat) (k5 : yS → Int32 → Int32 → Int32 → Int32 → Option Int32) (S : yS) (l1 : Int32) (l2 : Int32) (l3 : Int32) (l4 : Int32) (t0 : Int32) : Option Int32 := if t0 = 0 then f_X8l_inForce_72 N k5 S l1 l2 l3 l4 else if l3 = ((-1)) then f_X8l_inForce_69 N k5 S l1 l2 l4 else gA 12 l4 fun j1 => gA 12 l3 fun j2 => if (S.2.1 5 4 j1) < (S.2.1 5 4 j2) then f_X8l_inForce_72 N k5 S l1 l2 l3 l4 else f_X8l_inForce_69 N k5 S l1 l2 l4
set_option maxHeartbeats 4000000 in
set_option maxRecDepth 40000 in
theorem w_X8l_inForce_41 {F : xH} {ev : xEv} {prim : xRel} {d sz : Nat} {T : yT} {v : Int32} {hp : xH} (N : Nat) (k5 : yS → Int32 → Int32 → Int32 → Int32 → Option Int32) (u5 : ∀ (S : yS) (l1 : Int32) (l2 : Int32) (l3 : Int32) (l4 : Int32) (lv : xLv) (a0 : Nat) (fa0 : yAt T 8 5 0 a0) (g0 : xG lv 0 = some (.ref a0)) (g1 : xG lv 1 = some (.int l1)) (g2 : xG lv 2 = some (.int l2)) (g3 : xG lv 3 = some (.int l3)) (g4 : xG lv 4 = some (.int l4)) (hM : cR [0, 1, 2, 3, 4, 5, 6, 7] F ev T S hp) (h : k5 S l1 l2 l3 l4 = some v), yWE ev.2.1 (xstr ev) (xCalls ev xmi (xprog ev) prim (d + 0)) (pX8_inForce ev) (5, lv, [], hp, sz, 0) (ypP hp sz (.int v))) (S : yS) (l1 : Int32) (l2 : Int32) (l3 : Int32) (l4 : Int32) (t0 : Int32) (lv : xLv) (a0 : Nat) (fa0 : yAt T 8 5 0 a0) (g0 : xG lv 0 = some (.ref a0)) (g1 : xG lv 1 = some (.int l1)) (g2 : xG lv 2 = some (.int l2)) (g3 : xG lv 3 = some (.int l3)) (g4 : xG lv 4 = some (.int l4)) (hM : cR [0, 1, 2, 3, 4, 5, 6, 7] F ev T S hp) (h : f_X8l_inForce_41 N k5 S l1 l2 l3 l4 t0 = some v) : yWE ev.2.1 (xstr ev) (xCalls ev xmi (xprog ev) prim (d + 0)) (pX8_inForce ev) (41, lv, [.int t0], hp, sz, 0) (ypP hp sz (.int v)) := by
  unfold f_X8l_inForce_41 at h
  refine ye_p rfl rfl ?_
  have g0_z1 := xG_o1 (i := 5) (v := .int t0) g0 rfl
  have g1_z1 := xG_o1 (i := 5) (v := .int t0) g1 rfl
  have g2_z1 := xG_o1 (i := 5) (v := .int t0) g2 rfl
  have g3_z1 := xG_o1 (i := 5) (v := .int t0) g3 rfl
  have g4_z1 := xG_o1 (i := 5) (v := .int t0) g4 rfl
  have g5_z1 := xG_same lv 5 (.int t0)
  generalize xSt1 lv 5 (.int t0) = lvz1 at g0_z1 g1_z1 g2_z1 g3_z1 g4_z1 g5_z1 ⊢
  refine ye_iload rfl g5_z1 ?_
  refine ye_if_eq rfl (fun h1 => ?_) (fun h1 => ?_)
  · replace h := yiT h1 h
    exact w_X8l_inForce_72 (prim := prim) (d := d) N k5 u5 S l1 l2 l3 l4 lvz1 a0 fa0 g0_z1 g1_z1 g2_z1 g3_z1 g4_z1 hM h
  · replace h := yiN h1 h
    refine ye_iload rfl g3_z1 ?_
    refine ye_p rfl rfl ?_
    refine ye_icmp_eq rfl (fun h2 => ?_) (fun h2 => ?_)
    · replace h := yiT h2 h
      exact w_X8l_inForce_69 (prim := prim) (d := d) N k5 u5 S l1 l2 l4 lvz1 a0 fa0 g0_z1 g1_z1 g2_z1 g4_z1 hM h
    · replace h := yiN h2 h
      refine ye_aload rfl g0_z1 ?_
      refine ye_getr rfl (hM.obj fa0 ⟨rfl, rfl⟩) rfl (fun cx1 ecx1 => ?_)
      have fcx1 := yAt.row fa0 ecx1
      refine ye_iload rfl g4_z1 ?_
      obtain ⟨j1, ej1, ij1, h⟩ := gA_some h
      refine yj_ald rfl (hM.arr fcx1 yr_8_4) ij1 ej1 ?_
      refine ye_aload rfl g0_z1 ?_
      refine ye_getr rfl (hM.obj fa0 ⟨rfl, rfl⟩) rfl (fun cx2 ecx2 => ?_)
      have fcx2 := yAt.row fa0 ecx2
      refine ye_iload rfl g3_z1 ?_
      obtain ⟨j2, ej2, ij2, h⟩ := gA_some h
      refine yj_ald rfl (hM.arr fcx2 yr_8_4) ij2 ej2 ?_
      refine ye_icmp_lt rfl (fun h3 => ?_) (fun h3 => ?_)
      · replace h := yiT h3 h
        exact w_X8l_inForce_72 (prim := prim) (d := d) N k5 u5 S l1 l2 l3 l4 lvz1 a0 fa0 g0_z1 g1_z1 g2_z1 g3_z1 g4_z1 hM h
      · replace h := yiN h3 h
        exact w_X8l_inForce_69 (prim := prim) (d := d) N k5 u5 S l1 l2 l4 lvz1 a0 fa0 g0_z1 g1_z1 g2_z1 g4_z1 hM h

def f_X8l_inForce_40 (N : Nat) (k5 : yS → Int32 → Int32 → Int32 → Int32 → Option Int32) (S : yS) (l1 : Int32) (l2 : Int32) (l3 : Int32) (l4 : Int32) : Option Int32 := f_X8l_inForce_41 N k5 S l1 l2 l3 l4 0
set_option maxHeartbeats 4000000 in
set_option maxRecDepth 40000 in
theorem w_X8l_inForce_40 {F : xH} {ev : xEv} {prim : xRel} {d sz : Nat} {T : yT} {v : Int32} {hp : xH} (N : Nat) (k5 : yS → Int32 → Int32 → Int32 → Int32 → Option Int32) (u5 : ∀ (S : yS) (l1 : Int32) (l2 : Int32) (l3 : Int32) (l4 : Int32) (lv : xLv) (a0 : Nat) (fa0 : yAt T 8 5 0 a0) (g0 : xG lv 0 = some (.ref a0)) (g1 : xG lv 1 = some (.int l1)) (g2 : xG lv 2 = some (.int l2)) (g3 : xG lv 3 = some (.int l3)) (g4 : xG lv 4 = some (.int l4)) (hM : cR [0, 1, 2, 3, 4, 5, 6, 7] F ev T S hp) (h : k5 S l1 l2 l3 l4 = some v), yWE ev.2.1 (xstr ev) (xCalls ev xmi (xprog ev) prim (d + 0)) (pX8_inForce ev) (5, lv, [], hp, sz, 0) (ypP hp sz (.int v))) (S : yS) (l1 : Int32) (l2 : Int32) (l3 : Int32) (l4 : Int32) (lv : xLv) (a0 : Nat) (fa0 : yAt T 8 5 0 a0) (g0 : xG lv 0 = some (.ref a0)) (g1 : xG lv 1 = some (.int l1)) (g2 : xG lv 2 = some (.int l2)) (g3 : xG lv 3 = some (.int l3)) (g4 : xG lv 4 = some (.int l4)) (hM : cR [0, 1, 2, 3, 4, 5, 6, 7] F ev T S hp) (h : f_X8l_inForce_40 N k5 S l1 l2 l3 l4 = some v) : yWE ev.2.1 (xstr ev) (xCalls ev xmi (xprog ev) prim (d + 0)) (pX8_inForce ev) (40, lv, [], hp, sz, 0) (ypP hp sz (.int v)) := by
  unfold f_X8l_inForce_40 at h
  refine ye_p rfl rfl ?_
  exact w_X8l_inForce_41 (prim := prim) (d := d) N k5 u5 S l1 l2 l3 l4 0 lv a0 fa0 g0 g1 g2 g3 g4 hM h

def f_X8l_inForce_5 : Nat → Nat → yS → Int32 → Int32 → Int32 → Int32 → Option Int32
  | 0, _, _, _, _, _, _ => none
  | n + 1, N, S, l1, l2, l3, l4 => if (S.1 5 0) ≤ l4 then some l3 else gA 12 l4 fun j1 => if ¬ (S.2.1 5 3 j1) = l1 then f_X8l_inForce_40 N (fun S l1 l2 l3 l4 => f_X8l_inForce_5 n N S l1 l2 l3 l4) S l1 l2 l3 l4 else gA 12 l4 fun j2 => if l2 < (S.2.1 5 4 j2) then f_X8l_inForce_40 N (fun S l1 l2 l3 l4 => f_X8l_inForce_5 n N S l1 l2 l3 l4) S l1 l2 l3 l4 else f_X8l_inForce_41 N (fun S l1 l2 l3 l4 => f_X8l_inForce_5 n N S l1 l2 l3 l4) S l1 l2 l3 l4 1
set_option maxHeartbeats 4000000 in
set_option maxRecDepth 40000 in
theorem w_X8l_inForce_5 {F : xH} {ev : xEv} {prim : xRel} {d sz : Nat} {T : yT} {v : Int32} {hp : xH} (N : Nat) (n : Nat) : ∀ (S : yS) (l1 : Int32) (l2 : Int32) (l3 : Int32) (l4 : Int32) (lv : xLv) (a0 : Nat) (fa0 : yAt T 8 5 0 a0) (g0 : xG lv 0 = some (.ref a0)) (g1 : xG lv 1 = some (.int l1)) (g2 : xG lv 2 = some (.int l2)) (g3 : xG lv 3 = some (.int l3)) (g4 : xG lv 4 = some (.int l4)) (hM : cR [0, 1, 2, 3, 4, 5, 6, 7] F ev T S hp) (h : f_X8l_inForce_5 n N S l1 l2 l3 l4 = some v), yWE ev.2.1 (xstr ev) (xCalls ev xmi (xprog ev) prim (d + 0)) (pX8_inForce ev) (5, lv, [], hp, sz, 0) (ypP hp sz (.int v)) := by
  induction n with
  | zero => intro S l1 l2 l3 l4 lv a0 fa0 g0 g1 g2 g3 g4 hM h; exact n_some h
  | succ n ih =>
    intro S l1 l2 l3 l4 lv a0 fa0 g0 g1 g2 g3 g4 hM h
    unfold f_X8l_inForce_5 at h
    refine ye_iload rfl g4 ?_
    refine ye_aload rfl g0 ?_
    refine ye_getf rfl (hM.obj fa0 ⟨rfl, rfl⟩) rfl ?_
    refine ye_icmp_ge rfl (fun h1 => ?_) (fun h1 => ?_)
    · replace h := yiT h1 h
      refine ye_iload rfl g3 ?_
      exact ye_ret rfl rfl (rP h)
    · replace h := yiN h1 h
      refine ye_aload rfl g0 ?_
      refine ye_getr rfl (hM.obj fa0 ⟨rfl, rfl⟩) rfl (fun cx1 ecx1 => ?_)
      have fcx1 := yAt.row fa0 ecx1
      refine ye_iload rfl g4 ?_
      obtain ⟨j1, ej1, ij1, h⟩ := gA_some h
      refine yj_ald rfl (hM.arr fcx1 yr_8_3) ij1 ej1 ?_
      refine ye_iload rfl g1 ?_
      refine ye_icmp_ne rfl (fun h2 => ?_) (fun h2 => ?_)
      · replace h := yiT h2 h
        exact w_X8l_inForce_40 (prim := prim) (d := d) N (fun S l1 l2 l3 l4 => f_X8l_inForce_5 n N S l1 l2 l3 l4) ih S l1 l2 l3 l4 lv a0 fa0 g0 g1 g2 g3 g4 hM h
      · replace h := yiN h2 h
        refine ye_aload rfl g0 ?_
        refine ye_getr rfl (hM.obj fa0 ⟨rfl, rfl⟩) rfl (fun cx2 ecx2 => ?_)
        have fcx2 := yAt.row fa0 ecx2
        refine ye_iload rfl g4 ?_
        obtain ⟨j2, ej2, ij2, h⟩ := gA_some h
        refine yj_ald rfl (hM.arr fcx2 yr_8_4) ij2 ej2 ?_
        refine ye_iload rfl g2 ?_
        refine ye_icmp_gt rfl (fun h3 => ?_) (fun h3 => ?_)
        · replace h := yiT h3 h
          exact w_X8l_inForce_40 (prim := prim) (d := d) N (fun S l1 l2 l3 l4 => f_X8l_inForce_5 n N S l1 l2 l3 l4) ih S l1 l2 l3 l4 lv a0 fa0 g0 g1 g2 g3 g4 hM h
        · replace h := yiN h3 h
          refine ye_p rfl rfl ?_
          refine ye_p rfl rfl ?_
          exact w_X8l_inForce_41 (prim := prim) (d := d) N (fun S l1 l2 l3 l4 => f_X8l_inForce_5 n N S l1 l2 l3 l4) ih S l1 l2 l3 l4 1 lv a0 fa0 g0 g1 g2 g3 g4 hM h

def f_X8l_inForce_0 (N : Nat) (S : yS) (l1 : Int32) (l2 : Int32) : Option Int32 := f_X8l_inForce_5 N N S l1 l2 ((-1)) 0
set_option maxHeartbeats 4000000 in
set_option maxRecDepth 40000 in
theorem w_X8l_inForce_0 {F : xH} {ev : xEv} {prim : xRel} {d sz : Nat} {T : yT} {v : Int32} {hp : xH} (N : Nat) (S : yS) (l1 : Int32) (l2 : Int32) (lv : xLv) (a0 : Nat) (fa0 : yAt T 8 5 0 a0) (g0 : xG lv 0 = some (.ref a0)) (g1 : xG lv 1 = some (.int l1)) (g2 : xG lv 2 = some (.int l2)) (hM : cR [0, 1, 2, 3, 4, 5, 6, 7] F ev T S hp) (h : f_X8l_inForce_0 N S l1 l2 = some v) : yWE ev.2.1 (xstr ev) (xCalls ev xmi (xprog ev) prim (d + 0)) (pX8_inForce ev) (0, lv, [], hp, sz, 0) (ypP hp sz (.int v)) := by
  unfold f_X8l_inForce_0 at h
  refine ye_p rfl rfl ?_
  refine ye_p rfl rfl ?_
  have g0_z1 := xG_o1 (i := 3) (v := .int ((-1))) g0 rfl
  have g1_z1 := xG_o1 (i := 3) (v := .int ((-1))) g1 rfl
  have g2_z1 := xG_o1 (i := 3) (v := .int ((-1))) g2 rfl
  have g3_z1 := xG_same lv 3 (.int ((-1)))
  generalize xSt1 lv 3 (.int ((-1))) = lvz1 at g0_z1 g1_z1 g2_z1 g3_z1 ⊢
  refine ye_p rfl rfl ?_
  refine ye_p rfl rfl ?_
  have g0_z2 := xG_o1 (i := 4) (v := .int 0) g0_z1 rfl
  have g1_z2 := xG_o1 (i := 4) (v := .int 0) g1_z1 rfl
  have g2_z2 := xG_o1 (i := 4) (v := .int 0) g2_z1 rfl
  have g3_z2 := xG_o1 (i := 4) (v := .int 0) g3_z1 rfl
  have g4_z2 := xG_same lvz1 4 (.int 0)
  generalize xSt1 lvz1 4 (.int 0) = lvz2 at g0_z2 g1_z2 g2_z2 g3_z2 g4_z2 ⊢
  exact w_X8l_inForce_5 (prim := prim) (d := d) N N S l1 l2 ((-1)) 0 lvz2 a0 fa0 g0_z2 g1_z2 g2_z2 g3_z2 g4_z2 hM h
def f_X8l_inForce (N : Nat) (S : yS) (xl1 : Int32) (xl2 : Int32) : Option Int32 := f_X8l_inForce_0 N S xl1 xl2
theorem m_X8l_inForce {F : xH} {ev : xEv} {prim : xRel} {d : Nat} {T : yT} {v : Int32} (N : Nat) (S : yS) (xl1 : Int32) (xl2 : Int32) (a0 : Nat) (fa0 : yAt T 8 5 0 a0) (h : f_X8l_inForce N S xl1 xl2 = some v) : ykP [0, 1, 2, 3, 4, 5, 6, 7] F ev prim (d + 1) 87 T S [.ref a0, .int xl1, .int xl2] (.int v) :=
  ykP.of (pg_87 ev) mi_87 (Nat.le_of_ble_eq_true rfl) (fun hp sz hM => w_X8l_inForce_0 (prim := prim) (d := d) N S xl1 xl2 _ a0 fa0 rfl rfl rfl hM h)

def f_X8r_put_22 (N : Nat) (S : yS) : Option (Int32 × yS) := some (0, S)
set_option maxHeartbeats 4000000 in
set_option maxRecDepth 40000 in
theorem w_X8r_put_22 {F : xH} {ev : xEv} {prim : xRel} {d sz : Nat} {T : yT} {v : Int32} {S' : yS} (N : Nat) (S : yS) (hp : xH) (lv : xLv) (hM : cR [0, 1, 2, 3, 4, 5, 6, 7] F ev T S hp) (h : f_X8r_put_22 N S = some (v, S')) : yWE ev.2.1 (xstr ev) (xCalls ev xmi (xprog ev) prim (d + 0)) (pX8_put ev) (22, lv, [], hp, sz, 0) (ypQ [0, 1, 2, 3, 4, 5, 6, 7] F ev T sz (none) S') := by
  unfold f_X8r_put_22 at h
  exact ye_ret rfl rfl (rQV h hM)

def f_X8r_put_0 (N : Nat) (S : yS) (l1 : Int32) (l2 : Int32) : Option (Int32 × yS) := if (l1 - 97) < 0 then f_X8r_put_22 N S else if 26 ≤ (l1 - 97) then f_X8r_put_22 N S else gA 26 (l1 - 97) fun j1 => sq (yA S 4 2 (upd (S.2.1 4 2) j1 l2)) fun S1 => f_X8r_put_22 N S1
set_option maxHeartbeats 4000000 in
set_option maxRecDepth 40000 in
theorem w_X8r_put_0 {F : xH} {ev : xEv} {prim : xRel} {d sz : Nat} {T : yT} {v : Int32} {S' : yS} (N : Nat) (S : yS) (l1 : Int32) (l2 : Int32) (hp : xH) (lv : xLv) (a0 : Nat) (fa0 : yAt T 14 4 0 a0) (g0 : xG lv 0 = some (.ref a0)) (g1 : xG lv 1 = some (.int l1)) (g2 : xG lv 2 = some (.int l2)) (hM : cR [0, 1, 2, 3, 4, 5, 6, 7] F ev T S hp) (h : f_X8r_put_0 N S l1 l2 = some (v, S')) : yWE ev.2.1 (xstr ev) (xCalls ev xmi (xprog ev) prim (d + 0)) (pX8_put ev) (0, lv, [], hp, sz, 0) (ypQ [0, 1, 2, 3, 4, 5, 6, 7] F ev T sz (none) S') := by
  unfold f_X8r_put_0 at h
  refine ye_iload rfl g1 ?_
  refine ye_p rfl rfl ?_
  refine ye_p rfl rfl ?_
  refine ye_p rfl rfl ?_
  have g0_z1 := xG_o1 (i := 3) (v := .int (l1 - 97)) g0 rfl
  have g2_z1 := xG_o1 (i := 3) (v := .int (l1 - 97)) g2 rfl
  have g3_z1 := xG_same lv 3 (.int (l1 - 97))
  generalize xSt1 lv 3 (.int (l1 - 97)) = lvz1 at g0_z1 g2_z1 g3_z1 ⊢
  refine ye_iload rfl g3_z1 ?_
  refine ye_if_lt rfl (fun h1 => ?_) (fun h1 => ?_)
  · replace h := yiT h1 h
    exact w_X8r_put_22 (prim := prim) (d := d) N S hp lvz1 hM h
  · replace h := yiN h1 h
    refine ye_iload rfl g3_z1 ?_
    refine ye_p rfl rfl ?_
    refine ye_icmp_ge rfl (fun h2 => ?_) (fun h2 => ?_)
    · replace h := yiT h2 h
      exact w_X8r_put_22 (prim := prim) (d := d) N S hp lvz1 hM h
    · replace h := yiN h2 h
      refine ye_aload rfl g0_z1 ?_
      refine ye_getr rfl (hM.obj fa0 ⟨rfl, rfl⟩) rfl (fun cx1 ecx1 => ?_)
      have fcx1 := yAt.row fa0 ecx1
      refine ye_iload rfl g3_z1 ?_
      refine ye_iload rfl g2_z1 ?_
      obtain ⟨j1, ej1, ij1, h⟩ := gA_some h
      obtain ⟨S1, eS1, h⟩ := sq_some h
      refine yw_ast rfl hM fcx1 yr_14_2 (by decide) ij1 ej1 eS1 (fun y1 M1 => ?_)
      exact w_X8r_put_22 (prim := prim) (d := d) N S1 y1 lvz1 M1 h
def f_X8r_put (N : Nat) (S : yS) (xl1 : Int32) (xl2 : Int32) : Option (Int32 × yS) := f_X8r_put_0 N S xl1 xl2
theorem m_X8r_put {F : xH} {ev : xEv} {prim : xRel} {d : Nat} {T : yT} {v : Int32} {S' : yS} (N : Nat) (S : yS) (xl1 : Int32) (xl2 : Int32) (a0 : Nat) (fa0 : yAt T 14 4 0 a0) (h : f_X8r_put N S xl1 xl2 = some (v, S')) : ykQ [0, 1, 2, 3, 4, 5, 6, 7] F ev prim (d + 1) 88 T S [.ref a0, .int xl1, .int xl2] (none) S' :=
  ykQ.of (pg_88 ev) mi_88 (Nat.le_of_ble_eq_true rfl) (fun hp sz hM => w_X8r_put_0 (prim := prim) (d := d) N S xl1 xl2 hp _ a0 fa0 rfl rfl rfl hM h)

def f_X8l_put_22 (N : Nat) (S : yS) : Option (Int32 × yS) := some (0, S)
set_option maxHeartbeats 4000000 in
set_option maxRecDepth 40000 in
theorem w_X8l_put_22 {F : xH} {ev : xEv} {prim : xRel} {d sz : Nat} {T : yT} {v : Int32} {S' : yS} (N : Nat) (S : yS) (hp : xH) (lv : xLv) (hM : cR [0, 1, 2, 3, 4, 5, 6, 7] F ev T S hp) (h : f_X8l_put_22 N S = some (v, S')) : yWE ev.2.1 (xstr ev) (xCalls ev xmi (xprog ev) prim (d + 0)) (pX8_put ev) (22, lv, [], hp, sz, 0) (ypQ [0, 1, 2, 3, 4, 5, 6, 7] F ev T sz (none) S') := by
  unfold f_X8l_put_22 at h
  exact ye_ret rfl rfl (rQV h hM)

def f_X8l_put_0 (N : Nat) (S : yS) (l1 : Int32) (l2 : Int32) : Option (Int32 × yS) := if (l1 - 97) < 0 then f_X8l_put_22 N S else if 26 ≤ (l1 - 97) then f_X8l_put_22 N S else gA 26 (l1 - 97) fun j1 => sq (yA S 5 2 (upd (S.2.1 5 2) j1 l2)) fun S1 => f_X8l_put_22 N S1
set_option maxHeartbeats 4000000 in
set_option maxRecDepth 40000 in
theorem w_X8l_put_0 {F : xH} {ev : xEv} {prim : xRel} {d sz : Nat} {T : yT} {v : Int32} {S' : yS} (N : Nat) (S : yS) (l1 : Int32) (l2 : Int32) (hp : xH) (lv : xLv) (a0 : Nat) (fa0 : yAt T 8 5 0 a0) (g0 : xG lv 0 = some (.ref a0)) (g1 : xG lv 1 = some (.int l1)) (g2 : xG lv 2 = some (.int l2)) (hM : cR [0, 1, 2, 3, 4, 5, 6, 7] F ev T S hp) (h : f_X8l_put_0 N S l1 l2 = some (v, S')) : yWE ev.2.1 (xstr ev) (xCalls ev xmi (xprog ev) prim (d + 0)) (pX8_put ev) (0, lv, [], hp, sz, 0) (ypQ [0, 1, 2, 3, 4, 5, 6, 7] F ev T sz (none) S') := by
  unfold f_X8l_put_0 at h
  refine ye_iload rfl g1 ?_
  refine ye_p rfl rfl ?_
  refine ye_p rfl rfl ?_
  refine ye_p rfl rfl ?_
  have g0_z1 := xG_o1 (i := 3) (v := .int (l1 - 97)) g0 rfl
  have g2_z1 := xG_o1 (i := 3) (v := .int (l1 - 97)) g2 rfl
  have g3_z1 := xG_same lv 3 (.int (l1 - 97))
  generalize xSt1 lv 3 (.int (l1 - 97)) = lvz1 at g0_z1 g2_z1 g3_z1 ⊢
  refine ye_iload rfl g3_z1 ?_
  refine ye_if_lt rfl (fun h1 => ?_) (fun h1 => ?_)
  · replace h := yiT h1 h
    exact w_X8l_put_22 (prim := prim) (d := d) N S hp lvz1 hM h
  · replace h := yiN h1 h
    refine ye_iload rfl g3_z1 ?_
    refine ye_p rfl rfl ?_
    refine ye_icmp_ge rfl (fun h2 => ?_) (fun h2 => ?_)
    · replace h := yiT h2 h
      exact w_X8l_put_22 (prim := prim) (d := d) N S hp lvz1 hM h
    · replace h := yiN h2 h
      refine ye_aload rfl g0_z1 ?_
      refine ye_getr rfl (hM.obj fa0 ⟨rfl, rfl⟩) rfl (fun cx1 ecx1 => ?_)
      have fcx1 := yAt.row fa0 ecx1
      refine ye_iload rfl g3_z1 ?_
      refine ye_iload rfl g2_z1 ?_
      obtain ⟨j1, ej1, ij1, h⟩ := gA_some h
      obtain ⟨S1, eS1, h⟩ := sq_some h
      refine yw_ast rfl hM fcx1 yr_8_2 (by decide) ij1 ej1 eS1 (fun y1 M1 => ?_)
      exact w_X8l_put_22 (prim := prim) (d := d) N S1 y1 lvz1 M1 h
def f_X8l_put (N : Nat) (S : yS) (xl1 : Int32) (xl2 : Int32) : Option (Int32 × yS) := f_X8l_put_0 N S xl1 xl2
theorem m_X8l_put {F : xH} {ev : xEv} {prim : xRel} {d : Nat} {T : yT} {v : Int32} {S' : yS} (N : Nat) (S : yS) (xl1 : Int32) (xl2 : Int32) (a0 : Nat) (fa0 : yAt T 8 5 0 a0) (h : f_X8l_put N S xl1 xl2 = some (v, S')) : ykQ [0, 1, 2, 3, 4, 5, 6, 7] F ev prim (d + 1) 88 T S [.ref a0, .int xl1, .int xl2] (none) S' :=
  ykQ.of (pg_88 ev) mi_88 (Nat.le_of_ble_eq_true rfl) (fun hp sz hM => w_X8l_put_0 (prim := prim) (d := d) N S xl1 xl2 hp _ a0 fa0 rfl rfl rfl hM h)

def f_X8_join_81 (N : Nat) (S : yS) (t0 : Int32) : Option Int32 := some t0
set_option maxHeartbeats 4000000 in
set_option maxRecDepth 40000 in
theorem w_X8_join_81 {F : xH} {ev : xEv} {prim : xRel} {d sz : Nat} {T : yT} {v : Int32} {hp : xH} (N : Nat) (S : yS) (t0 : Int32) (lv : xLv) (hM : cR [0, 1, 2, 3, 4, 5, 6, 7] F ev T S hp) (h : f_X8_join_81 N S t0 = some v) : yWE ev.2.1 (xstr ev) (xCalls ev xmi (xprog ev) prim (d + 0)) (pX8_join ev) (81, lv, [.int t0], hp, sz, 0) (ypP hp sz (.int v)) := by
  unfold f_X8_join_81 at h
  exact ye_ret rfl rfl (rP h)

def f_X8_join_76 (N : Nat) (S : yS) : Option Int32 := f_X8_join_81 N S 1
set_option maxHeartbeats 4000000 in
set_option maxRecDepth 40000 in
theorem w_X8_join_76 {F : xH} {ev : xEv} {prim : xRel} {d sz : Nat} {T : yT} {v : Int32} {hp : xH} (N : Nat) (S : yS) (lv : xLv) (hM : cR [0, 1, 2, 3, 4, 5, 6, 7] F ev T S hp) (h : f_X8_join_76 N S = some v) : yWE ev.2.1 (xstr ev) (xCalls ev xmi (xprog ev) prim (d + 0)) (pX8_join ev) (76, lv, [], hp, sz, 0) (ypP hp sz (.int v)) := by
  unfold f_X8_join_76 at h
  refine ye_p rfl rfl ?_
  refine ye_p rfl rfl ?_
  exact w_X8_join_81 (prim := prim) (d := d) N S 1 lv hM h

def f_X8_join_95 (N : Nat) (S : yS) (t0 : Int32) : Option Int32 := some t0
set_option maxHeartbeats 4000000 in
set_option maxRecDepth 40000 in
theorem w_X8_join_95 {F : xH} {ev : xEv} {prim : xRel} {d sz : Nat} {T : yT} {v : Int32} {hp : xH} (N : Nat) (S : yS) (t0 : Int32) (lv : xLv) (hM : cR [0, 1, 2, 3, 4, 5, 6, 7] F ev T S hp) (h : f_X8_join_95 N S t0 = some v) : yWE ev.2.1 (xstr ev) (xCalls ev xmi (xprog ev) prim (d + 0)) (pX8_join ev) (95, lv, [.int t0], hp, sz, 0) (ypP hp sz (.int v)) := by
  unfold f_X8_join_95 at h
  exact ye_ret rfl rfl (rP h)

def f_X8_join_94 (N : Nat) (S : yS) : Option Int32 := f_X8_join_95 N S 0
set_option maxHeartbeats 4000000 in
set_option maxRecDepth 40000 in
theorem w_X8_join_94 {F : xH} {ev : xEv} {prim : xRel} {d sz : Nat} {T : yT} {v : Int32} {hp : xH} (N : Nat) (S : yS) (lv : xLv) (hM : cR [0, 1, 2, 3, 4, 5, 6, 7] F ev T S hp) (h : f_X8_join_94 N S = some v) : yWE ev.2.1 (xstr ev) (xCalls ev xmi (xprog ev) prim (d + 0)) (pX8_join ev) (94, lv, [], hp, sz, 0) (ypP hp sz (.int v)) := by
  unfold f_X8_join_94 at h
  refine ye_p rfl rfl ?_
  exact w_X8_join_95 (prim := prim) (d := d) N S 0 lv hM h

def f_X8_join_106 (N : Nat) (S : yS) (t0 : Int32) : Option Int32 := some t0
set_option maxHeartbeats 4000000 in
set_option maxRecDepth 40000 in
theorem w_X8_join_106 {F : xH} {ev : xEv} {prim : xRel} {d sz : Nat} {T : yT} {v : Int32} {hp : xH} (N : Nat) (S : yS) (t0 : Int32) (lv : xLv) (hM : cR [0, 1, 2, 3, 4, 5, 6, 7] F ev T S hp) (h : f_X8_join_106 N S t0 = some v) : yWE ev.2.1 (xstr ev) (xCalls ev xmi (xprog ev) prim (d + 0)) (pX8_join ev) (106, lv, [.int t0], hp, sz, 0) (ypP hp sz (.int v)) := by
  unfold f_X8_join_106 at h
  exact ye_ret rfl rfl (rP h)

def f_X8_join_117 (N : Nat) (S : yS) (t0 : Int32) : Option Int32 := some t0
set_option maxHeartbeats 4000000 in
set_option maxRecDepth 40000 in
theorem w_X8_join_117 {F : xH} {ev : xEv} {prim : xRel} {d sz : Nat} {T : yT} {v : Int32} {hp : xH} (N : Nat) (S : yS) (t0 : Int32) (lv : xLv) (hM : cR [0, 1, 2, 3, 4, 5, 6, 7] F ev T S hp) (h : f_X8_join_117 N S t0 = some v) : yWE ev.2.1 (xstr ev) (xCalls ev xmi (xprog ev) prim (d + 0)) (pX8_join ev) (117, lv, [.int t0], hp, sz, 0) (ypP hp sz (.int v)) := by
  unfold f_X8_join_117 at h
  exact ye_ret rfl rfl (rP h)

def f_X8_join_128 (N : Nat) (S : yS) (t0 : Int32) : Option Int32 := some t0
set_option maxHeartbeats 4000000 in
set_option maxRecDepth 40000 in
theorem w_X8_join_128 {F : xH} {ev : xEv} {prim : xRel} {d sz : Nat} {T : yT} {v : Int32} {hp : xH} (N : Nat) (S : yS) (t0 : Int32) (lv : xLv) (hM : cR [0, 1, 2, 3, 4, 5, 6, 7] F ev T S hp) (h : f_X8_join_128 N S t0 = some v) : yWE ev.2.1 (xstr ev) (xCalls ev xmi (xprog ev) prim (d + 0)) (pX8_join ev) (128, lv, [.int t0], hp, sz, 0) (ypP hp sz (.int v)) := by
  unfold f_X8_join_128 at h
  exact ye_ret rfl rfl (rP h)

def f_X8_join_0 (N : Nat) (S : yS) (l0 : Int32) (l1 : Int32) (l2 : Int32) : Option Int32 := if l0 = 38 then if l1 = 0 then f_X8_join_94 N S else if l2 = 0 then f_X8_join_94 N S else f_X8_join_95 N S 1 else if l0 = 43 then some (l1 + l2) else if l0 = 45 then some (l1 - l2) else if l0 = 60 then if l2 ≤ l1 then f_X8_join_106 N S 0 else f_X8_join_106 N S 1 else if l0 = 61 then if ¬ l1 = l2 then f_X8_join_128 N S 0 else f_X8_join_128 N S 1 else if l0 = 62 then if l1 ≤ l2 then f_X8_join_117 N S 0 else f_X8_join_117 N S 1 else if l0 = 124 then if ¬ l1 = 0 then f_X8_join_76 N S else if l2 = 0 then f_X8_join_81 N S 0 else f_X8_join_76 N S else some (l1 * l2)
set_option maxHeartbeats 4000000 in
set_option maxRecDepth 40000 in
theorem w_X8_join_0 {F : xH} {ev : xEv} {prim : xRel} {d sz : Nat} {T : yT} {v : Int32} {hp : xH} (N : Nat) (S : yS) (l0 : Int32) (l1 : Int32) (l2 : Int32) (lv : xLv) (g0 : xG lv 0 = some (.int l0)) (g1 : xG lv 1 = some (.int l1)) (g2 : xG lv 2 = some (.int l2)) (hM : cR [0, 1, 2, 3, 4, 5, 6, 7] F ev T S hp) (h : f_X8_join_0 N S l0 l1 l2 = some v) : yWE ev.2.1 (xstr ev) (xCalls ev xmi (xprog ev) prim (d + 0)) (pX8_join ev) (0, lv, [], hp, sz, 0) (ypP hp sz (.int v)) := by
  unfold f_X8_join_0 at h
  refine ye_iload rfl g0 ?_
  by_cases h1 : l0 = 38
  · replace h := yiT h1 h
    refine ye_sw rfl (show _ = 82 from by rw [h1]; rfl) ?_
    refine ye_iload rfl g1 ?_
    refine ye_if_eq rfl (fun h2 => ?_) (fun h2 => ?_)
    · replace h := yiT h2 h
      exact w_X8_join_94 (prim := prim) (d := d) N S lv hM h
    · replace h := yiN h2 h
      refine ye_iload rfl g2 ?_
      refine ye_if_eq rfl (fun h3 => ?_) (fun h3 => ?_)
      · replace h := yiT h3 h
        exact w_X8_join_94 (prim := prim) (d := d) N S lv hM h
      · replace h := yiN h3 h
        refine ye_p rfl rfl ?_
        refine ye_p rfl rfl ?_
        exact w_X8_join_95 (prim := prim) (d := d) N S 1 lv hM h
  · replace h := yiN h1 h
    by_cases h4 : l0 = 43
    · replace h := yiT h4 h
      refine ye_sw rfl (show _ = 129 from by rw [h4]; rfl) ?_
      refine ye_iload rfl g1 ?_
      refine ye_iload rfl g2 ?_
      refine ye_p rfl rfl ?_
      exact ye_ret rfl rfl (rP h)
    · replace h := yiN h4 h
      by_cases h5 : l0 = 45
      · replace h := yiT h5 h
        refine ye_sw rfl (show _ = 133 from by rw [h5]; rfl) ?_
        refine ye_iload rfl g1 ?_
        refine ye_iload rfl g2 ?_
        refine ye_p rfl rfl ?_
        exact ye_ret rfl rfl (rP h)
      · replace h := yiN h5 h
        by_cases h6 : l0 = 60
        · replace h := yiT h6 h
          refine ye_sw rfl (show _ = 96 from by rw [h6]; rfl) ?_
          refine ye_iload rfl g1 ?_
          refine ye_iload rfl g2 ?_
          refine ye_icmp_ge rfl (fun h7 => ?_) (fun h7 => ?_)
          · replace h := yiT h7 h
            refine ye_p rfl rfl ?_
            exact w_X8_join_106 (prim := prim) (d := d) N S 0 lv hM h
          · replace h := yiN h7 h
            refine ye_p rfl rfl ?_
            refine ye_p rfl rfl ?_
            exact w_X8_join_106 (prim := prim) (d := d) N S 1 lv hM h
        · replace h := yiN h6 h
          by_cases h8 : l0 = 61
          · replace h := yiT h8 h
            refine ye_sw rfl (show _ = 118 from by rw [h8]; rfl) ?_
            refine ye_iload rfl g1 ?_
            refine ye_iload rfl g2 ?_
            refine ye_icmp_ne rfl (fun h9 => ?_) (fun h9 => ?_)
            · replace h := yiT h9 h
              refine ye_p rfl rfl ?_
              exact w_X8_join_128 (prim := prim) (d := d) N S 0 lv hM h
            · replace h := yiN h9 h
              refine ye_p rfl rfl ?_
              refine ye_p rfl rfl ?_
              exact w_X8_join_128 (prim := prim) (d := d) N S 1 lv hM h
          · replace h := yiN h8 h
            by_cases h10 : l0 = 62
            · replace h := yiT h10 h
              refine ye_sw rfl (show _ = 107 from by rw [h10]; rfl) ?_
              refine ye_iload rfl g1 ?_
              refine ye_iload rfl g2 ?_
              refine ye_icmp_le rfl (fun h11 => ?_) (fun h11 => ?_)
              · replace h := yiT h11 h
                refine ye_p rfl rfl ?_
                exact w_X8_join_117 (prim := prim) (d := d) N S 0 lv hM h
              · replace h := yiN h11 h
                refine ye_p rfl rfl ?_
                refine ye_p rfl rfl ?_
                exact w_X8_join_117 (prim := prim) (d := d) N S 1 lv hM h
            · replace h := yiN h10 h
              by_cases h12 : l0 = 124
              · replace h := yiT h12 h
                refine ye_sw rfl (show _ = 68 from by rw [h12]; rfl) ?_
                refine ye_iload rfl g1 ?_
                refine ye_if_ne rfl (fun h13 => ?_) (fun h13 => ?_)
                · replace h := yiT h13 h
                  exact w_X8_join_76 (prim := prim) (d := d) N S lv hM h
                · replace h := yiN h13 h
                  refine ye_iload rfl g2 ?_
                  refine ye_if_eq rfl (fun h14 => ?_) (fun h14 => ?_)
                  · replace h := yiT h14 h
                    refine ye_p rfl rfl ?_
                    exact w_X8_join_81 (prim := prim) (d := d) N S 0 lv hM h
                  · replace h := yiN h14 h
                    exact w_X8_join_76 (prim := prim) (d := d) N S lv hM h
              · replace h := yiN h12 h
                refine ye_sw rfl (show _ = 137 from xlsw_neg h1 (by decide) (xlsw_neg h4 (by decide) (xlsw_neg h5 (by decide) (xlsw_neg h6 (by decide) (xlsw_neg h8 (by decide) (xlsw_neg h10 (by decide) (xlsw_neg h12 (by decide) (rfl)))))))) ?_
                refine ye_iload rfl g1 ?_
                refine ye_iload rfl g2 ?_
                refine ye_p rfl rfl ?_
                exact ye_ret rfl rfl (rP h)
def f_X8_join (N : Nat) (S : yS) (xl0 : Int32) (xl1 : Int32) (xl2 : Int32) : Option Int32 := f_X8_join_0 N S xl0 xl1 xl2
theorem m_X8_join {F : xH} {ev : xEv} {prim : xRel} {d : Nat} {T : yT} {v : Int32} (N : Nat) (S : yS) (xl0 : Int32) (xl1 : Int32) (xl2 : Int32) (h : f_X8_join N S xl0 xl1 xl2 = some v) : ykP [0, 1, 2, 3, 4, 5, 6, 7] F ev prim (d + 1) 91 T S [.int xl0, .int xl1, .int xl2] (.int v) :=
  ykP.of (pg_91 ev) mi_91 (Nat.le_of_ble_eq_true rfl) (fun hp sz hM => w_X8_join_0 (prim := prim) (d := d) N S xl0 xl1 xl2 _ rfl rfl rfl hM h)

def f_X9_come_0 (N : Nat) (S : yS) (l1 : Int32) (l2 : Int32) (l3 : Int32) (l4 : Int32) (l5 : Int32) (l6 : Int32) : Option (Int32 × yS) := if (S.1 3 1) < 120 then gA 120 (S.1 3 1) fun j1 => sq (yA S 3 6 (upd (S.2.1 3 6) j1 l1)) fun S1 => gA 120 (S1.1 3 1) fun j2 => sq (yA S1 3 7 (upd (S1.2.1 3 7) j2 l2)) fun S2 => gA 120 (S2.1 3 1) fun j3 => sq (yA S2 3 8 (upd (S2.2.1 3 8) j3 (l2 + (S2.1 3 0)))) fun S3 => gA 120 (S3.1 3 1) fun j4 => sq (yA S3 3 5 (upd (S3.2.1 3 5) j4 l3)) fun S4 => gA 120 (S4.1 3 1) fun j5 => sq (yA S4 3 2 (upd (S4.2.1 3 2) j5 l4)) fun S5 => gA 120 (S5.1 3 1) fun j6 => sq (yA S5 3 3 (upd (S5.2.1 3 3) j6 l5)) fun S6 => gA 120 (S6.1 3 1) fun j7 => sq (yA S6 3 4 (upd (S6.2.1 3 4) j7 l6)) fun S7 => sq (yI S7 3 1 ((S7.1 3 1) + 1)) fun S8 => some (0, S8) else some (0, S)
set_option maxHeartbeats 4000000 in
set_option maxRecDepth 40000 in
theorem w_X9_come_0 {F : xH} {ev : xEv} {prim : xRel} {d sz : Nat} {T : yT} {v : Int32} {S' : yS} (N : Nat) (S : yS) (l1 : Int32) (l2 : Int32) (l3 : Int32) (l4 : Int32) (l5 : Int32) (l6 : Int32) (hp : xH) (lv : xLv) (a0 : Nat) (fa0 : yAt T 9 3 0 a0) (g0 : xG lv 0 = some (.ref a0)) (g1 : xG lv 1 = some (.int l1)) (g2 : xG lv 2 = some (.int l2)) (g3 : xG lv 3 = some (.int l3)) (g4 : xG lv 4 = some (.int l4)) (g5 : xG lv 5 = some (.int l5)) (g6 : xG lv 6 = some (.int l6)) (hM : cR [0, 1, 2, 3, 4, 5, 6, 7] F ev T S hp) (h : f_X9_come_0 N S l1 l2 l3 l4 l5 l6 = some (v, S')) : yWE ev.2.1 (xstr ev) (xCalls ev xmi (xprog ev) prim (d + 0)) (pX9_come ev) (0, lv, [], hp, sz, 0) (ypQ [0, 1, 2, 3, 4, 5, 6, 7] F ev T sz (none) S') := by
  unfold f_X9_come_0 at h
  refine ye_aload rfl g0 ?_
  refine ye_getf rfl (hM.obj fa0 ⟨rfl, rfl⟩) rfl ?_
  refine ye_p rfl rfl ?_
  refine ye_icmp_lt rfl (fun h1 => ?_) (fun h1 => ?_)
  · replace h := yiT h1 h
    refine ye_aload rfl g0 ?_
    refine ye_getr rfl (hM.obj fa0 ⟨rfl, rfl⟩) rfl (fun cx1 ecx1 => ?_)
    have fcx1 := yAt.row fa0 ecx1
    refine ye_aload rfl g0 ?_
    refine ye_getf rfl (hM.obj fa0 ⟨rfl, rfl⟩) rfl ?_
    refine ye_iload rfl g1 ?_
    obtain ⟨j1, ej1, ij1, h⟩ := gA_some h
    obtain ⟨S1, eS1, h⟩ := sq_some h
    refine yw_ast rfl hM fcx1 yr_9_6 (by decide) ij1 ej1 eS1 (fun y1 M1 => ?_)
    refine ye_aload rfl g0 ?_
    refine ye_getr rfl (M1.obj fa0 ⟨rfl, rfl⟩) rfl (fun cx2 ecx2 => ?_)
    have fcx2 := yAt.row fa0 ecx2
    refine ye_aload rfl g0 ?_
    refine ye_getf rfl (M1.obj fa0 ⟨rfl, rfl⟩) rfl ?_
    refine ye_iload rfl g2 ?_
    obtain ⟨j2, ej2, ij2, h⟩ := gA_some h
    obtain ⟨S2, eS2, h⟩ := sq_some h
    refine yw_ast rfl M1 fcx2 yr_9_7 (by decide) ij2 ej2 eS2 (fun y2 M2 => ?_)
    refine ye_aload rfl g0 ?_
    refine ye_getr rfl (M2.obj fa0 ⟨rfl, rfl⟩) rfl (fun cx3 ecx3 => ?_)
    have fcx3 := yAt.row fa0 ecx3
    refine ye_aload rfl g0 ?_
    refine ye_getf rfl (M2.obj fa0 ⟨rfl, rfl⟩) rfl ?_
    refine ye_iload rfl g2 ?_
    refine ye_aload rfl g0 ?_
    refine ye_getf rfl (M2.obj fa0 ⟨rfl, rfl⟩) rfl ?_
    refine ye_p rfl rfl ?_
    obtain ⟨j3, ej3, ij3, h⟩ := gA_some h
    obtain ⟨S3, eS3, h⟩ := sq_some h
    refine yw_ast rfl M2 fcx3 yr_9_8 (by decide) ij3 ej3 eS3 (fun y3 M3 => ?_)
    refine ye_aload rfl g0 ?_
    refine ye_getr rfl (M3.obj fa0 ⟨rfl, rfl⟩) rfl (fun cx4 ecx4 => ?_)
    have fcx4 := yAt.row fa0 ecx4
    refine ye_aload rfl g0 ?_
    refine ye_getf rfl (M3.obj fa0 ⟨rfl, rfl⟩) rfl ?_
    refine ye_iload rfl g3 ?_
    obtain ⟨j4, ej4, ij4, h⟩ := gA_some h
    obtain ⟨S4, eS4, h⟩ := sq_some h
    refine yw_ast rfl M3 fcx4 yr_9_5 (by decide) ij4 ej4 eS4 (fun y4 M4 => ?_)
    refine ye_aload rfl g0 ?_
    refine ye_getr rfl (M4.obj fa0 ⟨rfl, rfl⟩) rfl (fun cx5 ecx5 => ?_)
    have fcx5 := yAt.row fa0 ecx5
    refine ye_aload rfl g0 ?_
    refine ye_getf rfl (M4.obj fa0 ⟨rfl, rfl⟩) rfl ?_
    refine ye_iload rfl g4 ?_
    obtain ⟨j5, ej5, ij5, h⟩ := gA_some h
    obtain ⟨S5, eS5, h⟩ := sq_some h
    refine yw_ast rfl M4 fcx5 yr_9_2 (by decide) ij5 ej5 eS5 (fun y5 M5 => ?_)
    refine ye_aload rfl g0 ?_
    refine ye_getr rfl (M5.obj fa0 ⟨rfl, rfl⟩) rfl (fun cx6 ecx6 => ?_)
    have fcx6 := yAt.row fa0 ecx6
    refine ye_aload rfl g0 ?_
    refine ye_getf rfl (M5.obj fa0 ⟨rfl, rfl⟩) rfl ?_
    refine ye_iload rfl g5 ?_
    obtain ⟨j6, ej6, ij6, h⟩ := gA_some h
    obtain ⟨S6, eS6, h⟩ := sq_some h
    refine yw_ast rfl M5 fcx6 yr_9_3 (by decide) ij6 ej6 eS6 (fun y6 M6 => ?_)
    refine ye_aload rfl g0 ?_
    refine ye_getr rfl (M6.obj fa0 ⟨rfl, rfl⟩) rfl (fun cx7 ecx7 => ?_)
    have fcx7 := yAt.row fa0 ecx7
    refine ye_aload rfl g0 ?_
    refine ye_getf rfl (M6.obj fa0 ⟨rfl, rfl⟩) rfl ?_
    refine ye_iload rfl g6 ?_
    obtain ⟨j7, ej7, ij7, h⟩ := gA_some h
    obtain ⟨S7, eS7, h⟩ := sq_some h
    refine yw_ast rfl M6 fcx7 yr_9_4 (by decide) ij7 ej7 eS7 (fun y7 M7 => ?_)
    refine ye_aload rfl g0 ?_
    refine ye_p rfl rfl ?_
    refine ye_getf rfl (M7.obj fa0 ⟨rfl, rfl⟩) rfl ?_
    refine ye_p rfl rfl ?_
    refine ye_p rfl rfl ?_
    obtain ⟨S8, eS8, h⟩ := sq_some h
    refine yw_putI rfl M7 fa0 rfl ⟨rfl, rfl⟩ (Nat.le_of_ble_eq_true rfl) rfl rfl (ys_9_1 ev T _ ((S7.1 3 1) + 1)) (fun q => absurd q (by decide)) eS8 (fun y8 M8 => ?_)
    exact ye_ret rfl rfl (rQV h M8)
  · replace h := yiN h1 h
    exact ye_ret rfl rfl (rQV h hM)
def f_X9_come (N : Nat) (S : yS) (xl1 : Int32) (xl2 : Int32) (xl3 : Int32) (xl4 : Int32) (xl5 : Int32) (xl6 : Int32) : Option (Int32 × yS) := f_X9_come_0 N S xl1 xl2 xl3 xl4 xl5 xl6
theorem m_X9_come {F : xH} {ev : xEv} {prim : xRel} {d : Nat} {T : yT} {v : Int32} {S' : yS} (N : Nat) (S : yS) (xl1 : Int32) (xl2 : Int32) (xl3 : Int32) (xl4 : Int32) (xl5 : Int32) (xl6 : Int32) (a0 : Nat) (fa0 : yAt T 9 3 0 a0) (h : f_X9_come N S xl1 xl2 xl3 xl4 xl5 xl6 = some (v, S')) : ykQ [0, 1, 2, 3, 4, 5, 6, 7] F ev prim (d + 1) 93 T S [.ref a0, .int xl1, .int xl2, .int xl3, .int xl4, .int xl5, .int xl6] (none) S' :=
  ykQ.of (pg_93 ev) mi_93 (Nat.le_of_ble_eq_true rfl) (fun hp sz hM => w_X9_come_0 (prim := prim) (d := d) N S xl1 xl2 xl3 xl4 xl5 xl6 hp _ a0 fa0 rfl rfl rfl rfl rfl rfl rfl hM h)

def f_X9_latest_89 (N : Nat) (k6 : yS → Int32 → Int32 → Int32 → Int32 → Int32 → Option Int32) (S : yS) (l1 : Int32) (l2 : Int32) (l3 : Int32) (l4 : Int32) (l5 : Int32) : Option Int32 := k6 S l1 l2 l3 l4 (l5 + 1)
set_option maxHeartbeats 4000000 in
set_option maxRecDepth 40000 in
theorem w_X9_latest_89 {F : xH} {ev : xEv} {prim : xRel} {d sz : Nat} {T : yT} {v : Int32} {hp : xH} (N : Nat) (k6 : yS → Int32 → Int32 → Int32 → Int32 → Int32 → Option Int32) (u6 : ∀ (S : yS) (l1 : Int32) (l2 : Int32) (l3 : Int32) (l4 : Int32) (l5 : Int32) (lv : xLv) (a0 : Nat) (fa0 : yAt T 9 3 0 a0) (g0 : xG lv 0 = some (.ref a0)) (g1 : xG lv 1 = some (.int l1)) (g2 : xG lv 2 = some (.int l2)) (g3 : xG lv 3 = some (.int l3)) (g4 : xG lv 4 = some (.int l4)) (g5 : xG lv 5 = some (.int l5)) (hM : cR [0, 1, 2, 3, 4, 5, 6, 7] F ev T S hp) (h : k6 S l1 l2 l3 l4 l5 = some v), yWE ev.2.1 (xstr ev) (xCalls ev xmi (xprog ev) prim (d + 0)) (pX9_latest ev) (6, lv, [], hp, sz, 0) (ypP hp sz (.int v))) (S : yS) (l1 : Int32) (l2 : Int32) (l3 : Int32) (l4 : Int32) (l5 : Int32) (lv : xLv) (a0 : Nat) (fa0 : yAt T 9 3 0 a0) (g0 : xG lv 0 = some (.ref a0)) (g1 : xG lv 1 = some (.int l1)) (g2 : xG lv 2 = some (.int l2)) (g3 : xG lv 3 = some (.int l3)) (g4 : xG lv 4 = some (.int l4)) (g5 : xG lv 5 = some (.int l5)) (hM : cR [0, 1, 2, 3, 4, 5, 6, 7] F ev T S hp) (h : f_X9_latest_89 N k6 S l1 l2 l3 l4 l5 = some v) : yWE ev.2.1 (xstr ev) (xCalls ev xmi (xprog ev) prim (d + 0)) (pX9_latest ev) (89, lv, [], hp, sz, 0) (ypP hp sz (.int v)) := by
  unfold f_X9_latest_89 at h
  refine ye_iinc rfl g5 ?_
  have g0_z1 := xG_o1 (i := 5) (v := .int (l5 + 1)) g0 rfl
  have g1_z1 := xG_o1 (i := 5) (v := .int (l5 + 1)) g1 rfl
  have g2_z1 := xG_o1 (i := 5) (v := .int (l5 + 1)) g2 rfl
  have g3_z1 := xG_o1 (i := 5) (v := .int (l5 + 1)) g3 rfl
  have g4_z1 := xG_o1 (i := 5) (v := .int (l5 + 1)) g4 rfl
  have g5_z1 := xG_same lv 5 (.int (l5 + 1))
  generalize xSt1 lv 5 (.int (l5 + 1)) = lvz1 at g0_z1 g1_z1 g2_z1 g3_z1 g4_z1 g5_z1 ⊢
  refine ye_p rfl rfl ?_
  exact u6 S l1 l2 l3 l4 (l5 + 1) lvz1 a0 fa0 g0_z1 g1_z1 g2_z1 g3_z1 g4_z1 g5_z1 hM h

def f_X9_latest_85 (N : Nat) (k6 : yS → Int32 → Int32 → Int32 → Int32 → Int32 → Option Int32) (S : yS) (l1 : Int32) (l2 : Int32) (l3 : Int32) (l5 : Int32) : Option Int32 := f_X9_latest_89 N k6 S l1 l2 l3 l5 l5
set_option maxHeartbeats 4000000 in
set_option maxRecDepth 40000 in
theorem w_X9_latest_85 {F : xH} {ev : xEv} {prim : xRel} {d sz : Nat} {T : yT} {v : Int32} {hp : xH} (N : Nat) (k6 : yS → Int32 → Int32 → Int32 → Int32 → Int32 → Option Int32) (u6 : ∀ (S : yS) (l1 : Int32) (l2 : Int32) (l3 : Int32) (l4 : Int32) (l5 : Int32) (lv : xLv) (a0 : Nat) (fa0 : yAt T 9 3 0 a0) (g0 : xG lv 0 = some (.ref a0)) (g1 : xG lv 1 = some (.int l1)) (g2 : xG lv 2 = some (.int l2)) (g3 : xG lv 3 = some (.int l3)) (g4 : xG lv 4 = some (.int l4)) (g5 : xG lv 5 = some (.int l5)) (hM : cR [0, 1, 2, 3, 4, 5, 6, 7] F ev T S hp) (h : k6 S l1 l2 l3 l4 l5 = some v), yWE ev.2.1 (xstr ev) (xCalls ev xmi (xprog ev) prim (d + 0)) (pX9_latest ev) (6, lv, [], hp, sz, 0) (ypP hp sz (.int v))) (S : yS) (l1 : Int32) (l2 : Int32) (l3 : Int32) (l5 : Int32) (lv : xLv) (a0 : Nat) (fa0 : yAt T 9 3 0 a0) (g0 : xG lv 0 = some (.ref a0)) (g1 : xG lv 1 = some (.int l1)) (g2 : xG lv 2 = some (.int l2)) (g3 : xG lv 3 = some (.int l3)) (g5 : xG lv 5 = some (.int l5)) (hM : cR [0, 1, 2, 3, 4, 5, 6, 7] F ev T S hp) (h : f_X9_latest_85 N k6 S l1 l2 l3 l5 = some v) : yWE ev.2.1 (xstr ev) (xCalls ev xmi (xprog ev) prim (d + 0)) (pX9_latest ev) (85, lv, [], hp, sz, 0) (ypP hp sz (.int v)) := by
  unfold f_X9_latest_85 at h
  refine ye_iload rfl g5 ?_
  refine ye_p rfl rfl ?_
  have g0_z1 := xG_o1 (i := 4) (v := .int l5) g0 rfl
  have g1_z1 := xG_o1 (i := 4) (v := .int l5) g1 rfl
  have g2_z1 := xG_o1 (i := 4) (v := .int l5) g2 rfl
  have g3_z1 := xG_o1 (i := 4) (v := .int l5) g3 rfl
  have g5_z1 := xG_o1 (i := 4) (v := .int l5) g5 rfl
  have g4_z1 := xG_same lv 4 (.int l5)
  generalize xSt1 lv 4 (.int l5) = lvz1 at g0_z1 g1_z1 g2_z1 g3_z1 g5_z1 g4_z1 ⊢
  exact w_X9_latest_89 (prim := prim) (d := d) N k6 u6 S l1 l2 l3 l5 l5 lvz1 a0 fa0 g0_z1 g1_z1 g2_z1 g3_z1 g4_z1 g5_z1 hM h

def f_X9_latest_43 (N : Nat) (k6 : yS → Int32 → Int32 → Int32 → Int32 → Int32 → Option Int32) (S : yS) (l1 : Int32) (l2 : Int32) (l3 : Int32) (l4 : Int32) (l5 : Int32) (t0 : Int32) : Option Int32 := gA 120 l5 fun j1 => if ¬ (S.2.1 3 5 j1) = l2 then f_X9_latest_89 N k6 S l1 l2 l3 l4 l5 else if l3 < t0 then f_X9_latest_89 N k6 S l1 l2 l3 l4 l5 else if l4 = ((-1)) then f_X9_latest_85 N k6 S l1 l2 l3 l5 else gA 120 l5 fun j2 => gA 120 l4 fun j3 => if (S.2.1 3 2 j2) < (S.2.1 3 2 j3) then f_X9_latest_89 N k6 S l1 l2 l3 l4 l5 else f_X9_latest_85 N k6 S l1 l2 l3 l5
set_option maxHeartbeats 4000000 in
set_option maxRecDepth 40000 in
theorem w_X9_latest_43 {F : xH} {ev : xEv} {prim : xRel} {d sz : Nat} {T : yT} {v : Int32} {hp : xH} (N : Nat) (k6 : yS → Int32 → Int32 → Int32 → Int32 → Int32 → Option Int32) (u6 : ∀ (S : yS) (l1 : Int32) (l2 : Int32) (l3 : Int32) (l4 : Int32) (l5 : Int32) (lv : xLv) (a0 : Nat) (fa0 : yAt T 9 3 0 a0) (g0 : xG lv 0 = some (.ref a0)) (g1 : xG lv 1 = some (.int l1)) (g2 : xG lv 2 = some (.int l2)) (g3 : xG lv 3 = some (.int l3)) (g4 : xG lv 4 = some (.int l4)) (g5 : xG lv 5 = some (.int l5)) (hM : cR [0, 1, 2, 3, 4, 5, 6, 7] F ev T S hp) (h : k6 S l1 l2 l3 l4 l5 = some v), yWE ev.2.1 (xstr ev) (xCalls ev xmi (xprog ev) prim (d + 0)) (pX9_latest ev) (6, lv, [], hp, sz, 0) (ypP hp sz (.int v))) (S : yS) (l1 : Int32) (l2 : Int32) (l3 : Int32) (l4 : Int32) (l5 : Int32) (t0 : Int32) (lv : xLv) (a0 : Nat) (fa0 : yAt T 9 3 0 a0) (g0 : xG lv 0 = some (.ref a0)) (g1 : xG lv 1 = some (.int l1)) (g2 : xG lv 2 = some (.int l2)) (g3 : xG lv 3 = some (.int l3)) (g4 : xG lv 4 = some (.int l4)) (g5 : xG lv 5 = some (.int l5)) (hM : cR [0, 1, 2, 3, 4, 5, 6, 7] F ev T S hp) (h : f_X9_latest_43 N k6 S l1 l2 l3 l4 l5 t0 = some v) : yWE ev.2.1 (xstr ev) (xCalls ev xmi (xprog ev) prim (d + 0)) (pX9_latest ev) (43, lv, [.int t0], hp, sz, 0) (ypP hp sz (.int v)) := by
  unfold f_X9_latest_43 at h
  refine ye_p rfl rfl ?_
  have g0_z1 := xG_o1 (i := 6) (v := .int t0) g0 rfl
  have g1_z1 := xG_o1 (i := 6) (v := .int t0) g1 rfl
  have g2_z1 := xG_o1 (i := 6) (v := .int t0) g2 rfl
  have g3_z1 := xG_o1 (i := 6) (v := .int t0) g3 rfl
  have g4_z1 := xG_o1 (i := 6) (v := .int t0) g4 rfl
  have g5_z1 := xG_o1 (i := 6) (v := .int t0) g5 rfl
  have g6_z1 := xG_same lv 6 (.int t0)
  generalize xSt1 lv 6 (.int t0) = lvz1 at g0_z1 g1_z1 g2_z1 g3_z1 g4_z1 g5_z1 g6_z1 ⊢
  refine ye_aload rfl g0_z1 ?_
  refine ye_getr rfl (hM.obj fa0 ⟨rfl, rfl⟩) rfl (fun cx1 ecx1 => ?_)
  have fcx1 := yAt.row fa0 ecx1
  refine ye_iload rfl g5_z1 ?_
  obtain ⟨j1, ej1, ij1, h⟩ := gA_some h
  refine yj_ald rfl (hM.arr fcx1 yr_9_5) ij1 ej1 ?_
  refine ye_iload rfl g2_z1 ?_
  refine ye_icmp_ne rfl (fun h1 => ?_) (fun h1 => ?_)
  · replace h := yiT h1 h
    exact w_X9_latest_89 (prim := prim) (d := d) N k6 u6 S l1 l2 l3 l4 l5 lvz1 a0 fa0 g0_z1 g1_z1 g2_z1 g3_z1 g4_z1 g5_z1 hM h
  · replace h := yiN h1 h
    refine ye_iload rfl g6_z1 ?_
    refine ye_iload rfl g3_z1 ?_
    refine ye_icmp_gt rfl (fun h2 => ?_) (fun h2 => ?_)
    · replace h := yiT h2 h
      exact w_X9_latest_89 (prim := prim) (d := d) N k6 u6 S l1 l2 l3 l4 l5 lvz1 a0 fa0 g0_z1 g1_z1 g2_z1 g3_z1 g4_z1 g5_z1 hM h
    · replace h := yiN h2 h
      refine ye_iload rfl g4_z1 ?_
      refine ye_p rfl rfl ?_
      refine ye_icmp_eq rfl (fun h3 => ?_) (fun h3 => ?_)
      · replace h := yiT h3 h
        exact w_X9_latest_85 (prim := prim) (d := d) N k6 u6 S l1 l2 l3 l5 lvz1 a0 fa0 g0_z1 g1_z1 g2_z1 g3_z1 g5_z1 hM h
      · replace h := yiN h3 h
        refine ye_aload rfl g0_z1 ?_
        refine ye_getr rfl (hM.obj fa0 ⟨rfl, rfl⟩) rfl (fun cx2 ecx2 => ?_)
        have fcx2 := yAt.row fa0 ecx2
        refine ye_iload rfl g5_z1 ?_
        obtain ⟨j2, ej2, ij2, h⟩ := gA_some h
        refine yj_ald rfl (hM.arr fcx2 yr_9_2) ij2 ej2 ?_
        refine ye_aload rfl g0_z1 ?_
        refine ye_getr rfl (hM.obj fa0 ⟨rfl, rfl⟩) rfl (fun cx3 ecx3 => ?_)
        have fcx3 := yAt.row fa0 ecx3
        refine ye_iload rfl g4_z1 ?_
        obtain ⟨j3, ej3, ij3, h⟩ := gA_some h
        refine yj_ald rfl (hM.arr fcx3 yr_9_2) ij3 ej3 ?_
        refine ye_icmp_lt rfl (fun h4 => ?_) (fun h4 => ?_)
        · replace h := yiT h4 h
          exact w_X9_latest_89 (prim := prim) (d := d) N k6 u6 S l1 l2 l3 l4 l5 lvz1 a0 fa0 g0_z1 g1_z1 g2_z1 g3_z1 g4_z1 g5_z1 hM h
        · replace h := yiN h4 h
          exact w_X9_latest_85 (prim := prim) (d := d) N k6 u6 S l1 l2 l3 l5 lvz1 a0 fa0 g0_z1 g1_z1 g2_z1 g3_z1 g5_z1 hM h

def f_X9_latest_6 : Nat → Nat → yS → Int32 → Int32 → Int32 → Int32 → Int32 → Option Int32
  | 0, _, _, _, _, _, _, _ => none
  | n + 1, N, S, l1, l2, l3, l4, l5 => if (S.1 3 1) ≤ l5 then some l4 else gA 120 l5 fun j1 => if ¬ (S.2.1 3 6 j1) = l1 then gA 120 l5 fun j2 => f_X9_latest_43 N (fun S l1 l2 l3 l4 l5 => f_X9_latest_6 n N S l1 l2 l3 l4 l5) S l1 l2 l3 l4 l5 (S.2.1 3 8 j2) else gA 120 l5 fun j3 => f_X9_latest_43 N (fun S l1 l2 l3 l4 l5 => f_X9_latest_6 n N S l1 l2 l3 l4 l5) S l1 l2 l3 l4 l5 (S.2.1 3 7 j3)
set_option maxHeartbeats 4000000 in
set_option maxRecDepth 40000 in
theorem w_X9_latest_6 {F : xH} {ev : xEv} {prim : xRel} {d sz : Nat} {T : yT} {v : Int32} {hp : xH} (N : Nat) (n : Nat) : ∀ (S : yS) (l1 : Int32) (l2 : Int32) (l3 : Int32) (l4 : Int32) (l5 : Int32) (lv : xLv) (a0 : Nat) (fa0 : yAt T 9 3 0 a0) (g0 : xG lv 0 = some (.ref a0)) (g1 : xG lv 1 = some (.int l1)) (g2 : xG lv 2 = some (.int l2)) (g3 : xG lv 3 = some (.int l3)) (g4 : xG lv 4 = some (.int l4)) (g5 : xG lv 5 = some (.int l5)) (hM : cR [0, 1, 2, 3, 4, 5, 6, 7] F ev T S hp) (h : f_X9_latest_6 n N S l1 l2 l3 l4 l5 = some v), yWE ev.2.1 (xstr ev) (xCalls ev xmi (xprog ev) prim (d + 0)) (pX9_latest ev) (6, lv, [], hp, sz, 0) (ypP hp sz (.int v)) := by
  induction n with
  | zero => intro S l1 l2 l3 l4 l5 lv a0 fa0 g0 g1 g2 g3 g4 g5 hM h; exact n_some h
  | succ n ih =>
    intro S l1 l2 l3 l4 l5 lv a0 fa0 g0 g1 g2 g3 g4 g5 hM h
    unfold f_X9_latest_6 at h
    refine ye_iload rfl g5 ?_
    refine ye_aload rfl g0 ?_
    refine ye_getf rfl (hM.obj fa0 ⟨rfl, rfl⟩) rfl ?_
    refine ye_icmp_ge rfl (fun h1 => ?_) (fun h1 => ?_)
    · replace h := yiT h1 h
      refine ye_iload rfl g4 ?_
      exact ye_ret rfl rfl (rP h)
    · replace h := yiN h1 h
      refine ye_aload rfl g0 ?_
      refine ye_getr rfl (hM.obj fa0 ⟨rfl, rfl⟩) rfl (fun cx1 ecx1 => ?_)
      have fcx1 := yAt.row fa0 ecx1
      refine ye_iload rfl g5 ?_
      obtain ⟨j1, ej1, ij1, h⟩ := gA_some h
      refine yj_ald rfl (hM.arr fcx1 yr_9_6) ij1 ej1 ?_
      refine ye_iload rfl g1 ?_
      refine ye_icmp_ne rfl (fun h2 => ?_) (fun h2 => ?_)
      · replace h := yiT h2 h
        refine ye_aload rfl g0 ?_
        refine ye_getr rfl (hM.obj fa0 ⟨rfl, rfl⟩) rfl (fun cx2 ecx2 => ?_)
        have fcx2 := yAt.row fa0 ecx2
        refine ye_iload rfl g5 ?_
        obtain ⟨j2, ej2, ij2, h⟩ := gA_some h
        refine yj_ald rfl (hM.arr fcx2 yr_9_8) ij2 ej2 ?_
        exact w_X9_latest_43 (prim := prim) (d := d) N (fun S l1 l2 l3 l4 l5 => f_X9_latest_6 n N S l1 l2 l3 l4 l5) ih S l1 l2 l3 l4 l5 (S.2.1 3 8 j2) lv a0 fa0 g0 g1 g2 g3 g4 g5 hM h
      · replace h := yiN h2 h
        refine ye_aload rfl g0 ?_
        refine ye_getr rfl (hM.obj fa0 ⟨rfl, rfl⟩) rfl (fun cx3 ecx3 => ?_)
        have fcx3 := yAt.row fa0 ecx3
        refine ye_iload rfl g5 ?_
        obtain ⟨j3, ej3, ij3, h⟩ := gA_some h
        refine yj_ald rfl (hM.arr fcx3 yr_9_7) ij3 ej3 ?_
        refine ye_p rfl rfl ?_
        exact w_X9_latest_43 (prim := prim) (d := d) N (fun S l1 l2 l3 l4 l5 => f_X9_latest_6 n N S l1 l2 l3 l4 l5) ih S l1 l2 l3 l4 l5 (S.2.1 3 7 j3) lv a0 fa0 g0 g1 g2 g3 g4 g5 hM h

def f_X9_latest_0 (N : Nat) (S : yS) (l1 : Int32) (l2 : Int32) (l3 : Int32) : Option Int32 := f_X9_latest_6 N N S l1 l2 l3 ((-1)) 0
set_option maxHeartbeats 4000000 in
set_option maxRecDepth 40000 in
theorem w_X9_latest_0 {F : xH} {ev : xEv} {prim : xRel} {d sz : Nat} {T : yT} {v : Int32} {hp : xH} (N : Nat) (S : yS) (l1 : Int32) (l2 : Int32) (l3 : Int32) (lv : xLv) (a0 : Nat) (fa0 : yAt T 9 3 0 a0) (g0 : xG lv 0 = some (.ref a0)) (g1 : xG lv 1 = some (.int l1)) (g2 : xG lv 2 = some (.int l2)) (g3 : xG lv 3 = some (.int l3)) (hM : cR [0, 1, 2, 3, 4, 5, 6, 7] F ev T S hp) (h : f_X9_latest_0 N S l1 l2 l3 = some v) : yWE ev.2.1 (xstr ev) (xCalls ev xmi (xprog ev) prim (d + 0)) (pX9_latest ev) (0, lv, [], hp, sz, 0) (ypP hp sz (.int v)) := by
  unfold f_X9_latest_0 at h
  refine ye_p rfl rfl ?_
  refine ye_p rfl rfl ?_
  have g0_z1 := xG_o1 (i := 4) (v := .int ((-1))) g0 rfl
  have g1_z1 := xG_o1 (i := 4) (v := .int ((-1))) g1 rfl
  have g2_z1 := xG_o1 (i := 4) (v := .int ((-1))) g2 rfl
  have g3_z1 := xG_o1 (i := 4) (v := .int ((-1))) g3 rfl
  have g4_z1 := xG_same lv 4 (.int ((-1)))
  generalize xSt1 lv 4 (.int ((-1))) = lvz1 at g0_z1 g1_z1 g2_z1 g3_z1 g4_z1 ⊢
  refine ye_p rfl rfl ?_
  refine ye_p rfl rfl ?_
  have g0_z2 := xG_o1 (i := 5) (v := .int 0) g0_z1 rfl
  have g1_z2 := xG_o1 (i := 5) (v := .int 0) g1_z1 rfl
  have g2_z2 := xG_o1 (i := 5) (v := .int 0) g2_z1 rfl
  have g3_z2 := xG_o1 (i := 5) (v := .int 0) g3_z1 rfl
  have g4_z2 := xG_o1 (i := 5) (v := .int 0) g4_z1 rfl
  have g5_z2 := xG_same lvz1 5 (.int 0)
  generalize xSt1 lvz1 5 (.int 0) = lvz2 at g0_z2 g1_z2 g2_z2 g3_z2 g4_z2 g5_z2 ⊢
  exact w_X9_latest_6 (prim := prim) (d := d) N N S l1 l2 l3 ((-1)) 0 lvz2 a0 fa0 g0_z2 g1_z2 g2_z2 g3_z2 g4_z2 g5_z2 hM h
def f_X9_latest (N : Nat) (S : yS) (xl1 : Int32) (xl2 : Int32) (xl3 : Int32) : Option Int32 := f_X9_latest_0 N S xl1 xl2 xl3
theorem m_X9_latest {F : xH} {ev : xEv} {prim : xRel} {d : Nat} {T : yT} {v : Int32} (N : Nat) (S : yS) (xl1 : Int32) (xl2 : Int32) (xl3 : Int32) (a0 : Nat) (fa0 : yAt T 9 3 0 a0) (h : f_X9_latest N S xl1 xl2 xl3 = some v) : ykP [0, 1, 2, 3, 4, 5, 6, 7] F ev prim (d + 1) 94 T S [.ref a0, .int xl1, .int xl2, .int xl3] (.int v) :=
  ykP.of (pg_94 ev) mi_94 (Nat.le_of_ble_eq_true rfl) (fun hp sz hM => w_X9_latest_0 (prim := prim) (d := d) N S xl1 xl2 xl3 _ a0 fa0 rfl rfl rfl rfl hM h)

def f_X10_addBag_71 (N : Nat) (S : yS) (l2 : Int32) : Option (Int32 × yS) := gA 30 l2 fun j1 => sq (yA S 2 10 (upd (S.2.1 2 10) j1 (S.1 2 9))) fun S1 => sq (yI S1 2 9 ((S1.1 2 9) + 1)) fun S2 => some (S1.1 2 9, S2)
set_option maxHeartbeats 4000000 in
set_option maxRecDepth 40000 in
theorem w_X10_addBag_71 {F : xH} {ev : xEv} {prim : xRel} {d sz : Nat} {T : yT} {v : Int32} {S' : yS} (N : Nat) (S : yS) (l2 : Int32) (hp : xH) (lv : xLv) (a0 : Nat) (fa0 : yAt T 10 2 0 a0) (g0 : xG lv 0 = some (.ref a0)) (g2 : xG lv 2 = some (.int l2)) (hM : cR [0, 1, 2, 3, 4, 5, 6, 7] F ev T S hp) (h : f_X10_addBag_71 N S l2 = some (v, S')) : yWE ev.2.1 (xstr ev) (xCalls ev xmi (xprog ev) prim (d + 1)) (pX10_addBag ev) (71, lv, [], hp, sz, 0) (ypQ [0, 1, 2, 3, 4, 5, 6, 7] F ev T sz (some (.int v)) S') := by
  unfold f_X10_addBag_71 at h
  refine ye_aload rfl g0 ?_
  refine ye_getr rfl (hM.obj fa0 ⟨rfl, rfl⟩) rfl (fun cx1 ecx1 => ?_)
  have fcx1 := yAt.row fa0 ecx1
  refine ye_iload rfl g2 ?_
  refine ye_aload rfl g0 ?_
  refine ye_getf rfl (hM.obj fa0 ⟨rfl, rfl⟩) rfl ?_
  obtain ⟨j1, ej1, ij1, h⟩ := gA_some h
  obtain ⟨S1, eS1, h⟩ := sq_some h
  refine yw_ast rfl hM fcx1 yr_10_10 (by decide) ij1 ej1 eS1 (fun y1 M1 => ?_)
  refine ye_aload rfl g0 ?_
  refine ye_p rfl rfl ?_
  refine ye_getf rfl (M1.obj fa0 ⟨rfl, rfl⟩) rfl ?_
  refine ye_p rfl rfl ?_
  refine ye_p rfl rfl ?_
  refine ye_p rfl rfl ?_
  obtain ⟨S2, eS2, h⟩ := sq_some h
  refine yw_putI rfl M1 fa0 rfl ⟨rfl, rfl⟩ (Nat.le_of_ble_eq_true rfl) rfl rfl (ys_10_9 ev T _ ((S1.1 2 9) + 1)) (fun q => absurd q (by decide)) eS2 (fun y2 M2 => ?_)
  exact ye_ret rfl rfl (rQ h M2)

def f_X10_addBag_27 : Nat → Nat → yS → Nat → Int32 → Option (Int32 × yS)
  | 0, _, _, _, _ => none
  | n + 1, N, S, p1, l2 => if l2 ≤ 0 then f_X10_addBag_71 N S l2 else gA 30 (l2 - 1) fun j1 => gR (S.2.1 2 8) 30 (S.2.1 2 10 j1) fun j2 => bV (f_X0_isAheadOf N S p1 ((384 + j2))) fun w1 => if w1 = 0 then f_X10_addBag_71 N S l2 else gA 30 (l2 - 1) fun j3 => gA 30 l2 fun j4 => sq (yA S 2 10 (upd (S.2.1 2 10) j4 (S.2.1 2 10 j3))) fun S1 => f_X10_addBag_27 n N S1 p1 (l2 + (-1))
set_option maxHeartbeats 4000000 in
set_option maxRecDepth 40000 in
theorem w_X10_addBag_27 {F : xH} {ev : xEv} {prim : xRel} {d sz : Nat} {T : yT} {v : Int32} {S' : yS} (N : Nat) (n : Nat) : ∀ (S : yS) (p1 : Nat) (l2 : Int32) (hp : xH) (lv : xLv) (a0 : Nat) (a1 : Nat) (fa0 : yAt T 10 2 0 a0) (fa1 : yAt T 0 p1 0 a1) (g0 : xG lv 0 = some (.ref a0)) (g1 : xG lv 1 = some (.ref a1)) (g2 : xG lv 2 = some (.int l2)) (hM : cR [0, 1, 2, 3, 4, 5, 6, 7] F ev T S hp) (h : f_X10_addBag_27 n N S p1 l2 = some (v, S')), yWE ev.2.1 (xstr ev) (xCalls ev xmi (xprog ev) prim (d + 1)) (pX10_addBag ev) (27, lv, [], hp, sz, 0) (ypQ [0, 1, 2, 3, 4, 5, 6, 7] F ev T sz (some (.int v)) S') := by
  induction n with
  | zero => intro S p1 l2 hp lv a0 a1 fa0 fa1 g0 g1 g2 hM h; exact n_some h
  | succ n ih =>
    intro S p1 l2 hp lv a0 a1 fa0 fa1 g0 g1 g2 hM h
    unfold f_X10_addBag_27 at h
    refine ye_iload rfl g2 ?_
    refine ye_if_le rfl (fun h1 => ?_) (fun h1 => ?_)
    · replace h := yiT h1 h
      exact w_X10_addBag_71 (prim := prim) (d := d) N S l2 hp lv a0 fa0 g0 g2 hM h
    · replace h := yiN h1 h
      refine ye_aload rfl g1 ?_
      refine ye_aload rfl g0 ?_
      refine ye_getr rfl (hM.obj fa0 ⟨rfl, rfl⟩) rfl (fun cx1 ecx1 => ?_)
      have fcx1 := yAt.row fa0 ecx1
      refine ye_aload rfl g0 ?_
      refine ye_getr rfl (hM.obj fa0 ⟨rfl, rfl⟩) rfl (fun cx2 ecx2 => ?_)
      have fcx2 := yAt.row fa0 ecx2
      refine ye_iload rfl g2 ?_
      refine ye_p rfl rfl ?_
      refine ye_p rfl rfl ?_
      obtain ⟨j1, ej1, ij1, h⟩ := gA_some h
      refine yj_ald rfl (hM.arr fcx2 yr_10_10) ij1 ej1 ?_
      obtain ⟨j2, ej2, ij2, rj2, h⟩ := gR_some h
      refine ye_aaldR (t := 7) rfl (hM.arr fcx1 yr_10_8) ij2 ej2 rj2 (fun cx3 ecx3 => ?_)
      have fcx3 : yAt T 0 (384 + j2) 0 cx3 := ⟨hM.refd fcx1 yr_10_8 (by decide) rj2, oc_384 (by have := vp_lt ij2; omega), ecx3⟩
      obtain ⟨w1, hw1, h⟩ := bV_some h
      refine ye_callV (As := [.ref cx3]) (rest := []) 0 (Or.inl rfl) rfl rfl rfl (Nat.le_of_ble_eq_true rfl) (hM.obj fa1 ⟨rfl, rfl⟩) ((m_X0_isAheadOf (d := d + 0) (T := T) N S p1 ((384 + j2)) a1 cx3 fa1 fcx3 hw1) hp sz hM) ?_
      refine ye_if_eq rfl (fun h2 => ?_) (fun h2 => ?_)
      · replace h := yiT h2 h
        exact w_X10_addBag_71 (prim := prim) (d := d) N S l2 hp lv a0 fa0 g0 g2 hM h
      · replace h := yiN h2 h
        refine ye_aload rfl g0 ?_
        refine ye_getr rfl (hM.obj fa0 ⟨rfl, rfl⟩) rfl (fun cx4 ecx4 => ?_)
        have fcx4 := yAt.row fa0 ecx4
        refine ye_iload rfl g2 ?_
        refine ye_aload rfl g0 ?_
        refine ye_getr rfl (hM.obj fa0 ⟨rfl, rfl⟩) rfl (fun cx5 ecx5 => ?_)
        have fcx5 := yAt.row fa0 ecx5
        refine ye_iload rfl g2 ?_
        refine ye_p rfl rfl ?_
        refine ye_p rfl rfl ?_
        obtain ⟨j3, ej3, ij3, h⟩ := gA_some h
        refine yj_ald rfl (hM.arr fcx5 yr_10_10) ij3 ej3 ?_
        obtain ⟨j4, ej4, ij4, h⟩ := gA_some h
        obtain ⟨S1, eS1, h⟩ := sq_some h
        refine yw_ast rfl hM fcx4 yr_10_10 (by decide) ij4 ej4 eS1 (fun y1 M1 => ?_)
        refine ye_iinc rfl g2 ?_
        have g0_z1 := xG_o1 (i := 2) (v := .int (l2 + (-1))) g0 rfl
        have g1_z1 := xG_o1 (i := 2) (v := .int (l2 + (-1))) g1 rfl
        have g2_z1 := xG_same lv 2 (.int (l2 + (-1)))
        generalize xSt1 lv 2 (.int (l2 + (-1))) = lvz1 at g0_z1 g1_z1 g2_z1 ⊢
        refine ye_p rfl rfl ?_
        exact ih S1 p1 (l2 + (-1)) y1 lvz1 a0 a1 fa0 fa1 g0_z1 g1_z1 g2_z1 M1 h

def f_X10_addBag_0 (N : Nat) (S : yS) (p1 : Nat) : Option (Int32 × yS) := bS (f_X0_addStep N S p1 (S.1 2 13) (S.1 p1 0)) fun w1 S1 => gA 30 (S1.1 2 9) fun j1 => gP (p1 = 384 + j1) (sq (yA S1 2 8 (upd (S1.2.1 2 8) j1 1)) fun S2 => f_X10_addBag_27 N N S2 p1 (S2.1 2 9))
set_option maxHeartbeats 4000000 in
set_option maxRecDepth 40000 in
theorem w_X10_addBag_0 {F : xH} {ev : xEv} {prim : xRel} {d sz : Nat} {T : yT} {v : Int32} {S' : yS} (N : Nat) (S : yS) (p1 : Nat) (hp : xH) (lv : xLv) (a0 : Nat) (a1 : Nat) (fa0 : yAt T 10 2 0 a0) (fa1 : yAt T 0 p1 0 a1) (g0 : xG lv 0 = some (.ref a0)) (g1 : xG lv 1 = some (.ref a1)) (hM : cR [0, 1, 2, 3, 4, 5, 6, 7] F ev T S hp) (h : f_X10_addBag_0 N S p1 = some (v, S')) : yWE ev.2.1 (xstr ev) (xCalls ev xmi (xprog ev) prim (d + 1)) (pX10_addBag ev) (0, lv, [], hp, sz, 0) (ypQ [0, 1, 2, 3, 4, 5, 6, 7] F ev T sz (some (.int v)) S') := by
  unfold f_X10_addBag_0 at h
  refine ye_aload rfl g1 ?_
  refine ye_aload rfl g0 ?_
  refine ye_getf rfl (hM.obj fa0 ⟨rfl, rfl⟩) rfl ?_
  refine ye_aload rfl g1 ?_
  refine ye_getf rfl (hM.obj fa1 ⟨rfl, rfl⟩) rfl ?_
  obtain ⟨w1, S1, hw1, h⟩ := bS_some h
  obtain ⟨y1, cy1, M1⟩ := (m_X0_addStep (d := d + 0) (T := T) N S p1 (S.1 2 13) (S.1 p1 0) a1 fa1 hw1) hp sz hM
  refine ye_callV (As := [.int (S.1 2 13), .int (S.1 p1 0)]) (rest := []) 0 (Or.inl rfl) rfl rfl rfl (Nat.le_of_ble_eq_true rfl) (hM.obj fa1 ⟨rfl, rfl⟩) cy1 ?_
  refine ye_aload rfl g0 ?_
  refine ye_getr rfl (M1.obj fa0 ⟨rfl, rfl⟩) rfl (fun cx1 ecx1 => ?_)
  have fcx1 := yAt.row fa0 ecx1
  refine ye_aload rfl g0 ?_
  refine ye_getf rfl (M1.obj fa0 ⟨rfl, rfl⟩) rfl ?_
  refine ye_aload rfl g1 ?_
  obtain ⟨j1, ej1, ij1, h⟩ := gA_some h
  obtain ⟨i1, h⟩ := gP_some h
  obtain ⟨S2, eS2, h⟩ := sq_some h
  refine yw_aast rfl M1 fcx1 yr_10_8 (by decide) (i1 ▸ fa1) rfl ⟨rfl, rfl⟩ ij1 ej1 eS2 (fun y2 M2 => ?_)
  refine ye_aload rfl g0 ?_
  refine ye_getf rfl (M2.obj fa0 ⟨rfl, rfl⟩) rfl ?_
  refine ye_p rfl rfl ?_
  have g0_z1 := xG_o1 (i := 2) (v := .int (S2.1 2 9)) g0 rfl
  have g1_z1 := xG_o1 (i := 2) (v := .int (S2.1 2 9)) g1 rfl
  have g2_z1 := xG_same lv 2 (.int (S2.1 2 9))
  generalize xSt1 lv 2 (.int (S2.1 2 9)) = lvz1 at g0_z1 g1_z1 g2_z1 ⊢
  exact w_X10_addBag_27 (prim := prim) (d := d) N N S2 p1 (S2.1 2 9) y2 lvz1 a0 a1 fa0 fa1 g0_z1 g1_z1 g2_z1 M2 h
def f_X10_addBag (N : Nat) (S : yS) (xp1 : Nat) : Option (Int32 × yS) := f_X10_addBag_0 N S xp1
theorem m_X10_addBag {F : xH} {ev : xEv} {prim : xRel} {d : Nat} {T : yT} {v : Int32} {S' : yS} (N : Nat) (S : yS) (xp1 : Nat) (a0 : Nat) (a1 : Nat) (fa0 : yAt T 10 2 0 a0) (fa1 : yAt T 0 xp1 0 a1) (h : f_X10_addBag N S xp1 = some (v, S')) : ykQ [0, 1, 2, 3, 4, 5, 6, 7] F ev prim (d + 2) 96 T S [.ref a0, .ref a1] (some (.int v)) S' :=
  ykQ.of (pg_96 ev) mi_96 (Nat.le_of_ble_eq_true rfl) (fun hp sz hM => w_X10_addBag_0 (prim := prim) (d := d) N S xp1 hp _ a0 a1 fa0 fa1 rfl rfl hM h)

def f_X10_isNight_25 (N : Nat) (S : yS) (t0 : Int32) : Option Int32 := gP (t0 = 0 ∨ t0 = 1) (some t0)
set_option maxHeartbeats 4000000 in
set_option maxRecDepth 40000 in
theorem w_X10_isNight_25 {F : xH} {ev : xEv} {prim : xRel} {d sz : Nat} {T : yT} {v : Int32} {hp : xH} (N : Nat) (S : yS) (t0 : Int32) (lv : xLv) (hM : cR [0, 1, 2, 3, 4, 5, 6, 7] F ev T S hp) (h : f_X10_isNight_25 N S t0 = some v) : yWE ev.2.1 (xstr ev) (xCalls ev xmi (xprog ev) prim (d + 0)) (pX10_isNight ev) (25, lv, [.int t0], hp, sz, 0) (ypP hp sz (.int v)) := by
  unfold f_X10_isNight_25 at h
  obtain ⟨i1, h⟩ := gP_some h
  exact ye_ret rfl (if_pos (zb_nar i1)) (rP h)

def f_X10_isNight_20 (N : Nat) (S : yS) : Option Int32 := f_X10_isNight_25 N S 1
set_option maxHeartbeats 4000000 in
set_option maxRecDepth 40000 in
theorem w_X10_isNight_20 {F : xH} {ev : xEv} {prim : xRel} {d sz : Nat} {T : yT} {v : Int32} {hp : xH} (N : Nat) (S : yS) (lv : xLv) (hM : cR [0, 1, 2, 3, 4, 5, 6, 7] F ev T S hp) (h : f_X10_isNight_20 N S = some v) : yWE ev.2.1 (xstr ev) (xCalls ev xmi (xprog ev) prim (d + 0)) (pX10_isNight ev) (20, lv, [], hp, sz, 0) (ypP hp sz (.int v)) := by
  unfold f_X10_isNight_20 at h
  refine ye_p rfl rfl ?_
  refine ye_p rfl rfl ?_
  exact w_X10_isNight_25 (prim := prim) (d := d) N S 1 lv hM h

def f_X10_isNight_0 (N : Nat) (S : yS) : Option Int32 := if ((S.1 2 13) - (S.1 2 13) / 96 * 96) < 24 then f_X10_isNight_20 N S else if ((S.1 2 13) - (S.1 2 13) / 96 * 96) < 72 then f_X10_isNight_25 N S 0 else f_X10_isNight_20 N S
set_option maxHeartbeats 4000000 in
set_option maxRecDepth 40000 in
theorem w_X10_isNight_0 {F : xH} {ev : xEv} {prim : xRel} {d sz : Nat} {T : yT} {v : Int32} {hp : xH} (N : Nat) (S : yS) (lv : xLv) (a0 : Nat) (fa0 : yAt T 10 2 0 a0) (g0 : xG lv 0 = some (.ref a0)) (hM : cR [0, 1, 2, 3, 4, 5, 6, 7] F ev T S hp) (h : f_X10_isNight_0 N S = some v) : yWE ev.2.1 (xstr ev) (xCalls ev xmi (xprog ev) prim (d + 0)) (pX10_isNight ev) (0, lv, [], hp, sz, 0) (ypP hp sz (.int v)) := by
  unfold f_X10_isNight_0 at h
  refine ye_aload rfl g0 ?_
  refine ye_getf rfl (hM.obj fa0 ⟨rfl, rfl⟩) rfl ?_
  refine ye_p rfl rfl ?_
  refine ye_div rfl (by decide) ?_
  refine ye_p rfl rfl ?_
  have g1_z1 := xG_same lv 1 (.int ((S.1 2 13) - (S.1 2 13) / 96 * 96))
  generalize xSt1 lv 1 (.int ((S.1 2 13) - (S.1 2 13) / 96 * 96)) = lvz1 at g1_z1 ⊢
  refine ye_iload rfl g1_z1 ?_
  refine ye_p rfl rfl ?_
  refine ye_icmp_lt rfl (fun h1 => ?_) (fun h1 => ?_)
  · replace h := yiT h1 h
    exact w_X10_isNight_20 (prim := prim) (d := d) N S lvz1 hM h
  · replace h := yiN h1 h
    refine ye_iload rfl g1_z1 ?_
    refine ye_p rfl rfl ?_
    refine ye_icmp_lt rfl (fun h2 => ?_) (fun h2 => ?_)
    · replace h := yiT h2 h
      refine ye_p rfl rfl ?_
      exact w_X10_isNight_25 (prim := prim) (d := d) N S 0 lvz1 hM h
    · replace h := yiN h2 h
      exact w_X10_isNight_20 (prim := prim) (d := d) N S lvz1 hM h
def f_X10_isNight (N : Nat) (S : yS) : Option Int32 := f_X10_isNight_0 N S
theorem m_X10_isNight {F : xH} {ev : xEv} {prim : xRel} {d : Nat} {T : yT} {v : Int32} (N : Nat) (S : yS) (a0 : Nat) (fa0 : yAt T 10 2 0 a0) (h : f_X10_isNight N S = some v) : ykP [0, 1, 2, 3, 4, 5, 6, 7] F ev prim (d + 1) 100 T S [.ref a0] (.int v) :=
  ykP.of (pg_100 ev) mi_100 (Nat.le_of_ble_eq_true rfl) (fun hp sz hM => w_X10_isNight_0 (prim := prim) (d := d) N S _ a0 fa0 rfl hM h)

def f_X10_carriedAtMost_0 (N : Nat) (S : yS) (p1 : Nat) (p2 : Nat) : Option Int32 := gA 8 (S.1 p1 8) fun j1 => some (if (50 * (((S.1 p1 2) - ((S.1 p1 5) / 20)) - (S.1 p2 3))) < ((S.1 p1 1) - (5 * (S.2.1 1 0 j1))) then (50 * (((S.1 p1 2) - ((S.1 p1 5) / 20)) - (S.1 p2 3))) else ((S.1 p1 1) - (5 * (S.2.1 1 0 j1))))
set_option maxHeartbeats 4000000 in
set_option maxRecDepth 40000 in
theorem w_X10_carriedAtMost_0 {F : xH} {ev : xEv} {prim : xRel} {d sz : Nat} {T : yT} {v : Int32} {hp : xH} (N : Nat) (S : yS) (p1 : Nat) (p2 : Nat) (lv : xLv) (a0 : Nat) (a1 : Nat) (a2 : Nat) (fa0 : yAt T 10 2 0 a0) (fa1 : yAt T 6 p1 0 a1) (fa2 : yAt T 3 p2 0 a2) (g0 : xG lv 0 = some (.ref a0)) (g1 : xG lv 1 = some (.ref a1)) (g2 : xG lv 2 = some (.ref a2)) (hM : cR [0, 1, 2, 3, 4, 5, 6, 7] F ev T S hp) (h : f_X10_carriedAtMost_0 N S p1 p2 = some v) : yWE ev.2.1 (xstr ev) (xCalls ev xmi (xprog ev) prim (d + 0)) (pX10_carriedAtMost ev) (0, lv, [], hp, sz, 0) (ypP hp sz (.int v)) := by
  unfold f_X10_carriedAtMost_0 at h
  refine ye_aload rfl g1 ?_
  refine ye_getf rfl (hM.obj fa1 ⟨rfl, rfl⟩) rfl ?_
  refine ye_p rfl rfl ?_
  refine ye_aload rfl g0 ?_
  refine ye_getr rfl (hM.obj fa0 ⟨rfl, rfl⟩) rfl (fun cx1 ecx1 => ?_)
  have fcx1 := hM.root 2 0 (by decide) rfl ecx1
  refine ye_getr rfl (hM.obj fcx1 ⟨rfl, rfl⟩) rfl (fun cx2 ecx2 => ?_)
  have fcx2 := yAt.row fcx1 ecx2
  refine ye_aload rfl g1 ?_
  refine ye_getf rfl (hM.obj fa1 ⟨rfl, rfl⟩) rfl ?_
  obtain ⟨j1, ej1, ij1, h⟩ := gA_some h
  refine yj_ald rfl (hM.arr fcx2 yr_2_0) ij1 ej1 ?_
  refine ye_p rfl rfl ?_
  refine ye_p rfl rfl ?_
  refine ye_p rfl rfl ?_
  have g1_z1 := xG_o1 (i := 3) (v := .int ((S.1 p1 1) - (5 * (S.2.1 1 0 j1)))) g1 rfl
  have g2_z1 := xG_o1 (i := 3) (v := .int ((S.1 p1 1) - (5 * (S.2.1 1 0 j1)))) g2 rfl
  have g3_z1 := xG_same lv 3 (.int ((S.1 p1 1) - (5 * (S.2.1 1 0 j1))))
  generalize xSt1 lv 3 (.int ((S.1 p1 1) - (5 * (S.2.1 1 0 j1)))) = lvz1 at g1_z1 g2_z1 g3_z1 ⊢
  refine ye_p rfl rfl ?_
  refine ye_aload rfl g1_z1 ?_
  refine ye_getf rfl (hM.obj fa1 ⟨rfl, rfl⟩) rfl ?_
  refine ye_aload rfl g1_z1 ?_
  refine ye_getf rfl (hM.obj fa1 ⟨rfl, rfl⟩) rfl ?_
  refine ye_p rfl rfl ?_
  refine ye_div rfl (by decide) ?_
  refine ye_p rfl rfl ?_
  refine ye_aload rfl g2_z1 ?_
  refine ye_getf rfl (hM.obj fa2 ⟨rfl, rfl⟩) rfl ?_
  refine ye_p rfl rfl ?_
  refine ye_p rfl rfl ?_
  refine ye_p rfl rfl ?_
  have g3_z2 := xG_o1 (i := 4) (v := .int (50 * (((S.1 p1 2) - ((S.1 p1 5) / 20)) - (S.1 p2 3)))) g3_z1 rfl
  have g4_z2 := xG_same lvz1 4 (.int (50 * (((S.1 p1 2) - ((S.1 p1 5) / 20)) - (S.1 p2 3))))
  generalize xSt1 lvz1 4 (.int (50 * (((S.1 p1 2) - ((S.1 p1 5) / 20)) - (S.1 p2 3)))) = lvz2 at g3_z2 g4_z2 ⊢
  refine ye_iload rfl g3_z2 ?_
  refine ye_iload rfl g4_z2 ?_
  refine ye_p rfl rfl ?_
  exact ye_ret rfl rfl (rP h)
def f_X10_carriedAtMost (N : Nat) (S : yS) (xp1 : Nat) (xp2 : Nat) : Option Int32 := f_X10_carriedAtMost_0 N S xp1 xp2
theorem m_X10_carriedAtMost {F : xH} {ev : xEv} {prim : xRel} {d : Nat} {T : yT} {v : Int32} (N : Nat) (S : yS) (xp1 : Nat) (xp2 : Nat) (a0 : Nat) (a1 : Nat) (a2 : Nat) (fa0 : yAt T 10 2 0 a0) (fa1 : yAt T 6 xp1 0 a1) (fa2 : yAt T 3 xp2 0 a2) (h : f_X10_carriedAtMost N S xp1 xp2 = some v) : ykP [0, 1, 2, 3, 4, 5, 6, 7] F ev prim (d + 1) 103 T S [.ref a0, .ref a1, .ref a2] (.int v) :=
  ykP.of (pg_103 ev) mi_103 (Nat.le_of_ble_eq_true rfl) (fun hp sz hM => w_X10_carriedAtMost_0 (prim := prim) (d := d) N S xp1 xp2 _ a0 a1 a2 fa0 fa1 fa2 rfl rfl rfl hM h)

def f_X10_putCommonLetters_81 (N : Nat) (S : yS) (p1 : Nat) (p4 : Nat) (t1 : Int32) (t2 : Int32) : Option (Int32 × yS) := bS (f_X8r_put N S t1 t2) fun w1 S1 => bS (f_X8r_put N S1 104 (S1.1 p4 2)) fun w2 S2 => bS (f_X8r_put N S2 117 ((S2.1 p1 6) - (S2.1 p1 5))) fun w3 S3 => some (0, S3)
set_option maxHeartbeats 4000000 in
set_option maxRecDepth 40000 in
theorem w_X10_putCommonLetters_81 {F : xH} {ev : xEv} {prim : xRel} {d sz : Nat} {T : yT} {v : Int32} {S' : yS} (N : Nat) (S : yS) (p1 : Nat) (p4 : Nat) (t1 : Int32) (t2 : Int32) (hp : xH) (lv : xLv) (a0 : Nat) (a1 : Nat) (a4 : Nat) (b0 : Nat) (fa0 : yAt T 10 2 0 a0) (fa1 : yAt T 6 p1 0 a1) (fa4 : yAt T 5 p4 0 a4) (fb0 : yAt T 14 4 0 b0) (g0 : xG lv 0 = some (.ref a0)) (g1 : xG lv 1 = some (.ref a1)) (g4 : xG lv 4 = some (.ref a4)) (hM : cR [0, 1, 2, 3, 4, 5, 6, 7] F ev T S hp) (h : f_X10_putCommonLetters_81 N S p1 p4 t1 t2 = some (v, S')) : yWE ev.2.1 (xstr ev) (xCalls ev xmi (xprog ev) prim (d + 1)) (pX10_putCommonLetters ev) (81, lv, [.int t2, .int t1, .ref b0], hp, sz, 0) (ypQ [0, 1, 2, 3, 4, 5, 6, 7] F ev T sz (none) S') := by
  unfold f_X10_putCommonLetters_81 at h
  obtain ⟨w1, S1, hw1, h⟩ := bS_some h
  obtain ⟨y1, cy1, M1⟩ := (m_X8r_put (d := d + 0) (T := T) N S t1 t2 b0 fb0 hw1) hp sz hM
  refine ye_callV (As := [.int t1, .int t2]) (rest := []) 0 (Or.inl rfl) rfl rfl rfl (Nat.le_of_ble_eq_true rfl) (hM.obj fb0 ⟨rfl, rfl⟩) cy1 ?_
  refine ye_aload rfl g0 ?_
  refine ye_getr rfl (M1.obj fa0 ⟨rfl, rfl⟩) rfl (fun cx1 ecx1 => ?_)
  have fcx1 := M1.root 14 0 (by decide) rfl ecx1
  refine ye_p rfl rfl ?_
  refine ye_aload rfl g4 ?_
  refine ye_getf rfl (M1.obj fa4 ⟨rfl, rfl⟩) rfl ?_
  obtain ⟨w2, S2, hw2, h⟩ := bS_some h
  obtain ⟨y2, cy2, M2⟩ := (m_X8r_put (d := d + 0) (T := T) N S1 104 (S1.1 p4 2) cx1 fcx1 hw2) y1 sz M1
  refine ye_callV (As := [.int 104, .int (S1.1 p4 2)]) (rest := []) 0 (Or.inl rfl) rfl rfl rfl (Nat.le_of_ble_eq_true rfl) (M1.obj fcx1 ⟨rfl, rfl⟩) cy2 ?_
  refine ye_aload rfl g0 ?_
  refine ye_getr rfl (M2.obj fa0 ⟨rfl, rfl⟩) rfl (fun cx2 ecx2 => ?_)
  have fcx2 := M2.root 14 0 (by decide) rfl ecx2
  refine ye_p rfl rfl ?_
  refine ye_aload rfl g1 ?_
  refine ye_getf rfl (M2.obj fa1 ⟨rfl, rfl⟩) rfl ?_
  refine ye_aload rfl g1 ?_
  refine ye_getf rfl (M2.obj fa1 ⟨rfl, rfl⟩) rfl ?_
  refine ye_p rfl rfl ?_
  obtain ⟨w3, S3, hw3, h⟩ := bS_some h
  obtain ⟨y3, cy3, M3⟩ := (m_X8r_put (d := d + 0) (T := T) N S2 117 ((S2.1 p1 6) - (S2.1 p1 5)) cx2 fcx2 hw3) y2 sz M2
  refine ye_callV (As := [.int 117, .int ((S2.1 p1 6) - (S2.1 p1 5))]) (rest := []) 0 (Or.inl rfl) rfl rfl rfl (Nat.le_of_ble_eq_true rfl) (M2.obj fcx2 ⟨rfl, rfl⟩) cy3 ?_
  exact ye_ret rfl rfl (rQV h M3)

def f_X10_putCommonLetters_55 (N : Nat) (S : yS) (p1 : Nat) (p2 : Nat) (p4 : Nat) (t1 : Int32) (t2 : Int32) : Option (Int32 × yS) := bS (f_X8r_put N S t1 t2) fun w1 S1 => bV (f_X5_knowsLeg N S1 p4 (S1.1 p2 2)) fun w2 => if w2 = 0 then f_X10_putCommonLetters_81 N S1 p1 p4 107 0 else f_X10_putCommonLetters_81 N S1 p1 p4 107 1
set_option maxHeartbeats 4000000 in
set_option maxRecDepth 40000 in
theorem w_X10_putCommonLetters_55 {F : xH} {ev : xEv} {prim : xRel} {d sz : Nat} {T : yT} {v : Int32} {S' : yS} (N : Nat) (S : yS) (p1 : Nat) (p2 : Nat) (p4 : Nat) (t1 : Int32) (t2 : Int32) (hp : xH) (lv : xLv) (a0 : Nat) (a1 : Nat) (a2 : Nat) (a4 : Nat) (b0 : Nat) (fa0 : yAt T 10 2 0 a0) (fa1 : yAt T 6 p1 0 a1) (fa2 : yAt T 1 p2 0 a2) (fa4 : yAt T 5 p4 0 a4) (fb0 : yAt T 14 4 0 b0) (g0 : xG lv 0 = some (.ref a0)) (g1 : xG lv 1 = some (.ref a1)) (g2 : xG lv 2 = some (.ref a2)) (g4 : xG lv 4 = some (.ref a4)) (hM : cR [0, 1, 2, 3, 4, 5, 6, 7] F ev T S hp) (h : f_X10_putCommonLetters_55 N S p1 p2 p4 t1 t2 = some (v, S')) : yWE ev.2.1 (xstr ev) (xCalls ev xmi (xprog ev) prim (d + 1)) (pX10_putCommonLetters ev) (55, lv, [.int t2, .int t1, .ref b0], hp, sz, 0) (ypQ [0, 1, 2, 3, 4, 5, 6, 7] F ev T sz (none) S') := by
  unfold f_X10_putCommonLetters_55 at h
  obtain ⟨w1, S1, hw1, h⟩ := bS_some h
  obtain ⟨y1, cy1, M1⟩ := (m_X8r_put (d := d + 0) (T := T) N S t1 t2 b0 fb0 hw1) hp sz hM
  refine ye_callV (As := [.int t1, .int t2]) (rest := []) 0 (Or.inl rfl) rfl rfl rfl (Nat.le_of_ble_eq_true rfl) (hM.obj fb0 ⟨rfl, rfl⟩) cy1 ?_
  refine ye_aload rfl g0 ?_
  refine ye_getr rfl (M1.obj fa0 ⟨rfl, rfl⟩) rfl (fun cx1 ecx1 => ?_)
  have fcx1 := M1.root 14 0 (by decide) rfl ecx1
  refine ye_p rfl rfl ?_
  refine ye_aload rfl g4 ?_
  refine ye_aload rfl g2 ?_
  refine ye_getf rfl (M1.obj fa2 ⟨rfl, rfl⟩) rfl ?_
  obtain ⟨w2, hw2, h⟩ := bV_some h
  refine ye_callV (As := [.int (S1.1 p2 2)]) (rest := [.int 107, .ref cx1]) 0 (Or.inl rfl) rfl rfl rfl (Nat.le_of_ble_eq_true rfl) (M1.obj fa4 ⟨rfl, rfl⟩) ((m_X5_knowsLeg (d := d + 0) (T := T) N S1 p4 (S1.1 p2 2) a4 fa4 hw2) y1 sz M1) ?_
  refine ye_if_eq rfl (fun h1 => ?_) (fun h1 => ?_)
  · replace h := yiT h1 h
    refine ye_p rfl rfl ?_
    exact w_X10_putCommonLetters_81 (prim := prim) (d := d) N S1 p1 p4 107 0 y1 lv a0 a1 a4 cx1 fa0 fa1 fa4 fcx1 g0 g1 g4 M1 h
  · replace h := yiN h1 h
    refine ye_p rfl rfl ?_
    refine ye_p rfl rfl ?_
    exact w_X10_putCommonLetters_81 (prim := prim) (d := d) N S1 p1 p4 107 1 y1 lv a0 a1 a4 cx1 fa0 fa1 fa4 fcx1 g0 g1 g4 M1 h

def f_X10_putCommonLetters_29 (N : Nat) (S : yS) (p1 : Nat) (p2 : Nat) (l3 : Int32) (p4 : Nat) (t1 : Int32) (t2 : Int32) : Option (Int32 × yS) := bS (f_X8r_put N S t1 t2) fun w1 S1 => gA 8 l3 fun j1 => if (S1.2.1 1 1 j1) = 0 then f_X10_putCommonLetters_55 N S1 p1 p2 p4 108 0 else f_X10_putCommonLetters_55 N S1 p1 p2 p4 108 1
set_option maxHeartbeats 4000000 in
set_option maxRecDepth 40000 in
theorem w_X10_putCommonLetters_29 {F : xH} {ev : xEv} {prim : xRel} {d sz : Nat} {T : yT} {v : Int32} {S' : yS} (N : Nat) (S : yS) (p1 : Nat) (p2 : Nat) (l3 : Int32) (p4 : Nat) (t1 : Int32) (t2 : Int32) (hp : xH) (lv : xLv) (a0 : Nat) (a1 : Nat) (a2 : Nat) (a4 : Nat) (b0 : Nat) (fa0 : yAt T 10 2 0 a0) (fa1 : yAt T 6 p1 0 a1) (fa2 : yAt T 1 p2 0 a2) (fa4 : yAt T 5 p4 0 a4) (fb0 : yAt T 14 4 0 b0) (g0 : xG lv 0 = some (.ref a0)) (g1 : xG lv 1 = some (.ref a1)) (g2 : xG lv 2 = some (.ref a2)) (g3 : xG lv 3 = some (.int l3)) (g4 : xG lv 4 = some (.ref a4)) (hM : cR [0, 1, 2, 3, 4, 5, 6, 7] F ev T S hp) (h : f_X10_putCommonLetters_29 N S p1 p2 l3 p4 t1 t2 = some (v, S')) : yWE ev.2.1 (xstr ev) (xCalls ev xmi (xprog ev) prim (d + 1)) (pX10_putCommonLetters ev) (29, lv, [.int t2, .int t1, .ref b0], hp, sz, 0) (ypQ [0, 1, 2, 3, 4, 5, 6, 7] F ev T sz (none) S') := by
  unfold f_X10_putCommonLetters_29 at h
  obtain ⟨w1, S1, hw1, h⟩ := bS_some h
  obtain ⟨y1, cy1, M1⟩ := (m_X8r_put (d := d + 0) (T := T) N S t1 t2 b0 fb0 hw1) hp sz hM
  refine ye_callV (As := [.int t1, .int t2]) (rest := []) 0 (Or.inl rfl) rfl rfl rfl (Nat.le_of_ble_eq_true rfl) (hM.obj fb0 ⟨rfl, rfl⟩) cy1 ?_
  refine ye_aload rfl g0 ?_
  refine ye_getr rfl (M1.obj fa0 ⟨rfl, rfl⟩) rfl (fun cx1 ecx1 => ?_)
  have fcx1 := M1.root 14 0 (by decide) rfl ecx1
  refine ye_p rfl rfl ?_
  refine ye_aload rfl g0 ?_
  refine ye_getr rfl (M1.obj fa0 ⟨rfl, rfl⟩) rfl (fun cx2 ecx2 => ?_)
  have fcx2 := M1.root 2 0 (by decide) rfl ecx2
  refine ye_getr rfl (M1.obj fcx2 ⟨rfl, rfl⟩) rfl (fun cx3 ecx3 => ?_)
  have fcx3 := yAt.row fcx2 ecx3
  refine ye_iload rfl g3 ?_
  obtain ⟨j1, ej1, ij1, h⟩ := gA_some h
  refine yj_ald rfl (M1.arr fcx3 yr_2_1) ij1 ej1 ?_
  refine ye_if_eq rfl (fun h1 => ?_) (fun h1 => ?_)
  · replace h := yiT h1 h
    refine ye_p rfl rfl ?_
    exact w_X10_putCommonLetters_55 (prim := prim) (d := d) N S1 p1 p2 p4 108 0 y1 lv a0 a1 a2 a4 cx1 fa0 fa1 fa2 fa4 fcx1 g0 g1 g2 g4 M1 h
  · replace h := yiN h1 h
    refine ye_p rfl rfl ?_
    refine ye_p rfl rfl ?_
    exact w_X10_putCommonLetters_55 (prim := prim) (d := d) N S1 p1 p2 p4 108 1 y1 lv a0 a1 a2 a4 cx1 fa0 fa1 fa2 fa4 fcx1 g0 g1 g2 g4 M1 h

def f_X10_putCommonLetters_0 (N : Nat) (S : yS) (p1 : Nat) (p2 : Nat) (l3 : Int32) : Option (Int32 × yS) := gR (S.2.1 2 6) 8 (S.1 p2 1) fun j1 => bV (f_X10_isNight N S) fun w1 => if w1 = 0 then f_X10_putCommonLetters_29 N S p1 p2 l3 ((256 + j1)) 110 0 else f_X10_putCommonLetters_29 N S p1 p2 l3 ((256 + j1)) 110 1
set_option maxHeartbeats 4000000 in
set_option maxRecDepth 40000 in
theorem w_X10_putCommonLetters_0 {F : xH} {ev : xEv} {prim : xRel} {d sz : Nat} {T : yT} {v : Int32} {S' : yS} (N : Nat) (S : yS) (p1 : Nat) (p2 : Nat) (l3 : Int32) (hp : xH) (lv : xLv) (a0 : Nat) (a1 : Nat) (a2 : Nat) (fa0 : yAt T 10 2 0 a0) (fa1 : yAt T 6 p1 0 a1) (fa2 : yAt T 1 p2 0 a2) (g0 : xG lv 0 = some (.ref a0)) (g1 : xG lv 1 = some (.ref a1)) (g2 : xG lv 2 = some (.ref a2)) (g3 : xG lv 3 = some (.int l3)) (hM : cR [0, 1, 2, 3, 4, 5, 6, 7] F ev T S hp) (h : f_X10_putCommonLetters_0 N S p1 p2 l3 = some (v, S')) : yWE ev.2.1 (xstr ev) (xCalls ev xmi (xprog ev) prim (d + 1)) (pX10_putCommonLetters ev) (0, lv, [], hp, sz, 0) (ypQ [0, 1, 2, 3, 4, 5, 6, 7] F ev T sz (none) S') := by
  unfold f_X10_putCommonLetters_0 at h
  refine ye_aload rfl g0 ?_
  refine ye_getr rfl (hM.obj fa0 ⟨rfl, rfl⟩) rfl (fun cx1 ecx1 => ?_)
  have fcx1 := yAt.row fa0 ecx1
  refine ye_aload rfl g2 ?_
  refine ye_getf rfl (hM.obj fa2 ⟨rfl, rfl⟩) rfl ?_
  obtain ⟨j1, ej1, ij1, rj1, h⟩ := gR_some h
  refine ye_aaldR (t := 6) rfl (hM.arr fcx1 yr_10_6) ij1 ej1 rj1 (fun cx2 ecx2 => ?_)
  have fcx2 : yAt T 5 (256 + j1) 0 cx2 := ⟨hM.refd fcx1 yr_10_6 (by decide) rj1, oc_256 (by have := vp_lt ij1; omega), ecx2⟩
  refine ye_p rfl rfl ?_
  have g0_z1 := xG_o1 (i := 4) (v := .ref cx2) g0 rfl
  have g1_z1 := xG_o1 (i := 4) (v := .ref cx2) g1 rfl
  have g2_z1 := xG_o1 (i := 4) (v := .ref cx2) g2 rfl
  have g3_z1 := xG_o1 (i := 4) (v := .ref cx2) g3 rfl
  have g4_z1 := xG_same lv 4 (.ref cx2)
  generalize xSt1 lv 4 (.ref cx2) = lvz1 at g0_z1 g1_z1 g2_z1 g3_z1 g4_z1 ⊢
  refine ye_aload rfl g0_z1 ?_
  refine ye_getr rfl (hM.obj fa0 ⟨rfl, rfl⟩) rfl (fun cx3 ecx3 => ?_)
  have fcx3 := hM.root 14 0 (by decide) rfl ecx3
  refine ye_p rfl rfl ?_
  refine ye_aload rfl g0_z1 ?_
  obtain ⟨w1, hw1, h⟩ := bV_some h
  refine ye_callV (As := []) (rest := [.int 110, .ref cx3]) 0 (Or.inl rfl) rfl rfl rfl (Nat.le_of_ble_eq_true rfl) (hM.obj fa0 ⟨rfl, rfl⟩) ((m_X10_isNight (d := d + 0) (T := T) N S a0 fa0 hw1) hp sz hM) ?_
  refine ye_if_eq rfl (fun h1 => ?_) (fun h1 => ?_)
  · replace h := yiT h1 h
    refine ye_p rfl rfl ?_
    exact w_X10_putCommonLetters_29 (prim := prim) (d := d) N S p1 p2 l3 ((256 + j1)) 110 0 hp lvz1 a0 a1 a2 cx2 cx3 fa0 fa1 fa2 fcx2 fcx3 g0_z1 g1_z1 g2_z1 g3_z1 g4_z1 hM h
  · replace h := yiN h1 h
    refine ye_p rfl rfl ?_
    refine ye_p rfl rfl ?_
    exact w_X10_putCommonLetters_29 (prim := prim) (d := d) N S p1 p2 l3 ((256 + j1)) 110 1 hp lvz1 a0 a1 a2 cx2 cx3 fa0 fa1 fa2 fcx2 fcx3 g0_z1 g1_z1 g2_z1 g3_z1 g4_z1 hM h
def f_X10_putCommonLetters (N : Nat) (S : yS) (xp1 : Nat) (xp2 : Nat) (xl3 : Int32) : Option (Int32 × yS) := f_X10_putCommonLetters_0 N S xp1 xp2 xl3
theorem m_X10_putCommonLetters {F : xH} {ev : xEv} {prim : xRel} {d : Nat} {T : yT} {v : Int32} {S' : yS} (N : Nat) (S : yS) (xp1 : Nat) (xp2 : Nat) (xl3 : Int32) (a0 : Nat) (a1 : Nat) (a2 : Nat) (fa0 : yAt T 10 2 0 a0) (fa1 : yAt T 6 xp1 0 a1) (fa2 : yAt T 1 xp2 0 a2) (h : f_X10_putCommonLetters N S xp1 xp2 xl3 = some (v, S')) : ykQ [0, 1, 2, 3, 4, 5, 6, 7] F ev prim (d + 2) 105 T S [.ref a0, .ref a1, .ref a2, .int xl3] (none) S' :=
  ykQ.of (pg_105 ev) mi_105 (Nat.le_of_ble_eq_true rfl) (fun hp sz hM => w_X10_putCommonLetters_0 (prim := prim) (d := d) N S xp1 xp2 xl3 hp _ a0 a1 a2 fa0 fa1 fa2 rfl rfl rfl rfl hM h)

def f_X10_goesBy_52 (N : Nat) (S : yS) (t0 : Int32) : Option Int32 := gP (t0 = 0 ∨ t0 = 1) (some t0)
set_option maxHeartbeats 4000000 in
set_option maxRecDepth 40000 in
theorem w_X10_goesBy_52 {F : xH} {ev : xEv} {prim : xRel} {d sz : Nat} {T : yT} {v : Int32} {hp : xH} (N : Nat) (S : yS) (t0 : Int32) (lv : xLv) (hM : cR [0, 1, 2, 3, 4, 5, 6, 7] F ev T S hp) (h : f_X10_goesBy_52 N S t0 = some v) : yWE ev.2.1 (xstr ev) (xCalls ev xmi (xprog ev) prim (d + 1)) (pX10_goesBy ev) (52, lv, [.int t0], hp, sz, 0) (ypP hp sz (.int v)) := by
  unfold f_X10_goesBy_52 at h
  obtain ⟨i1, h⟩ := gP_some h
  exact ye_ret rfl (if_pos (zb_nar i1)) (rP h)

def f_X10_goesBy_47 (N : Nat) (S : yS) : Option Int32 := f_X10_goesBy_52 N S 1
set_option maxHeartbeats 4000000 in
set_option maxRecDepth 40000 in
theorem w_X10_goesBy_47 {F : xH} {ev : xEv} {prim : xRel} {d sz : Nat} {T : yT} {v : Int32} {hp : xH} (N : Nat) (S : yS) (lv : xLv) (hM : cR [0, 1, 2, 3, 4, 5, 6, 7] F ev T S hp) (h : f_X10_goesBy_47 N S = some v) : yWE ev.2.1 (xstr ev) (xCalls ev xmi (xprog ev) prim (d + 1)) (pX10_goesBy ev) (47, lv, [], hp, sz, 0) (ypP hp sz (.int v)) := by
  unfold f_X10_goesBy_47 at h
  refine ye_p rfl rfl ?_
  refine ye_p rfl rfl ?_
  exact w_X10_goesBy_52 (prim := prim) (d := d) N S 1 lv hM h

def f_X10_goesBy_0 (N : Nat) (S : yS) (p1 : Nat) (p2 : Nat) (l3 : Int32) : Option Int32 := bV (f_X2_milesBetween N S l3 (S.1 p1 1)) fun w1 => if l3 = (S.1 p1 1) then f_X10_goesBy_47 N S else bV (f_X2_milesBetween N S (S.1 p1 5) (S.1 p1 1)) fun w2 => if ¬ (w1 + (S.1 p2 2)) = w2 then f_X10_goesBy_52 N S 0 else f_X10_goesBy_47 N S
set_option maxHeartbeats 4000000 in
set_option maxRecDepth 40000 in
theorem w_X10_goesBy_0 {F : xH} {ev : xEv} {prim : xRel} {d sz : Nat} {T : yT} {v : Int32} {hp : xH} (N : Nat) (S : yS) (p1 : Nat) (p2 : Nat) (l3 : Int32) (lv : xLv) (a0 : Nat) (a1 : Nat) (a2 : Nat) (fa0 : yAt T 10 2 0 a0) (fa1 : yAt T 0 p1 0 a1) (fa2 : yAt T 3 p2 0 a2) (g0 : xG lv 0 = some (.ref a0)) (g1 : xG lv 1 = some (.ref a1)) (g2 : xG lv 2 = some (.ref a2)) (g3 : xG lv 3 = some (.int l3)) (hM : cR [0, 1, 2, 3, 4, 5, 6, 7] F ev T S hp) (h : f_X10_goesBy_0 N S p1 p2 l3 = some v) : yWE ev.2.1 (xstr ev) (xCalls ev xmi (xprog ev) prim (d + 1)) (pX10_goesBy ev) (0, lv, [], hp, sz, 0) (ypP hp sz (.int v)) := by
  unfold f_X10_goesBy_0 at h
  refine ye_aload rfl g0 ?_
  refine ye_getr rfl (hM.obj fa0 ⟨rfl, rfl⟩) rfl (fun cx1 ecx1 => ?_)
  have fcx1 := hM.root 2 0 (by decide) rfl ecx1
  refine ye_iload rfl g3 ?_
  refine ye_aload rfl g1 ?_
  refine ye_getf rfl (hM.obj fa1 ⟨rfl, rfl⟩) rfl ?_
  obtain ⟨w1, hw1, h⟩ := bV_some h
  refine ye_callV (As := [.int l3, .int (S.1 p1 1)]) (rest := []) 0 (Or.inl rfl) rfl rfl rfl (Nat.le_of_ble_eq_true rfl) (hM.obj fcx1 ⟨rfl, rfl⟩) ((m_X2_milesBetween (d := d + 0) (T := T) N S l3 (S.1 p1 1) cx1 fcx1 hw1) hp sz hM) ?_
  refine ye_p rfl rfl ?_
  have g0_z1 := xG_o1 (i := 4) (v := .int w1) g0 rfl
  have g1_z1 := xG_o1 (i := 4) (v := .int w1) g1 rfl
  have g2_z1 := xG_o1 (i := 4) (v := .int w1) g2 rfl
  have g3_z1 := xG_o1 (i := 4) (v := .int w1) g3 rfl
  have g4_z1 := xG_same lv 4 (.int w1)
  generalize xSt1 lv 4 (.int w1) = lvz1 at g0_z1 g1_z1 g2_z1 g3_z1 g4_z1 ⊢
  refine ye_iload rfl g3_z1 ?_
  refine ye_aload rfl g1_z1 ?_
  refine ye_getf rfl (hM.obj fa1 ⟨rfl, rfl⟩) rfl ?_
  refine ye_icmp_eq rfl (fun h1 => ?_) (fun h1 => ?_)
  · replace h := yiT h1 h
    exact w_X10_goesBy_47 (prim := prim) (d := d) N S lvz1 hM h
  · replace h := yiN h1 h
    refine ye_iload rfl g4_z1 ?_
    refine ye_aload rfl g2_z1 ?_
    refine ye_getf rfl (hM.obj fa2 ⟨rfl, rfl⟩) rfl ?_
    refine ye_p rfl rfl ?_
    refine ye_aload rfl g0_z1 ?_
    refine ye_getr rfl (hM.obj fa0 ⟨rfl, rfl⟩) rfl (fun cx2 ecx2 => ?_)
    have fcx2 := hM.root 2 0 (by decide) rfl ecx2
    refine ye_aload rfl g1_z1 ?_
    refine ye_getf rfl (hM.obj fa1 ⟨rfl, rfl⟩) rfl ?_
    refine ye_aload rfl g1_z1 ?_
    refine ye_getf rfl (hM.obj fa1 ⟨rfl, rfl⟩) rfl ?_
    obtain ⟨w2, hw2, h⟩ := bV_some h
    refine ye_callV (As := [.int (S.1 p1 5), .int (S.1 p1 1)]) (rest := [.int (w1 + (S.1 p2 2))]) 0 (Or.inl rfl) rfl rfl rfl (Nat.le_of_ble_eq_true rfl) (hM.obj fcx2 ⟨rfl, rfl⟩) ((m_X2_milesBetween (d := d + 0) (T := T) N S (S.1 p1 5) (S.1 p1 1) cx2 fcx2 hw2) hp sz hM) ?_
    refine ye_icmp_ne rfl (fun h2 => ?_) (fun h2 => ?_)
    · replace h := yiT h2 h
      refine ye_p rfl rfl ?_
      exact w_X10_goesBy_52 (prim := prim) (d := d) N S 0 lvz1 hM h
    · replace h := yiN h2 h
      exact w_X10_goesBy_47 (prim := prim) (d := d) N S lvz1 hM h
def f_X10_goesBy (N : Nat) (S : yS) (xp1 : Nat) (xp2 : Nat) (xl3 : Int32) : Option Int32 := f_X10_goesBy_0 N S xp1 xp2 xl3
theorem m_X10_goesBy {F : xH} {ev : xEv} {prim : xRel} {d : Nat} {T : yT} {v : Int32} (N : Nat) (S : yS) (xp1 : Nat) (xp2 : Nat) (xl3 : Int32) (a0 : Nat) (a1 : Nat) (a2 : Nat) (fa0 : yAt T 10 2 0 a0) (fa1 : yAt T 0 xp1 0 a1) (fa2 : yAt T 3 xp2 0 a2) (h : f_X10_goesBy N S xp1 xp2 xl3 = some v) : ykP [0, 1, 2, 3, 4, 5, 6, 7] F ev prim (d + 2) 108 T S [.ref a0, .ref a1, .ref a2, .int xl3] (.int v) :=
  ykP.of (pg_108 ev) mi_108 (Nat.le_of_ble_eq_true rfl) (fun hp sz hM => w_X10_goesBy_0 (prim := prim) (d := d) N S xp1 xp2 xl3 _ a0 a1 a2 fa0 fa1 fa2 rfl rfl rfl rfl hM h)

def f_X10_bagsGiven_44 (N : Nat) (k4 : yS → Int32 → Int32 → Int32 → Option Int32) (S : yS) (l1 : Int32) (l2 : Int32) (l3 : Int32) : Option Int32 := k4 S l1 l2 (l3 + 1)
set_option maxHeartbeats 4000000 in
set_option maxRecDepth 40000 in
theorem w_X10_bagsGiven_44 {F : xH} {ev : xEv} {prim : xRel} {d sz : Nat} {T : yT} {v : Int32} {hp : xH} (N : Nat) (k4 : yS → Int32 → Int32 → Int32 → Option Int32) (u4 : ∀ (S : yS) (l1 : Int32) (l2 : Int32) (l3 : Int32) (lv : xLv) (a0 : Nat) (fa0 : yAt T 10 2 0 a0) (g0 : xG lv 0 = some (.ref a0)) (g1 : xG lv 1 = some (.int l1)) (g2 : xG lv 2 = some (.int l2)) (g3 : xG lv 3 = some (.int l3)) (hM : cR [0, 1, 2, 3, 4, 5, 6, 7] F ev T S hp) (h : k4 S l1 l2 l3 = some v), yWE ev.2.1 (xstr ev) (xCalls ev xmi (xprog ev) prim (d + 1)) (pX10_bagsGiven ev) (4, lv, [], hp, sz, 0) (ypP hp sz (.int v))) (S : yS) (l1 : Int32) (l2 : Int32) (l3 : Int32) (lv : xLv) (a0 : Nat) (fa0 : yAt T 10 2 0 a0) (g0 : xG lv 0 = some (.ref a0)) (g1 : xG lv 1 = some (.int l1)) (g2 : xG lv 2 = some (.int l2)) (g3 : xG lv 3 = some (.int l3)) (hM : cR [0, 1, 2, 3, 4, 5, 6, 7] F ev T S hp) (h : f_X10_bagsGiven_44 N k4 S l1 l2 l3 = some v) : yWE ev.2.1 (xstr ev) (xCalls ev xmi (xprog ev) prim (d + 1)) (pX10_bagsGiven ev) (44, lv, [], hp, sz, 0) (ypP hp sz (.int v)) := by
  unfold f_X10_bagsGiven_44 at h
  refine ye_iinc rfl g3 ?_
  have g0_z1 := xG_o1 (i := 3) (v := .int (l3 + 1)) g0 rfl
  have g1_z1 := xG_o1 (i := 3) (v := .int (l3 + 1)) g1 rfl
  have g2_z1 := xG_o1 (i := 3) (v := .int (l3 + 1)) g2 rfl
  have g3_z1 := xG_same lv 3 (.int (l3 + 1))
  generalize xSt1 lv 3 (.int (l3 + 1)) = lvz1 at g0_z1 g1_z1 g2_z1 g3_z1 ⊢
  refine ye_p rfl rfl ?_
  exact u4 S l1 l2 (l3 + 1) lvz1 a0 fa0 g0_z1 g1_z1 g2_z1 g3_z1 hM h

def f_X10_bagsGiven_41 (N : Nat) (k4 : yS → Int32 → Int32 → Int32 → Option Int32) (S : yS) (l1 : Int32) (l2 : Int32) (l3 : Int32) : Option Int32 := f_X10_bagsGiven_44 N k4 S l1 (l2 + 1) l3
set_option maxHeartbeats 4000000 in
set_option maxRecDepth 40000 in
theorem w_X10_bagsGiven_41 {F : xH} {ev : xEv} {prim : xRel} {d sz : Nat} {T : yT} {v : Int32} {hp : xH} (N : Nat) (k4 : yS → Int32 → Int32 → Int32 → Option Int32) (u4 : ∀ (S : yS) (l1 : Int32) (l2 : Int32) (l3 : Int32) (lv : xLv) (a0 : Nat) (fa0 : yAt T 10 2 0 a0) (g0 : xG lv 0 = some (.ref a0)) (g1 : xG lv 1 = some (.int l1)) (g2 : xG lv 2 = some (.int l2)) (g3 : xG lv 3 = some (.int l3)) (hM : cR [0, 1, 2, 3, 4, 5, 6, 7] F ev T S hp) (h : k4 S l1 l2 l3 = some v), yWE ev.2.1 (xstr ev) (xCalls ev xmi (xprog ev) prim (d + 1)) (pX10_bagsGiven ev) (4, lv, [], hp, sz, 0) (ypP hp sz (.int v))) (S : yS) (l1 : Int32) (l2 : Int32) (l3 : Int32) (lv : xLv) (a0 : Nat) (fa0 : yAt T 10 2 0 a0) (g0 : xG lv 0 = some (.ref a0)) (g1 : xG lv 1 = some (.int l1)) (g2 : xG lv 2 = some (.int l2)) (g3 : xG lv 3 = some (.int l3)) (hM : cR [0, 1, 2, 3, 4, 5, 6, 7] F ev T S hp) (h : f_X10_bagsGiven_41 N k4 S l1 l2 l3 = some v) : yWE ev.2.1 (xstr ev) (xCalls ev xmi (xprog ev) prim (d + 1)) (pX10_bagsGiven ev) (41, lv, [], hp, sz, 0) (ypP hp sz (.int v)) := by
  unfold f_X10_bagsGiven_41 at h
  refine ye_iinc rfl g2 ?_
  have g0_z1 := xG_o1 (i := 2) (v := .int (l2 + 1)) g0 rfl
  have g1_z1 := xG_o1 (i := 2) (v := .int (l2 + 1)) g1 rfl
  have g3_z1 := xG_o1 (i := 2) (v := .int (l2 + 1)) g3 rfl
  have g2_z1 := xG_same lv 2 (.int (l2 + 1))
  generalize xSt1 lv 2 (.int (l2 + 1)) = lvz1 at g0_z1 g1_z1 g3_z1 g2_z1 ⊢
  exact w_X10_bagsGiven_44 (prim := prim) (d := d) N k4 u4 S l1 (l2 + 1) l3 lvz1 a0 fa0 g0_z1 g1_z1 g2_z1 g3_z1 hM h

def f_X10_bagsGiven_4 : Nat → Nat → yS → Int32 → Int32 → Int32 → Option Int32
  | 0, _, _, _, _, _ => none
  | n + 1, N, S, l1, l2, l3 => if (S.1 2 9) ≤ l3 then some l2 else gR (S.2.1 2 8) 30 l3 fun j1 => if (S.1 ((384 + j1)) 8) = ((-1)) then f_X10_bagsGiven_44 N (fun S l1 l2 l3 => f_X10_bagsGiven_4 n N S l1 l2 l3) S l1 l2 l3 else if l1 = 0 then f_X10_bagsGiven_41 N (fun S l1 l2 l3 => f_X10_bagsGiven_4 n N S l1 l2 l3) S l1 l2 l3 else gR (S.2.1 2 8) 30 l3 fun j2 => bV (f_X0_late N S ((384 + j2))) fun w1 => if ¬ w1 = 0 then f_X10_bagsGiven_44 N (fun S l1 l2 l3 => f_X10_bagsGiven_4 n N S l1 l2 l3) S l1 l2 l3 else f_X10_bagsGiven_41 N (fun S l1 l2 l3 => f_X10_bagsGiven_4 n N S l1 l2 l3) S l1 l2 l3
set_option maxHeartbeats 4000000 in
set_option maxRecDepth 40000 in
theorem w_X10_bagsGiven_4 {F : xH} {ev : xEv} {prim : xRel} {d sz : Nat} {T : yT} {v : Int32} {hp : xH} (N : Nat) (n : Nat) : ∀ (S : yS) (l1 : Int32) (l2 : Int32) (l3 : Int32) (lv : xLv) (a0 : Nat) (fa0 : yAt T 10 2 0 a0) (g0 : xG lv 0 = some (.ref a0)) (g1 : xG lv 1 = some (.int l1)) (g2 : xG lv 2 = some (.int l2)) (g3 : xG lv 3 = some (.int l3)) (hM : cR [0, 1, 2, 3, 4, 5, 6, 7] F ev T S hp) (h : f_X10_bagsGiven_4 n N S l1 l2 l3 = some v), yWE ev.2.1 (xstr ev) (xCalls ev xmi (xprog ev) prim (d + 1)) (pX10_bagsGiven ev) (4, lv, [], hp, sz, 0) (ypP hp sz (.int v)) := by
  induction n with
  | zero => intro S l1 l2 l3 lv a0 fa0 g0 g1 g2 g3 hM h; exact n_some h
  | succ n ih =>
    intro S l1 l2 l3 lv a0 fa0 g0 g1 g2 g3 hM h
    unfold f_X10_bagsGiven_4 at h
    refine ye_iload rfl g3 ?_
    refine ye_aload rfl g0 ?_
    refine ye_getf rfl (hM.obj fa0 ⟨rfl, rfl⟩) rfl ?_
    refine ye_icmp_ge rfl (fun h1 => ?_) (fun h1 => ?_)
    · replace h := yiT h1 h
      refine ye_iload rfl g2 ?_
      exact ye_ret rfl rfl (rP h)
    · replace h := yiN h1 h
      refine ye_aload rfl g0 ?_
      refine ye_getr rfl (hM.obj fa0 ⟨rfl, rfl⟩) rfl (fun cx1 ecx1 => ?_)
      have fcx1 := yAt.row fa0 ecx1
      refine ye_iload rfl g3 ?_
      obtain ⟨j1, ej1, ij1, rj1, h⟩ := gR_some h
      refine ye_aaldR (t := 7) rfl (hM.arr fcx1 yr_10_8) ij1 ej1 rj1 (fun cx2 ecx2 => ?_)
      have fcx2 : yAt T 0 (384 + j1) 0 cx2 := ⟨hM.refd fcx1 yr_10_8 (by decide) rj1, oc_384 (by have := vp_lt ij1; omega), ecx2⟩
      refine ye_getf rfl (hM.obj fcx2 ⟨rfl, rfl⟩) rfl ?_
      refine ye_p rfl rfl ?_
      refine ye_icmp_eq rfl (fun h2 => ?_) (fun h2 => ?_)
      · replace h := yiT h2 h
        exact w_X10_bagsGiven_44 (prim := prim) (d := d) N (fun S l1 l2 l3 => f_X10_bagsGiven_4 n N S l1 l2 l3) ih S l1 l2 l3 lv a0 fa0 g0 g1 g2 g3 hM h
      · replace h := yiN h2 h
        refine ye_iload rfl g1 ?_
        refine ye_if_eq rfl (fun h3 => ?_) (fun h3 => ?_)
        · replace h := yiT h3 h
          exact w_X10_bagsGiven_41 (prim := prim) (d := d) N (fun S l1 l2 l3 => f_X10_bagsGiven_4 n N S l1 l2 l3) ih S l1 l2 l3 lv a0 fa0 g0 g1 g2 g3 hM h
        · replace h := yiN h3 h
          refine ye_aload rfl g0 ?_
          refine ye_getr rfl (hM.obj fa0 ⟨rfl, rfl⟩) rfl (fun cx3 ecx3 => ?_)
          have fcx3 := yAt.row fa0 ecx3
          refine ye_iload rfl g3 ?_
          obtain ⟨j2, ej2, ij2, rj2, h⟩ := gR_some h
          refine ye_aaldR (t := 7) rfl (hM.arr fcx3 yr_10_8) ij2 ej2 rj2 (fun cx4 ecx4 => ?_)
          have fcx4 : yAt T 0 (384 + j2) 0 cx4 := ⟨hM.refd fcx3 yr_10_8 (by decide) rj2, oc_384 (by have := vp_lt ij2; omega), ecx4⟩
          obtain ⟨w1, hw1, h⟩ := bV_some h
          refine ye_callV (As := []) (rest := []) 0 (Or.inl rfl) rfl rfl rfl (Nat.le_of_ble_eq_true rfl) (hM.obj fcx4 ⟨rfl, rfl⟩) ((m_X0_late (d := d + 0) (T := T) N S ((384 + j2)) cx4 fcx4 hw1) hp sz hM) ?_
          refine ye_if_ne rfl (fun h4 => ?_) (fun h4 => ?_)
          · replace h := yiT h4 h
            exact w_X10_bagsGiven_44 (prim := prim) (d := d) N (fun S l1 l2 l3 => f_X10_bagsGiven_4 n N S l1 l2 l3) ih S l1 l2 l3 lv a0 fa0 g0 g1 g2 g3 hM h
          · replace h := yiN h4 h
            exact w_X10_bagsGiven_41 (prim := prim) (d := d) N (fun S l1 l2 l3 => f_X10_bagsGiven_4 n N S l1 l2 l3) ih S l1 l2 l3 lv a0 fa0 g0 g1 g2 g3 hM h

def f_X10_bagsGiven_0 (N : Nat) (S : yS) (l1 : Int32) : Option Int32 := f_X10_bagsGiven_4 N N S l1 0 0
set_option maxHeartbeats 4000000 in
set_option maxRecDepth 40000 in
theorem w_X10_bagsGiven_0 {F : xH} {ev : xEv} {prim : xRel} {d sz : Nat} {T : yT} {v : Int32} {hp : xH} (N : Nat) (S : yS) (l1 : Int32) (lv : xLv) (a0 : Nat) (fa0 : yAt T 10 2 0 a0) (g0 : xG lv 0 = some (.ref a0)) (g1 : xG lv 1 = some (.int l1)) (hM : cR [0, 1, 2, 3, 4, 5, 6, 7] F ev T S hp) (h : f_X10_bagsGiven_0 N S l1 = some v) : yWE ev.2.1 (xstr ev) (xCalls ev xmi (xprog ev) prim (d + 1)) (pX10_bagsGiven ev) (0, lv, [], hp, sz, 0) (ypP hp sz (.int v)) := by
  unfold f_X10_bagsGiven_0 at h
  refine ye_p rfl rfl ?_
  refine ye_p rfl rfl ?_
  have g0_z1 := xG_o1 (i := 2) (v := .int 0) g0 rfl
  have g1_z1 := xG_o1 (i := 2) (v := .int 0) g1 rfl
  have g2_z1 := xG_same lv 2 (.int 0)
  generalize xSt1 lv 2 (.int 0) = lvz1 at g0_z1 g1_z1 g2_z1 ⊢
  refine ye_p rfl rfl ?_
  refine ye_p rfl rfl ?_
  have g0_z2 := xG_o1 (i := 3) (v := .int 0) g0_z1 rfl
  have g1_z2 := xG_o1 (i := 3) (v := .int 0) g1_z1 rfl
  have g2_z2 := xG_o1 (i := 3) (v := .int 0) g2_z1 rfl
  have g3_z2 := xG_same lvz1 3 (.int 0)
  generalize xSt1 lvz1 3 (.int 0) = lvz2 at g0_z2 g1_z2 g2_z2 g3_z2 ⊢
  exact w_X10_bagsGiven_4 (prim := prim) (d := d) N N S l1 0 0 lvz2 a0 fa0 g0_z2 g1_z2 g2_z2 g3_z2 hM h
def f_X10_bagsGiven (N : Nat) (S : yS) (xl1 : Int32) : Option Int32 := f_X10_bagsGiven_0 N S xl1
theorem m_X10_bagsGiven {F : xH} {ev : xEv} {prim : xRel} {d : Nat} {T : yT} {v : Int32} (N : Nat) (S : yS) (xl1 : Int32) (a0 : Nat) (fa0 : yAt T 10 2 0 a0) (h : f_X10_bagsGiven N S xl1 = some v) : ykP [0, 1, 2, 3, 4, 5, 6, 7] F ev prim (d + 2) 117 T S [.ref a0, .int xl1] (.int v) :=
  ykP.of (pg_117 ev) mi_117 (Nat.le_of_ble_eq_true rfl) (fun hp sz hM => w_X10_bagsGiven_0 (prim := prim) (d := d) N S xl1 _ a0 fa0 rfl rfl hM h)

def f_X10_planesDown_30 (N : Nat) (k4 : yS → Int32 → Int32 → Option Int32) (S : yS) (l2 : Int32) (t0 : Int32) (t1 : Int32) : Option Int32 := k4 S (t0 + t1) (l2 + 1)
set_option maxHeartbeats 4000000 in
set_option maxRecDepth 40000 in
theorem w_X10_planesDown_30 {F : xH} {ev : xEv} {prim : xRel} {d sz : Nat} {T : yT} {v : Int32} {hp : xH} (N : Nat) (k4 : yS → Int32 → Int32 → Option Int32) (u4 : ∀ (S : yS) (l1 : Int32) (l2 : Int32) (lv : xLv) (a0 : Nat) (fa0 : yAt T 10 2 0 a0) (g0 : xG lv 0 = some (.ref a0)) (g1 : xG lv 1 = some (.int l1)) (g2 : xG lv 2 = some (.int l2)) (hM : cR [0, 1, 2, 3, 4, 5, 6, 7] F ev T S hp) (h : k4 S l1 l2 = some v), yWE ev.2.1 (xstr ev) (xCalls ev xmi (xprog ev) prim (d + 0)) (pX10_planesDown ev) (4, lv, [], hp, sz, 0) (ypP hp sz (.int v))) (S : yS) (l2 : Int32) (t0 : Int32) (t1 : Int32) (lv : xLv) (a0 : Nat) (fa0 : yAt T 10 2 0 a0) (g0 : xG lv 0 = some (.ref a0)) (g2 : xG lv 2 = some (.int l2)) (hM : cR [0, 1, 2, 3, 4, 5, 6, 7] F ev T S hp) (h : f_X10_planesDown_30 N k4 S l2 t0 t1 = some v) : yWE ev.2.1 (xstr ev) (xCalls ev xmi (xprog ev) prim (d + 0)) (pX10_planesDown ev) (30, lv, [.int t1, .int t0], hp, sz, 0) (ypP hp sz (.int v)) := by
  unfold f_X10_planesDown_30 at h
  refine ye_p rfl rfl ?_
  refine ye_p rfl rfl ?_
  have g0_z1 := xG_o1 (i := 1) (v := .int (t0 + t1)) g0 rfl
  have g2_z1 := xG_o1 (i := 1) (v := .int (t0 + t1)) g2 rfl
  have g1_z1 := xG_same lv 1 (.int (t0 + t1))
  generalize xSt1 lv 1 (.int (t0 + t1)) = lvz1 at g0_z1 g2_z1 g1_z1 ⊢
  refine ye_iinc rfl g2_z1 ?_
  have g0_z2 := xG_o1 (i := 2) (v := .int (l2 + 1)) g0_z1 rfl
  have g1_z2 := xG_o1 (i := 2) (v := .int (l2 + 1)) g1_z1 rfl
  have g2_z2 := xG_same lvz1 2 (.int (l2 + 1))
  generalize xSt1 lvz1 2 (.int (l2 + 1)) = lvz2 at g0_z2 g1_z2 g2_z2 ⊢
  refine ye_p rfl rfl ?_
  exact u4 S (t0 + t1) (l2 + 1) lvz2 a0 fa0 g0_z2 g1_z2 g2_z2 hM h

def f_X10_planesDown_4 : Nat → Nat → yS → Int32 → Int32 → Option Int32
  | 0, _, _, _, _ => none
  | n + 1, N, S, l1, l2 => if (S.1 2 5) ≤ l2 then some l1 else gR (S.2.1 2 4) 8 l2 fun j1 => if (S.1 ((128 + j1)) 12) = 0 then f_X10_planesDown_30 N (fun S l1 l2 => f_X10_planesDown_4 n N S l1 l2) S l2 l1 0 else f_X10_planesDown_30 N (fun S l1 l2 => f_X10_planesDown_4 n N S l1 l2) S l2 l1 1
set_option maxHeartbeats 4000000 in
set_option maxRecDepth 40000 in
theorem w_X10_planesDown_4 {F : xH} {ev : xEv} {prim : xRel} {d sz : Nat} {T : yT} {v : Int32} {hp : xH} (N : Nat) (n : Nat) : ∀ (S : yS) (l1 : Int32) (l2 : Int32) (lv : xLv) (a0 : Nat) (fa0 : yAt T 10 2 0 a0) (g0 : xG lv 0 = some (.ref a0)) (g1 : xG lv 1 = some (.int l1)) (g2 : xG lv 2 = some (.int l2)) (hM : cR [0, 1, 2, 3, 4, 5, 6, 7] F ev T S hp) (h : f_X10_planesDown_4 n N S l1 l2 = some v), yWE ev.2.1 (xstr ev) (xCalls ev xmi (xprog ev) prim (d + 0)) (pX10_planesDown ev) (4, lv, [], hp, sz, 0) (ypP hp sz (.int v)) := by
  induction n with
  | zero => intro S l1 l2 lv a0 fa0 g0 g1 g2 hM h; exact n_some h
  | succ n ih =>
    intro S l1 l2 lv a0 fa0 g0 g1 g2 hM h
    unfold f_X10_planesDown_4 at h
    refine ye_iload rfl g2 ?_
    refine ye_aload rfl g0 ?_
    refine ye_getf rfl (hM.obj fa0 ⟨rfl, rfl⟩) rfl ?_
    refine ye_icmp_ge rfl (fun h1 => ?_) (fun h1 => ?_)
    · replace h := yiT h1 h
      refine ye_iload rfl g1 ?_
      exact ye_ret rfl rfl (rP h)
    · replace h := yiN h1 h
      refine ye_iload rfl g1 ?_
      refine ye_aload rfl g0 ?_
      refine ye_getr rfl (hM.obj fa0 ⟨rfl, rfl⟩) rfl (fun cx1 ecx1 => ?_)
      have fcx1 := yAt.row fa0 ecx1
      refine ye_iload rfl g2 ?_
      obtain ⟨j1, ej1, ij1, rj1, h⟩ := gR_some h
      refine ye_aaldR (t := 5) rfl (hM.arr fcx1 yr_10_4) ij1 ej1 rj1 (fun cx2 ecx2 => ?_)
      have fcx2 : yAt T 6 (128 + j1) 0 cx2 := ⟨hM.refd fcx1 yr_10_4 (by decide) rj1, oc_128 (by have := vp_lt ij1; omega), ecx2⟩
      refine ye_getf rfl (hM.obj fcx2 ⟨rfl, rfl⟩) rfl ?_
      refine ye_if_eq rfl (fun h2 => ?_) (fun h2 => ?_)
      · replace h := yiT h2 h
        refine ye_p rfl rfl ?_
        exact w_X10_planesDown_30 (prim := prim) (d := d) N (fun S l1 l2 => f_X10_planesDown_4 n N S l1 l2) ih S l2 l1 0 lv a0 fa0 g0 g2 hM h
      · replace h := yiN h2 h
        refine ye_p rfl rfl ?_
        refine ye_p rfl rfl ?_
        exact w_X10_planesDown_30 (prim := prim) (d := d) N (fun S l1 l2 => f_X10_planesDown_4 n N S l1 l2) ih S l2 l1 1 lv a0 fa0 g0 g2 hM h

def f_X10_planesDown_0 (N : Nat) (S : yS) : Option Int32 := f_X10_planesDown_4 N N S 0 0
set_option maxHeartbeats 4000000 in
set_option maxRecDepth 40000 in
theorem w_X10_planesDown_0 {F : xH} {ev : xEv} {prim : xRel} {d sz : Nat} {T : yT} {v : Int32} {hp : xH} (N : Nat) (S : yS) (lv : xLv) (a0 : Nat) (fa0 : yAt T 10 2 0 a0) (g0 : xG lv 0 = some (.ref a0)) (hM : cR [0, 1, 2, 3, 4, 5, 6, 7] F ev T S hp) (h : f_X10_planesDown_0 N S = some v) : yWE ev.2.1 (xstr ev) (xCalls ev xmi (xprog ev) prim (d + 0)) (pX10_planesDown ev) (0, lv, [], hp, sz, 0) (ypP hp sz (.int v)) := by
  unfold f_X10_planesDown_0 at h
  refine ye_p rfl rfl ?_
  refine ye_p rfl rfl ?_
  have g0_z1 := xG_o1 (i := 1) (v := .int 0) g0 rfl
  have g1_z1 := xG_same lv 1 (.int 0)
  generalize xSt1 lv 1 (.int 0) = lvz1 at g0_z1 g1_z1 ⊢
  refine ye_p rfl rfl ?_
  refine ye_p rfl rfl ?_
  have g0_z2 := xG_o1 (i := 2) (v := .int 0) g0_z1 rfl
  have g1_z2 := xG_o1 (i := 2) (v := .int 0) g1_z1 rfl
  have g2_z2 := xG_same lvz1 2 (.int 0)
  generalize xSt1 lvz1 2 (.int 0) = lvz2 at g0_z2 g1_z2 g2_z2 ⊢
  exact w_X10_planesDown_4 (prim := prim) (d := d) N N S 0 0 lvz2 a0 fa0 g0_z2 g1_z2 g2_z2 hM h
def f_X10_planesDown (N : Nat) (S : yS) : Option Int32 := f_X10_planesDown_0 N S
theorem m_X10_planesDown {F : xH} {ev : xEv} {prim : xRel} {d : Nat} {T : yT} {v : Int32} (N : Nat) (S : yS) (a0 : Nat) (fa0 : yAt T 10 2 0 a0) (h : f_X10_planesDown N S = some v) : ykP [0, 1, 2, 3, 4, 5, 6, 7] F ev prim (d + 1) 118 T S [.ref a0] (.int v) :=
  ykP.of (pg_118 ev) mi_118 (Nat.le_of_ble_eq_true rfl) (fun hp sz hM => w_X10_planesDown_0 (prim := prim) (d := d) N S _ a0 fa0 rfl hM h)

def f_X10_weightOn_39 (N : Nat) (k4 : yS → Int32 → Int32 → Int32 → Option Int32) (S : yS) (l1 : Int32) (l3 : Int32) (t0 : Int32) (t1 : Int32) : Option Int32 := k4 S l1 (t0 + t1) (l3 + 1)
set_option maxHeartbeats 4000000 in
set_option maxRecDepth 40000 in
theorem w_X10_weightOn_39 {F : xH} {ev : xEv} {prim : xRel} {d sz : Nat} {T : yT} {v : Int32} {hp : xH} (N : Nat) (k4 : yS → Int32 → Int32 → Int32 → Option Int32) (u4 : ∀ (S : yS) (l1 : Int32) (l2 : Int32) (l3 : Int32) (lv : xLv) (a0 : Nat) (fa0 : yAt T 10 2 0 a0) (g0 : xG lv 0 = some (.ref a0)) (g1 : xG lv 1 = some (.int l1)) (g2 : xG lv 2 = some (.int l2)) (g3 : xG lv 3 = some (.int l3)) (hM : cR [0, 1, 2, 3, 4, 5, 6, 7] F ev T S hp) (h : k4 S l1 l2 l3 = some v), yWE ev.2.1 (xstr ev) (xCalls ev xmi (xprog ev) prim (d + 0)) (pX10_weightOn ev) (4, lv, [], hp, sz, 0) (ypP hp sz (.int v))) (S : yS) (l1 : Int32) (l3 : Int32) (t0 : Int32) (t1 : Int32) (lv : xLv) (a0 : Nat) (fa0 : yAt T 10 2 0 a0) (g0 : xG lv 0 = some (.ref a0)) (g1 : xG lv 1 = some (.int l1)) (g3 : xG lv 3 = some (.int l3)) (hM : cR [0, 1, 2, 3, 4, 5, 6, 7] F ev T S hp) (h : f_X10_weightOn_39 N k4 S l1 l3 t0 t1 = some v) : yWE ev.2.1 (xstr ev) (xCalls ev xmi (xprog ev) prim (d + 0)) (pX10_weightOn ev) (39, lv, [.int t1, .int t0], hp, sz, 0) (ypP hp sz (.int v)) := by
  unfold f_X10_weightOn_39 at h
  refine ye_p rfl rfl ?_
  refine ye_p rfl rfl ?_
  have g0_z1 := xG_o1 (i := 2) (v := .int (t0 + t1)) g0 rfl
  have g1_z1 := xG_o1 (i := 2) (v := .int (t0 + t1)) g1 rfl
  have g3_z1 := xG_o1 (i := 2) (v := .int (t0 + t1)) g3 rfl
  have g2_z1 := xG_same lv 2 (.int (t0 + t1))
  generalize xSt1 lv 2 (.int (t0 + t1)) = lvz1 at g0_z1 g1_z1 g3_z1 g2_z1 ⊢
  refine ye_iinc rfl g3_z1 ?_
  have g0_z2 := xG_o1 (i := 3) (v := .int (l3 + 1)) g0_z1 rfl
  have g1_z2 := xG_o1 (i := 3) (v := .int (l3 + 1)) g1_z1 rfl
  have g2_z2 := xG_o1 (i := 3) (v := .int (l3 + 1)) g2_z1 rfl
  have g3_z2 := xG_same lvz1 3 (.int (l3 + 1))
  generalize xSt1 lvz1 3 (.int (l3 + 1)) = lvz2 at g0_z2 g1_z2 g2_z2 g3_z2 ⊢
  refine ye_p rfl rfl ?_
  exact u4 S l1 (t0 + t1) (l3 + 1) lvz2 a0 fa0 g0_z2 g1_z2 g2_z2 g3_z2 hM h

def f_X10_weightOn_4 : Nat → Nat → yS → Int32 → Int32 → Int32 → Option Int32
  | 0, _, _, _, _, _ => none
  | n + 1, N, S, l1, l2, l3 => if (S.1 2 9) ≤ l3 then some l2 else gR (S.2.1 2 8) 30 l3 fun j1 => if ¬ (S.1 ((384 + j1)) 6) = l1 then f_X10_weightOn_39 N (fun S l1 l2 l3 => f_X10_weightOn_4 n N S l1 l2 l3) S l1 l3 l2 0 else gR (S.2.1 2 8) 30 l3 fun j2 => f_X10_weightOn_39 N (fun S l1 l2 l3 => f_X10_weightOn_4 n N S l1 l2 l3) S l1 l3 l2 (S.1 ((384 + j2)) 2)
set_option maxHeartbeats 4000000 in
set_option maxRecDepth 40000 in
theorem w_X10_weightOn_4 {F : xH} {ev : xEv} {prim : xRel} {d sz : Nat} {T : yT} {v : Int32} {hp : xH} (N : Nat) (n : Nat) : ∀ (S : yS) (l1 : Int32) (l2 : Int32) (l3 : Int32) (lv : xLv) (a0 : Nat) (fa0 : yAt T 10 2 0 a0) (g0 : xG lv 0 = some (.ref a0)) (g1 : xG lv 1 = some (.int l1)) (g2 : xG lv 2 = some (.int l2)) (g3 : xG lv 3 = some (.int l3)) (hM : cR [0, 1, 2, 3, 4, 5, 6, 7] F ev T S hp) (h : f_X10_weightOn_4 n N S l1 l2 l3 = some v), yWE ev.2.1 (xstr ev) (xCalls ev xmi (xprog ev) prim (d + 0)) (pX10_weightOn ev) (4, lv, [], hp, sz, 0) (ypP hp sz (.int v)) := by
  induction n with
  | zero => intro S l1 l2 l3 lv a0 fa0 g0 g1 g2 g3 hM h; exact n_some h
  | succ n ih =>
    intro S l1 l2 l3 lv a0 fa0 g0 g1 g2 g3 hM h
    unfold f_X10_weightOn_4 at h
    refine ye_iload rfl g3 ?_
    refine ye_aload rfl g0 ?_
    refine ye_getf rfl (hM.obj fa0 ⟨rfl, rfl⟩) rfl ?_
    refine ye_icmp_ge rfl (fun h1 => ?_) (fun h1 => ?_)
    · replace h := yiT h1 h
      refine ye_iload rfl g2 ?_
      exact ye_ret rfl rfl (rP h)
    · replace h := yiN h1 h
      refine ye_iload rfl g2 ?_
      refine ye_aload rfl g0 ?_
      refine ye_getr rfl (hM.obj fa0 ⟨rfl, rfl⟩) rfl (fun cx1 ecx1 => ?_)
      have fcx1 := yAt.row fa0 ecx1
      refine ye_iload rfl g3 ?_
      obtain ⟨j1, ej1, ij1, rj1, h⟩ := gR_some h
      refine ye_aaldR (t := 7) rfl (hM.arr fcx1 yr_10_8) ij1 ej1 rj1 (fun cx2 ecx2 => ?_)
      have fcx2 : yAt T 0 (384 + j1) 0 cx2 := ⟨hM.refd fcx1 yr_10_8 (by decide) rj1, oc_384 (by have := vp_lt ij1; omega), ecx2⟩
      refine ye_getf rfl (hM.obj fcx2 ⟨rfl, rfl⟩) rfl ?_
      refine ye_iload rfl g1 ?_
      refine ye_icmp_ne rfl (fun h2 => ?_) (fun h2 => ?_)
      · replace h := yiT h2 h
        refine ye_p rfl rfl ?_
        exact w_X10_weightOn_39 (prim := prim) (d := d) N (fun S l1 l2 l3 => f_X10_weightOn_4 n N S l1 l2 l3) ih S l1 l3 l2 0 lv a0 fa0 g0 g1 g3 hM h
      · replace h := yiN h2 h
        refine ye_aload rfl g0 ?_
        refine ye_getr rfl (hM.obj fa0 ⟨rfl, rfl⟩) rfl (fun cx3 ecx3 => ?_)
        have fcx3 := yAt.row fa0 ecx3
        refine ye_iload rfl g3 ?_
        obtain ⟨j2, ej2, ij2, rj2, h⟩ := gR_some h
        refine ye_aaldR (t := 7) rfl (hM.arr fcx3 yr_10_8) ij2 ej2 rj2 (fun cx4 ecx4 => ?_)
        have fcx4 : yAt T 0 (384 + j2) 0 cx4 := ⟨hM.refd fcx3 yr_10_8 (by decide) rj2, oc_384 (by have := vp_lt ij2; omega), ecx4⟩
        refine ye_getf rfl (hM.obj fcx4 ⟨rfl, rfl⟩) rfl ?_
        refine ye_p rfl rfl ?_
        exact w_X10_weightOn_39 (prim := prim) (d := d) N (fun S l1 l2 l3 => f_X10_weightOn_4 n N S l1 l2 l3) ih S l1 l3 l2 (S.1 ((384 + j2)) 2) lv a0 fa0 g0 g1 g3 hM h

def f_X10_weightOn_0 (N : Nat) (S : yS) (l1 : Int32) : Option Int32 := f_X10_weightOn_4 N N S l1 0 0
set_option maxHeartbeats 4000000 in
set_option maxRecDepth 40000 in
theorem w_X10_weightOn_0 {F : xH} {ev : xEv} {prim : xRel} {d sz : Nat} {T : yT} {v : Int32} {hp : xH} (N : Nat) (S : yS) (l1 : Int32) (lv : xLv) (a0 : Nat) (fa0 : yAt T 10 2 0 a0) (g0 : xG lv 0 = some (.ref a0)) (g1 : xG lv 1 = some (.int l1)) (hM : cR [0, 1, 2, 3, 4, 5, 6, 7] F ev T S hp) (h : f_X10_weightOn_0 N S l1 = some v) : yWE ev.2.1 (xstr ev) (xCalls ev xmi (xprog ev) prim (d + 0)) (pX10_weightOn ev) (0, lv, [], hp, sz, 0) (ypP hp sz (.int v)) := by
  unfold f_X10_weightOn_0 at h
  refine ye_p rfl rfl ?_
  refine ye_p rfl rfl ?_
  have g0_z1 := xG_o1 (i := 2) (v := .int 0) g0 rfl
  have g1_z1 := xG_o1 (i := 2) (v := .int 0) g1 rfl
  have g2_z1 := xG_same lv 2 (.int 0)
  generalize xSt1 lv 2 (.int 0) = lvz1 at g0_z1 g1_z1 g2_z1 ⊢
  refine ye_p rfl rfl ?_
  refine ye_p rfl rfl ?_
  have g0_z2 := xG_o1 (i := 3) (v := .int 0) g0_z1 rfl
  have g1_z2 := xG_o1 (i := 3) (v := .int 0) g1_z1 rfl
  have g2_z2 := xG_o1 (i := 3) (v := .int 0) g2_z1 rfl
  have g3_z2 := xG_same lvz1 3 (.int 0)
  generalize xSt1 lvz1 3 (.int 0) = lvz2 at g0_z2 g1_z2 g2_z2 g3_z2 ⊢
  exact w_X10_weightOn_4 (prim := prim) (d := d) N N S l1 0 0 lvz2 a0 fa0 g0_z2 g1_z2 g2_z2 g3_z2 hM h
def f_X10_weightOn (N : Nat) (S : yS) (xl1 : Int32) : Option Int32 := f_X10_weightOn_0 N S xl1
theorem m_X10_weightOn {F : xH} {ev : xEv} {prim : xRel} {d : Nat} {T : yT} {v : Int32} (N : Nat) (S : yS) (xl1 : Int32) (a0 : Nat) (fa0 : yAt T 10 2 0 a0) (h : f_X10_weightOn N S xl1 = some v) : ykP [0, 1, 2, 3, 4, 5, 6, 7] F ev prim (d + 1) 119 T S [.ref a0, .int xl1] (.int v) :=
  ykP.of (pg_119 ev) mi_119 (Nat.le_of_ble_eq_true rfl) (fun hp sz hM => w_X10_weightOn_0 (prim := prim) (d := d) N S xl1 _ a0 fa0 rfl rfl hM h)

def f_X10_listWaiting_37 (N : Nat) (k4 : yS → Int32 → Int32 → Option (Int32 × yS)) (S : yS) (l2 : Int32) (l3 : Int32) : Option (Int32 × yS) := k4 S l2 (l3 + 1)
set_option maxHeartbeats 4000000 in
set_option maxRecDepth 40000 in
theorem w_X10_listWaiting_37 {F : xH} {ev : xEv} {prim : xRel} {d sz : Nat} {T : yT} {v : Int32} {S' : yS} (N : Nat) (k4 : yS → Int32 → Int32 → Option (Int32 × yS)) (u4 : ∀ (S : yS) (l2 : Int32) (l3 : Int32) (hp : xH) (lv : xLv) (a0 : Nat) (a1 : Nat) (fa0 : yAt T 10 2 0 a0) (fa1 : yAt T 13 9 1 a1) (g0 : xG lv 0 = some (.ref a0)) (g1 : xG lv 1 = some (.ref a1)) (g2 : xG lv 2 = some (.int l2)) (g3 : xG lv 3 = some (.int l3)) (hM : cR [0, 1, 2, 3, 4, 5, 6, 7] F ev T S hp) (h : k4 S l2 l3 = some (v, S')), yWE ev.2.1 (xstr ev) (xCalls ev xmi (xprog ev) prim (d + 1)) (pX10_listWaiting ev) (4, lv, [], hp, sz, 0) (ypQ [0, 1, 2, 3, 4, 5, 6, 7] F ev T sz (some (.int v)) S')) (S : yS) (l2 : Int32) (l3 : Int32) (hp : xH) (lv : xLv) (a0 : Nat) (a1 : Nat) (fa0 : yAt T 10 2 0 a0) (fa1 : yAt T 13 9 1 a1) (g0 : xG lv 0 = some (.ref a0)) (g1 : xG lv 1 = some (.ref a1)) (g2 : xG lv 2 = some (.int l2)) (g3 : xG lv 3 = some (.int l3)) (hM : cR [0, 1, 2, 3, 4, 5, 6, 7] F ev T S hp) (h : f_X10_listWaiting_37 N k4 S l2 l3 = some (v, S')) : yWE ev.2.1 (xstr ev) (xCalls ev xmi (xprog ev) prim (d + 1)) (pX10_listWaiting ev) (37, lv, [], hp, sz, 0) (ypQ [0, 1, 2, 3, 4, 5, 6, 7] F ev T sz (some (.int v)) S') := by
  unfold f_X10_listWaiting_37 at h
  refine ye_iinc rfl g3 ?_
  have g0_z1 := xG_o1 (i := 3) (v := .int (l3 + 1)) g0 rfl
  have g1_z1 := xG_o1 (i := 3) (v := .int (l3 + 1)) g1 rfl
  have g2_z1 := xG_o1 (i := 3) (v := .int (l3 + 1)) g2 rfl
  have g3_z1 := xG_same lv 3 (.int (l3 + 1))
  generalize xSt1 lv 3 (.int (l3 + 1)) = lvz1 at g0_z1 g1_z1 g2_z1 g3_z1 ⊢
  refine ye_p rfl rfl ?_
  exact u4 S l2 (l3 + 1) hp lvz1 a0 a1 fa0 fa1 g0_z1 g1_z1 g2_z1 g3_z1 hM h

def f_X10_listWaiting_43 (N : Nat) (S : yS) (l2 : Int32) : Option (Int32 × yS) := some (l2, S)
set_option maxHeartbeats 4000000 in
set_option maxRecDepth 40000 in
theorem w_X10_listWaiting_43 {F : xH} {ev : xEv} {prim : xRel} {d sz : Nat} {T : yT} {v : Int32} {S' : yS} (N : Nat) (S : yS) (l2 : Int32) (hp : xH) (lv : xLv) (g2 : xG lv 2 = some (.int l2)) (hM : cR [0, 1, 2, 3, 4, 5, 6, 7] F ev T S hp) (h : f_X10_listWaiting_43 N S l2 = some (v, S')) : yWE ev.2.1 (xstr ev) (xCalls ev xmi (xprog ev) prim (d + 1)) (pX10_listWaiting ev) (43, lv, [], hp, sz, 0) (ypQ [0, 1, 2, 3, 4, 5, 6, 7] F ev T sz (some (.int v)) S') := by
  unfold f_X10_listWaiting_43 at h
  refine ye_iload rfl g2 ?_
  exact ye_ret rfl rfl (rQ h hM)

def f_X10_listWaiting_4 : Nat → Nat → yS → Int32 → Int32 → Option (Int32 × yS)
  | 0, _, _, _, _ => none
  | n + 1, N, S, l2, l3 => if (S.1 2 12) ≤ l3 then f_X10_listWaiting_43 N S l2 else if (Int32.ofNat 6) ≤ l2 then f_X10_listWaiting_43 N S l2 else gR (S.2.1 2 11) 24 l3 fun j1 => bV (f_X1_waits N S ((512 + j1))) fun w1 => if w1 = 0 then f_X10_listWaiting_37 N (fun S l2 l3 => f_X10_listWaiting_4 n N S l2 l3) S l2 l3 else gA 6 l2 fun j2 => sq (yA S 9 0 (upd (S.2.1 9 0) j2 l3)) fun S1 => f_X10_listWaiting_37 N (fun S l2 l3 => f_X10_listWaiting_4 n N S l2 l3) S1 (l2 + 1) l3
set_option maxHeartbeats 4000000 in
set_option maxRecDepth 40000 in
theorem w_X10_listWaiting_4 {F : xH} {ev : xEv} {prim : xRel} {d sz : Nat} {T : yT} {v : Int32} {S' : yS} (N : Nat) (n : Nat) : ∀ (S : yS) (l2 : Int32) (l3 : Int32) (hp : xH) (lv : xLv) (a0 : Nat) (a1 : Nat) (fa0 : yAt T 10 2 0 a0) (fa1 : yAt T 13 9 1 a1) (g0 : xG lv 0 = some (.ref a0)) (g1 : xG lv 1 = some (.ref a1)) (g2 : xG lv 2 = some (.int l2)) (g3 : xG lv 3 = some (.int l3)) (hM : cR [0, 1, 2, 3, 4, 5, 6, 7] F ev T S hp) (h : f_X10_listWaiting_4 n N S l2 l3 = some (v, S')), yWE ev.2.1 (xstr ev) (xCalls ev xmi (xprog ev) prim (d + 1)) (pX10_listWaiting ev) (4, lv, [], hp, sz, 0) (ypQ [0, 1, 2, 3, 4, 5, 6, 7] F ev T sz (some (.int v)) S') := by
  induction n with
  | zero => intro S l2 l3 hp lv a0 a1 fa0 fa1 g0 g1 g2 g3 hM h; exact n_some h
  | succ n ih =>
    intro S l2 l3 hp lv a0 a1 fa0 fa1 g0 g1 g2 g3 hM h
    unfold f_X10_listWaiting_4 at h
    refine ye_iload rfl g3 ?_
    refine ye_aload rfl g0 ?_
    refine ye_getf rfl (hM.obj fa0 ⟨rfl, rfl⟩) rfl ?_
    refine ye_icmp_ge rfl (fun h1 => ?_) (fun h1 => ?_)
    · replace h := yiT h1 h
      exact w_X10_listWaiting_43 (prim := prim) (d := d) N S l2 hp lv g2 hM h
    · replace h := yiN h1 h
      refine ye_iload rfl g2 ?_
      refine ye_aload rfl g1 ?_
      refine ye_alen rfl (hM.arr fa1 yr_13_0) ?_
      refine ye_icmp_ge rfl (fun h2 => ?_) (fun h2 => ?_)
      · replace h := yiT h2 h
        exact w_X10_listWaiting_43 (prim := prim) (d := d) N S l2 hp lv g2 hM h
      · replace h := yiN h2 h
        refine ye_aload rfl g0 ?_
        refine ye_getr rfl (hM.obj fa0 ⟨rfl, rfl⟩) rfl (fun cx1 ecx1 => ?_)
        have fcx1 := yAt.row fa0 ecx1
        refine ye_iload rfl g3 ?_
        obtain ⟨j1, ej1, ij1, rj1, h⟩ := gR_some h
        refine ye_aaldR (t := 8) rfl (hM.arr fcx1 yr_10_11) ij1 ej1 rj1 (fun cx2 ecx2 => ?_)
        have fcx2 : yAt T 1 (512 + j1) 0 cx2 := ⟨hM.refd fcx1 yr_10_11 (by decide) rj1, oc_512 (by have := vp_lt ij1; omega), ecx2⟩
        obtain ⟨w1, hw1, h⟩ := bV_some h
        refine ye_callV (As := []) (rest := []) 0 (Or.inl rfl) rfl rfl rfl (Nat.le_of_ble_eq_true rfl) (hM.obj fcx2 ⟨rfl, rfl⟩) ((m_X1_waits (d := d + 0) (T := T) N S ((512 + j1)) cx2 fcx2 hw1) hp sz hM) ?_
        refine ye_if_eq rfl (fun h3 => ?_) (fun h3 => ?_)
        · replace h := yiT h3 h
          exact w_X10_listWaiting_37 (prim := prim) (d := d) N (fun S l2 l3 => f_X10_listWaiting_4 n N S l2 l3) ih S l2 l3 hp lv a0 a1 fa0 fa1 g0 g1 g2 g3 hM h
        · replace h := yiN h3 h
          refine ye_aload rfl g1 ?_
          refine ye_iload rfl g2 ?_
          refine ye_iload rfl g3 ?_
          obtain ⟨j2, ej2, ij2, h⟩ := gA_some h
          obtain ⟨S1, eS1, h⟩ := sq_some h
          refine yw_ast rfl hM fa1 yr_13_0 (by decide) ij2 ej2 eS1 (fun y1 M1 => ?_)
          refine ye_iinc rfl g2 ?_
          have g0_z1 := xG_o1 (i := 2) (v := .int (l2 + 1)) g0 rfl
          have g1_z1 := xG_o1 (i := 2) (v := .int (l2 + 1)) g1 rfl
          have g3_z1 := xG_o1 (i := 2) (v := .int (l2 + 1)) g3 rfl
          have g2_z1 := xG_same lv 2 (.int (l2 + 1))
          generalize xSt1 lv 2 (.int (l2 + 1)) = lvz1 at g0_z1 g1_z1 g3_z1 g2_z1 ⊢
          exact w_X10_listWaiting_37 (prim := prim) (d := d) N (fun S l2 l3 => f_X10_listWaiting_4 n N S l2 l3) ih S1 (l2 + 1) l3 y1 lvz1 a0 a1 fa0 fa1 g0_z1 g1_z1 g2_z1 g3_z1 M1 h

def f_X10_listWaiting_0 (N : Nat) (S : yS) : Option (Int32 × yS) := f_X10_listWaiting_4 N N S 0 0
set_option maxHeartbeats 4000000 in
set_option maxRecDepth 40000 in
theorem w_X10_listWaiting_0 {F : xH} {ev : xEv} {prim : xRel} {d sz : Nat} {T : yT} {v : Int32} {S' : yS} (N : Nat) (S : yS) (hp : xH) (lv : xLv) (a0 : Nat) (a1 : Nat) (fa0 : yAt T 10 2 0 a0) (fa1 : yAt T 13 9 1 a1) (g0 : xG lv 0 = some (.ref a0)) (g1 : xG lv 1 = some (.ref a1)) (hM : cR [0, 1, 2, 3, 4, 5, 6, 7] F ev T S hp) (h : f_X10_listWaiting_0 N S = some (v, S')) : yWE ev.2.1 (xstr ev) (xCalls ev xmi (xprog ev) prim (d + 1)) (pX10_listWaiting ev) (0, lv, [], hp, sz, 0) (ypQ [0, 1, 2, 3, 4, 5, 6, 7] F ev T sz (some (.int v)) S') := by
  unfold f_X10_listWaiting_0 at h
  refine ye_p rfl rfl ?_
  refine ye_p rfl rfl ?_
  have g0_z1 := xG_o1 (i := 2) (v := .int 0) g0 rfl
  have g1_z1 := xG_o1 (i := 2) (v := .int 0) g1 rfl
  have g2_z1 := xG_same lv 2 (.int 0)
  generalize xSt1 lv 2 (.int 0) = lvz1 at g0_z1 g1_z1 g2_z1 ⊢
  refine ye_p rfl rfl ?_
  refine ye_p rfl rfl ?_
  have g0_z2 := xG_o1 (i := 3) (v := .int 0) g0_z1 rfl
  have g1_z2 := xG_o1 (i := 3) (v := .int 0) g1_z1 rfl
  have g2_z2 := xG_o1 (i := 3) (v := .int 0) g2_z1 rfl
  have g3_z2 := xG_same lvz1 3 (.int 0)
  generalize xSt1 lvz1 3 (.int 0) = lvz2 at g0_z2 g1_z2 g2_z2 g3_z2 ⊢
  exact w_X10_listWaiting_4 (prim := prim) (d := d) N N S 0 0 hp lvz2 a0 a1 fa0 fa1 g0_z2 g1_z2 g2_z2 g3_z2 hM h
def f_X10_listWaiting (N : Nat) (S : yS) : Option (Int32 × yS) := f_X10_listWaiting_0 N S
theorem m_X10_listWaiting {F : xH} {ev : xEv} {prim : xRel} {d : Nat} {T : yT} {v : Int32} {S' : yS} (N : Nat) (S : yS) (a0 : Nat) (a1 : Nat) (fa0 : yAt T 10 2 0 a0) (fa1 : yAt T 13 9 1 a1) (h : f_X10_listWaiting N S = some (v, S')) : ykQ [0, 1, 2, 3, 4, 5, 6, 7] F ev prim (d + 2) 123 T S [.ref a0, .ref a1] (some (.int v)) S' :=
  ykQ.of (pg_123 ev) mi_123 (Nat.le_of_ble_eq_true rfl) (fun hp sz hM => w_X10_listWaiting_0 (prim := prim) (d := d) N S hp _ a0 a1 fa0 fa1 rfl rfl hM h)

def f_X10_giveUpOthers_42 (N : Nat) (k3 : yS → Int32 → Int32 → Int32 → Option (Int32 × yS)) (S : yS) (l2 : Int32) (l3 : Int32) (l4 : Int32) : Option (Int32 × yS) := k3 S l2 l3 (l4 + 1)
set_option maxHeartbeats 4000000 in
set_option maxRecDepth 40000 in
theorem w_X10_giveUpOthers_42 {F : xH} {ev : xEv} {prim : xRel} {d sz : Nat} {T : yT} {v : Int32} {S' : yS} (N : Nat) (k3 : yS → Int32 → Int32 → Int32 → Option (Int32 × yS)) (u3 : ∀ (S : yS) (l2 : Int32) (l3 : Int32) (l4 : Int32) (hp : xH) (lv : xLv) (a0 : Nat) (a1 : Nat) (fa0 : yAt T 10 2 0 a0) (fa1 : yAt T 13 9 1 a1) (g0 : xG lv 0 = some (.ref a0)) (g1 : xG lv 1 = some (.ref a1)) (g2 : xG lv 2 = some (.int l2)) (g3 : xG lv 3 = some (.int l3)) (g4 : xG lv 4 = some (.int l4)) (hM : cR [0, 1, 2, 3, 4, 5, 6, 7] F ev T S hp) (h : k3 S l2 l3 l4 = some (v, S')), yWE ev.2.1 (xstr ev) (xCalls ev xmi (xprog ev) prim (d + 1)) (pX10_giveUpOthers ev) (3, lv, [], hp, sz, 0) (ypQ [0, 1, 2, 3, 4, 5, 6, 7] F ev T sz (none) S')) (S : yS) (l2 : Int32) (l3 : Int32) (l4 : Int32) (hp : xH) (lv : xLv) (a0 : Nat) (a1 : Nat) (fa0 : yAt T 10 2 0 a0) (fa1 : yAt T 13 9 1 a1) (g0 : xG lv 0 = some (.ref a0)) (g1 : xG lv 1 = some (.ref a1)) (g2 : xG lv 2 = some (.int l2)) (g3 : xG lv 3 = some (.int l3)) (g4 : xG lv 4 = some (.int l4)) (hM : cR [0, 1, 2, 3, 4, 5, 6, 7] F ev T S hp) (h : f_X10_giveUpOthers_42 N k3 S l2 l3 l4 = some (v, S')) : yWE ev.2.1 (xstr ev) (xCalls ev xmi (xprog ev) prim (d + 1)) (pX10_giveUpOthers ev) (42, lv, [], hp, sz, 0) (ypQ [0, 1, 2, 3, 4, 5, 6, 7] F ev T sz (none) S') := by
  unfold f_X10_giveUpOthers_42 at h
  refine ye_iinc rfl g4 ?_
  have g0_z1 := xG_o1 (i := 4) (v := .int (l4 + 1)) g0 rfl
  have g1_z1 := xG_o1 (i := 4) (v := .int (l4 + 1)) g1 rfl
  have g2_z1 := xG_o1 (i := 4) (v := .int (l4 + 1)) g2 rfl
  have g3_z1 := xG_o1 (i := 4) (v := .int (l4 + 1)) g3 rfl
  have g4_z1 := xG_same lv 4 (.int (l4 + 1))
  generalize xSt1 lv 4 (.int (l4 + 1)) = lvz1 at g0_z1 g1_z1 g2_z1 g3_z1 g4_z1 ⊢
  refine ye_p rfl rfl ?_
  exact u3 S l2 l3 (l4 + 1) hp lvz1 a0 a1 fa0 fa1 g0_z1 g1_z1 g2_z1 g3_z1 g4_z1 hM h

def f_X10_giveUpOthers_48 (N : Nat) (S : yS) : Option (Int32 × yS) := some (0, S)
set_option maxHeartbeats 4000000 in
set_option maxRecDepth 40000 in
theorem w_X10_giveUpOthers_48 {F : xH} {ev : xEv} {prim : xRel} {d sz : Nat} {T : yT} {v : Int32} {S' : yS} (N : Nat) (S : yS) (hp : xH) (lv : xLv) (hM : cR [0, 1, 2, 3, 4, 5, 6, 7] F ev T S hp) (h : f_X10_giveUpOthers_48 N S = some (v, S')) : yWE ev.2.1 (xstr ev) (xCalls ev xmi (xprog ev) prim (d + 1)) (pX10_giveUpOthers ev) (48, lv, [], hp, sz, 0) (ypQ [0, 1, 2, 3, 4, 5, 6, 7] F ev T sz (none) S') := by
  unfold f_X10_giveUpOthers_48 at h
  exact ye_ret rfl rfl (rQV h hM)

def f_X10_giveUpOthers_3 : Nat → Nat → yS → Int32 → Int32 → Int32 → Option (Int32 × yS)
  | 0, _, _, _, _, _ => none
  | n + 1, N, S, l2, l3, l4 => if l2 ≤ l4 then f_X10_giveUpOthers_48 N S else if (Int32.ofNat 6) ≤ l4 then f_X10_giveUpOthers_48 N S else if ¬ ((l3 >>> (l4 &&& 31)) &&& 1) = 0 then f_X10_giveUpOthers_42 N (fun S l2 l3 l4 => f_X10_giveUpOthers_3 n N S l2 l3 l4) S l2 l3 l4 else gA 6 l4 fun j1 => gR (S.2.1 2 11) 24 (S.2.1 9 0 j1) fun j2 => bS (f_X1_finish N S ((512 + j2)) 3 (S.1 2 13)) fun w1 S1 => f_X10_giveUpOthers_42 N (fun S l2 l3 l4 => f_X10_giveUpOthers_3 n N S l2 l3 l4) S1 l2 l3 l4
set_option maxHeartbeats 4000000 in
set_option maxRecDepth 40000 in
theorem w_X10_giveUpOthers_3 {F : xH} {ev : xEv} {prim : xRel} {d sz : Nat} {T : yT} {v : Int32} {S' : yS} (N : Nat) (n : Nat) : ∀ (S : yS) (l2 : Int32) (l3 : Int32) (l4 : Int32) (hp : xH) (lv : xLv) (a0 : Nat) (a1 : Nat) (fa0 : yAt T 10 2 0 a0) (fa1 : yAt T 13 9 1 a1) (g0 : xG lv 0 = some (.ref a0)) (g1 : xG lv 1 = some (.ref a1)) (g2 : xG lv 2 = some (.int l2)) (g3 : xG lv 3 = some (.int l3)) (g4 : xG lv 4 = some (.int l4)) (hM : cR [0, 1, 2, 3, 4, 5, 6, 7] F ev T S hp) (h : f_X10_giveUpOthers_3 n N S l2 l3 l4 = some (v, S')), yWE ev.2.1 (xstr ev) (xCalls ev xmi (xprog ev) prim (d + 1)) (pX10_giveUpOthers ev) (3, lv, [], hp, sz, 0) (ypQ [0, 1, 2, 3, 4, 5, 6, 7] F ev T sz (none) S') := by
  induction n with
  | zero => intro S l2 l3 l4 hp lv a0 a1 fa0 fa1 g0 g1 g2 g3 g4 hM h; exact n_some h
  | succ n ih =>
    intro S l2 l3 l4 hp lv a0 a1 fa0 fa1 g0 g1 g2 g3 g4 hM h
    unfold f_X10_giveUpOthers_3 at h
    refine ye_iload rfl g4 ?_
    refine ye_iload rfl g2 ?_
    refine ye_icmp_ge rfl (fun h1 => ?_) (fun h1 => ?_)
    · replace h := yiT h1 h
      exact w_X10_giveUpOthers_48 (prim := prim) (d := d) N S hp lv hM h
    · replace h := yiN h1 h
      refine ye_iload rfl g4 ?_
      refine ye_aload rfl g1 ?_
      refine ye_alen rfl (hM.arr fa1 yr_13_0) ?_
      refine ye_icmp_ge rfl (fun h2 => ?_) (fun h2 => ?_)
      · replace h := yiT h2 h
        exact w_X10_giveUpOthers_48 (prim := prim) (d := d) N S hp lv hM h
      · replace h := yiN h2 h
        refine ye_iload rfl g3 ?_
        refine ye_iload rfl g4 ?_
        refine ye_p rfl rfl ?_
        refine ye_p rfl rfl ?_
        refine ye_p rfl rfl ?_
        refine ye_if_ne rfl (fun h3 => ?_) (fun h3 => ?_)
        · replace h := yiT h3 h
          exact w_X10_giveUpOthers_42 (prim := prim) (d := d) N (fun S l2 l3 l4 => f_X10_giveUpOthers_3 n N S l2 l3 l4) ih S l2 l3 l4 hp lv a0 a1 fa0 fa1 g0 g1 g2 g3 g4 hM h
        · replace h := yiN h3 h
          refine ye_aload rfl g0 ?_
          refine ye_getr rfl (hM.obj fa0 ⟨rfl, rfl⟩) rfl (fun cx1 ecx1 => ?_)
          have fcx1 := yAt.row fa0 ecx1
          refine ye_aload rfl g1 ?_
          refine ye_iload rfl g4 ?_
          obtain ⟨j1, ej1, ij1, h⟩ := gA_some h
          refine yj_ald rfl (hM.arr fa1 yr_13_0) ij1 ej1 ?_
          obtain ⟨j2, ej2, ij2, rj2, h⟩ := gR_some h
          refine ye_aaldR (t := 8) rfl (hM.arr fcx1 yr_10_11) ij2 ej2 rj2 (fun cx2 ecx2 => ?_)
          have fcx2 : yAt T 1 (512 + j2) 0 cx2 := ⟨hM.refd fcx1 yr_10_11 (by decide) rj2, oc_512 (by have := vp_lt ij2; omega), ecx2⟩
          refine ye_p rfl rfl ?_
          refine ye_aload rfl g0 ?_
          refine ye_getf rfl (hM.obj fa0 ⟨rfl, rfl⟩) rfl ?_
          obtain ⟨w1, S1, hw1, h⟩ := bS_some h
          obtain ⟨y1, cy1, M1⟩ := (m_X1_finish (d := d + 0) (T := T) N S ((512 + j2)) 3 (S.1 2 13) cx2 fcx2 hw1) hp sz hM
          refine ye_callV (As := [.int 3, .int (S.1 2 13)]) (rest := []) 0 (Or.inl rfl) rfl rfl rfl (Nat.le_of_ble_eq_true rfl) (hM.obj fcx2 ⟨rfl, rfl⟩) cy1 ?_
          exact w_X10_giveUpOthers_42 (prim := prim) (d := d) N (fun S l2 l3 l4 => f_X10_giveUpOthers_3 n N S l2 l3 l4) ih S1 l2 l3 l4 y1 lv a0 a1 fa0 fa1 g0 g1 g2 g3 g4 M1 h

def f_X10_giveUpOthers_0 (N : Nat) (S : yS) (l2 : Int32) (l3 : Int32) : Option (Int32 × yS) := f_X10_giveUpOthers_3 N N S l2 l3 0
set_option maxHeartbeats 4000000 in
set_option maxRecDepth 40000 in
theorem w_X10_giveUpOthers_0 {F : xH} {ev : xEv} {prim : xRel} {d sz : Nat} {T : yT} {v : Int32} {S' : yS} (N : Nat) (S : yS) (l2 : Int32) (l3 : Int32) (hp : xH) (lv : xLv) (a0 : Nat) (a1 : Nat) (fa0 : yAt T 10 2 0 a0) (fa1 : yAt T 13 9 1 a1) (g0 : xG lv 0 = some (.ref a0)) (g1 : xG lv 1 = some (.ref a1)) (g2 : xG lv 2 = some (.int l2)) (g3 : xG lv 3 = some (.int l3)) (hM : cR [0, 1, 2, 3, 4, 5, 6, 7] F ev T S hp) (h : f_X10_giveUpOthers_0 N S l2 l3 = some (v, S')) : yWE ev.2.1 (xstr ev) (xCalls ev xmi (xprog ev) prim (d + 1)) (pX10_giveUpOthers ev) (0, lv, [], hp, sz, 0) (ypQ [0, 1, 2, 3, 4, 5, 6, 7] F ev T sz (none) S') := by
  unfold f_X10_giveUpOthers_0 at h
  refine ye_p rfl rfl ?_
  refine ye_p rfl rfl ?_
  have g0_z1 := xG_o1 (i := 4) (v := .int 0) g0 rfl
  have g1_z1 := xG_o1 (i := 4) (v := .int 0) g1 rfl
  have g2_z1 := xG_o1 (i := 4) (v := .int 0) g2 rfl
  have g3_z1 := xG_o1 (i := 4) (v := .int 0) g3 rfl
  have g4_z1 := xG_same lv 4 (.int 0)
  generalize xSt1 lv 4 (.int 0) = lvz1 at g0_z1 g1_z1 g2_z1 g3_z1 g4_z1 ⊢
  exact w_X10_giveUpOthers_3 (prim := prim) (d := d) N N S l2 l3 0 hp lvz1 a0 a1 fa0 fa1 g0_z1 g1_z1 g2_z1 g3_z1 g4_z1 hM h
def f_X10_giveUpOthers (N : Nat) (S : yS) (xl2 : Int32) (xl3 : Int32) : Option (Int32 × yS) := f_X10_giveUpOthers_0 N S xl2 xl3
theorem m_X10_giveUpOthers {F : xH} {ev : xEv} {prim : xRel} {d : Nat} {T : yT} {v : Int32} {S' : yS} (N : Nat) (S : yS) (xl2 : Int32) (xl3 : Int32) (a0 : Nat) (a1 : Nat) (fa0 : yAt T 10 2 0 a0) (fa1 : yAt T 13 9 1 a1) (h : f_X10_giveUpOthers N S xl2 xl3 = some (v, S')) : ykQ [0, 1, 2, 3, 4, 5, 6, 7] F ev prim (d + 2) 124 T S [.ref a0, .ref a1, .int xl2, .int xl3] (none) S' :=
  ykQ.of (pg_124 ev) mi_124 (Nat.le_of_ble_eq_true rfl) (fun hp sz hM => w_X10_giveUpOthers_0 (prim := prim) (d := d) N S xl2 xl3 hp _ a0 a1 fa0 fa1 rfl rfl rfl rfl hM h)

def f_X11_sign_16 : Nat → Nat → yS → Int32 → Int32 → Option (Int32 × yS)
  | 0, _, _, _, _ => none
  | n + 1, N, S, l1, l2 => if l2 < 0 then some (S.1 0 6, S) else gA 100 (S.1 0 6) fun j1 => sq (yA S 0 5 (upd (S.2.1 0 5) j1 (((l1.toUInt32 >>> (l2.toUInt32 &&& Int32.toUInt32 31)).toInt32) &&& 255))) fun S1 => sq (yI S1 0 6 ((S1.1 0 6) + 1)) fun S2 => f_X11_sign_16 n N S2 l1 (l2 + (-8))
set_option maxHeartbeats 4000000 in
set_option maxRecDepth 40000 in
theorem w_X11_sign_16 {F : xH} {ev : xEv} {prim : xRel} {d sz : Nat} {T : yT} {v : Int32} {S' : yS} (N : Nat) (n : Nat) : ∀ (S : yS) (l1 : Int32) (l2 : Int32) (hp : xH) (lv : xLv) (a0 : Nat) (fa0 : yAt T 11 0 0 a0) (g0 : xG lv 0 = some (.ref a0)) (g1 : xG lv 1 = some (.int l1)) (g2 : xG lv 2 = some (.int l2)) (hM : cR [0, 1, 2, 3, 4, 5, 6, 7] F ev T S hp) (h : f_X11_sign_16 n N S l1 l2 = some (v, S')), yWE ev.2.1 (xstr ev) (xCalls ev xmi (xprog ev) prim (d + 0)) (pX11_sign ev) (16, lv, [], hp, sz, 0) (ypQ [0, 1, 2, 3, 4, 5, 6, 7] F ev T sz (some (.int v)) S') := by
  induction n with
  | zero => intro S l1 l2 hp lv a0 fa0 g0 g1 g2 hM h; exact n_some h
  | succ n ih =>
    intro S l1 l2 hp lv a0 fa0 g0 g1 g2 hM h
    unfold f_X11_sign_16 at h
    refine ye_iload rfl g2 ?_
    refine ye_if_lt rfl (fun h1 => ?_) (fun h1 => ?_)
    · replace h := yiT h1 h
      refine ye_aload rfl g0 ?_
      refine ye_getf rfl (hM.obj fa0 ⟨rfl, rfl⟩) rfl ?_
      exact ye_ret rfl rfl (rQ h hM)
    · replace h := yiN h1 h
      refine ye_aload rfl g0 ?_
      refine ye_getr rfl (hM.obj fa0 ⟨rfl, rfl⟩) rfl (fun cx1 ecx1 => ?_)
      have fcx1 := yAt.row fa0 ecx1
      refine ye_aload rfl g0 ?_
      refine ye_getf rfl (hM.obj fa0 ⟨rfl, rfl⟩) rfl ?_
      refine ye_iload rfl g1 ?_
      refine ye_iload rfl g2 ?_
      refine ye_p rfl rfl ?_
      refine ye_p rfl rfl ?_
      refine ye_p rfl rfl ?_
      obtain ⟨j1, ej1, ij1, h⟩ := gA_some h
      obtain ⟨S1, eS1, h⟩ := sq_some h
      refine yw_ast rfl hM fcx1 yr_11_5 (by decide) ij1 ej1 eS1 (fun y1 M1 => ?_)
      refine ye_aload rfl g0 ?_
      refine ye_p rfl rfl ?_
      refine ye_getf rfl (M1.obj fa0 ⟨rfl, rfl⟩) rfl ?_
      refine ye_p rfl rfl ?_
      refine ye_p rfl rfl ?_
      obtain ⟨S2, eS2, h⟩ := sq_some h
      refine yw_putI rfl M1 fa0 rfl ⟨rfl, rfl⟩ (Nat.le_of_ble_eq_true rfl) rfl rfl (ys_11_6 ev T _ ((S1.1 0 6) + 1)) (fun q => absurd q (by decide)) eS2 (fun y2 M2 => ?_)
      refine ye_iinc rfl g2 ?_
      have g0_z1 := xG_o1 (i := 2) (v := .int (l2 + (-8))) g0 rfl
      have g1_z1 := xG_o1 (i := 2) (v := .int (l2 + (-8))) g1 rfl
      have g2_z1 := xG_same lv 2 (.int (l2 + (-8)))
      generalize xSt1 lv 2 (.int (l2 + (-8))) = lvz1 at g0_z1 g1_z1 g2_z1 ⊢
      refine ye_p rfl rfl ?_
      exact ih S2 l1 (l2 + (-8)) y2 lvz1 a0 fa0 g0_z1 g1_z1 g2_z1 M2 h

def f_X11_sign_0 (N : Nat) (S : yS) (l1 : Int32) : Option (Int32 × yS) := if ((S.1 0 6) + 4) ≤ 100 then f_X11_sign_16 N N S l1 24 else some ((-1), S)
set_option maxHeartbeats 4000000 in
set_option maxRecDepth 40000 in
theorem w_X11_sign_0 {F : xH} {ev : xEv} {prim : xRel} {d sz : Nat} {T : yT} {v : Int32} {S' : yS} (N : Nat) (S : yS) (l1 : Int32) (hp : xH) (lv : xLv) (a0 : Nat) (fa0 : yAt T 11 0 0 a0) (g0 : xG lv 0 = some (.ref a0)) (g1 : xG lv 1 = some (.int l1)) (hM : cR [0, 1, 2, 3, 4, 5, 6, 7] F ev T S hp) (h : f_X11_sign_0 N S l1 = some (v, S')) : yWE ev.2.1 (xstr ev) (xCalls ev xmi (xprog ev) prim (d + 0)) (pX11_sign ev) (0, lv, [], hp, sz, 0) (ypQ [0, 1, 2, 3, 4, 5, 6, 7] F ev T sz (some (.int v)) S') := by
  unfold f_X11_sign_0 at h
  refine ye_aload rfl g0 ?_
  refine ye_getf rfl (hM.obj fa0 ⟨rfl, rfl⟩) rfl ?_
  refine ye_p rfl rfl ?_
  refine ye_p rfl rfl ?_
  refine ye_p rfl rfl ?_
  refine ye_icmp_le rfl (fun h1 => ?_) (fun h1 => ?_)
  · replace h := yiT h1 h
    refine ye_p rfl rfl ?_
    refine ye_p rfl rfl ?_
    have g0_z1 := xG_o1 (i := 2) (v := .int 24) g0 rfl
    have g1_z1 := xG_o1 (i := 2) (v := .int 24) g1 rfl
    have g2_z1 := xG_same lv 2 (.int 24)
    generalize xSt1 lv 2 (.int 24) = lvz1 at g0_z1 g1_z1 g2_z1 ⊢
    exact w_X11_sign_16 (prim := prim) (d := d) N N S l1 24 hp lvz1 a0 fa0 g0_z1 g1_z1 g2_z1 hM h
  · replace h := yiN h1 h
    refine ye_p rfl rfl ?_
    exact ye_ret rfl rfl (rQ h hM)
def f_X11_sign (N : Nat) (S : yS) (xl1 : Int32) : Option (Int32 × yS) := f_X11_sign_0 N S xl1
theorem m_X11_sign {F : xH} {ev : xEv} {prim : xRel} {d : Nat} {T : yT} {v : Int32} {S' : yS} (N : Nat) (S : yS) (xl1 : Int32) (a0 : Nat) (fa0 : yAt T 11 0 0 a0) (h : f_X11_sign N S xl1 = some (v, S')) : ykQ [0, 1, 2, 3, 4, 5, 6, 7] F ev prim (d + 1) 144 T S [.ref a0, .int xl1] (some (.int v)) S' :=
  ykQ.of (pg_144 ev) mi_144 (Nat.le_of_ble_eq_true rfl) (fun hp sz hM => w_X11_sign_0 (prim := prim) (d := d) N S xl1 hp _ a0 fa0 rfl rfl hM h)
