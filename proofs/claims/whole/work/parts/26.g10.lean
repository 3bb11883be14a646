
def f_X10_nextBusy_86 (N : Nat) (k52 : yS → Int32 → Int32 → Option Int32) (S : yS) (l2 : Int32) (l3 : Int32) : Option Int32 := k52 S l2 (l3 + 1)
set_option maxHeartbeats 4000000 in
set_option maxRecDepth 40000 in
theorem w_X10_nextBusy_86 {F : xH} {ev : xEv} {prim : xRel} {d sz : Nat} {T : yT} {v : Int32} {hp : xH} (N : Nat) (k52 : yS → Int32 → Int32 → Option Int32) (u52 : ∀ (S : yS) (l2 : Int32) (l3 : Int32) (lv : xLv) (a0 : Nat) (fa0 : yAt T 10 2 0 a0) (g0 : xG lv 0 = some (.ref a0)) (g2 : xG lv 2 = some (.int l2)) (g3 : xG lv 3 = some (.int l3)) (hM : cR [0, 1, 2, 3, 4, 5, 6, 7] F ev T S hp) (h : k52 S l2 l3 = some v), yWE ev.2.1 (xstr ev) (xCalls ev xmi (xprog ev) prim (d + 1)) (pX10_nextBusy ev) (52, lv, [], hp, sz, 0) (ypP hp sz (.int v))) (S : yS) (l2 : Int32) (l3 : Int32) (lv : xLv) (a0 : Nat) (fa0 : yAt T 10 2 0 a0) (g0 : xG lv 0 = some (.ref a0)) (g2 : xG lv 2 = some (.int l2)) (g3 : xG lv 3 = some (.int l3)) (hM : cR [0, 1, 2, 3, 4, 5, 6, 7] F ev T S hp) (h : f_X10_nextBusy_86 N k52 S l2 l3 = some v) : yWE ev.2.1 (xstr ev) (xCalls ev xmi (xprog ev) prim (d + 1)) (pX10_nextBusy ev) (86, lv, [], hp, sz, 0) (ypP hp sz (.int v)) := by
  unfold f_X10_nextBusy_86 at h
  refine ye_iinc rfl g3 ?_
  have g0_z1 := xG_o1 (i := 3) (v := .int (l3 + 1)) g0 rfl
  have g2_z1 := xG_o1 (i := 3) (v := .int (l3 + 1)) g2 rfl
  have g3_z1 := xG_same lv 3 (.int (l3 + 1))
  generalize xSt1 lv 3 (.int (l3 + 1)) = lvz1 at g0_z1 g2_z1 g3_z1 ⊢
  refine ye_p rfl rfl ?_
  exact u52 S l2 (l3 + 1) lvz1 a0 fa0 g0_z1 g2_z1 g3_z1 hM h

def f_X10_nextBusy_129 (N : Nat) (k94 : yS → Int32 → Int32 → Option Int32) (S : yS) (l2 : Int32) (l3 : Int32) : Option Int32 := k94 S l2 (l3 + 1)
set_option maxHeartbeats 4000000 in
set_option maxRecDepth 40000 in
theorem w_X10_nextBusy_129 {F : xH} {ev : xEv} {prim : xRel} {d sz : Nat} {T : yT} {v : Int32} {hp : xH} (N : Nat) (k94 : yS → Int32 → Int32 → Option Int32) (u94 : ∀ (S : yS) (l2 : Int32) (l3 : Int32) (lv : xLv) (a0 : Nat) (fa0 : yAt T 10 2 0 a0) (g0 : xG lv 0 = some (.ref a0)) (g2 : xG lv 2 = some (.int l2)) (g3 : xG lv 3 = some (.int l3)) (hM : cR [0, 1, 2, 3, 4, 5, 6, 7] F ev T S hp) (h : k94 S l2 l3 = some v), yWE ev.2.1 (xstr ev) (xCalls ev xmi (xprog ev) prim (d + 1)) (pX10_nextBusy ev) (94, lv, [], hp, sz, 0) (ypP hp sz (.int v))) (S : yS) (l2 : Int32) (l3 : Int32) (lv : xLv) (a0 : Nat) (fa0 : yAt T 10 2 0 a0) (g0 : xG lv 0 = some (.ref a0)) (g2 : xG lv 2 = some (.int l2)) (g3 : xG lv 3 = some (.int l3)) (hM : cR [0, 1, 2, 3, 4, 5, 6, 7] F ev T S hp) (h : f_X10_nextBusy_129 N k94 S l2 l3 = some v) : yWE ev.2.1 (xstr ev) (xCalls ev xmi (xprog ev) prim (d + 1)) (pX10_nextBusy ev) (129, lv, [], hp, sz, 0) (ypP hp sz (.int v)) := by
  unfold f_X10_nextBusy_129 at h
  refine ye_iinc rfl g3 ?_
  have g0_z1 := xG_o1 (i := 3) (v := .int (l3 + 1)) g0 rfl
  have g2_z1 := xG_o1 (i := 3) (v := .int (l3 + 1)) g2 rfl
  have g3_z1 := xG_same lv 3 (.int (l3 + 1))
  generalize xSt1 lv 3 (.int (l3 + 1)) = lvz1 at g0_z1 g2_z1 g3_z1 ⊢
  refine ye_p rfl rfl ?_
  exact u94 S l2 (l3 + 1) lvz1 a0 fa0 g0_z1 g2_z1 g3_z1 hM h

def f_X10_nextBusy_94 : Nat → Nat → yS → Int32 → Int32 → Option Int32
  | 0, _, _, _, _ => none
  | n + 1, N, S, l2, l3 => if (S.1 2 9) ≤ l3 then some (if l2 < (S.1 2 13) then (S.1 2 13) else l2) else gR (S.2.1 2 8) 30 l3 fun j1 => if (S.1 ((384 + j1)) 7) = ((-1)) then f_X10_nextBusy_129 N (fun S l2 l3 => f_X10_nextBusy_94 n N S l2 l3) S l2 l3 else gR (S.2.1 2 8) 30 l3 fun j2 => f_X10_nextBusy_129 N (fun S l2 l3 => f_X10_nextBusy_94 n N S l2 l3) S (if (S.1 ((384 + j2)) 7) < l2 then (S.1 ((384 + j2)) 7) else l2) l3
set_option maxHeartbeats 4000000 in
set_option maxRecDepth 40000 in
theorem w_X10_nextBusy_94 {F : xH} {ev : xEv} {prim : xRel} {d sz : Nat} {T : yT} {v : Int32} {hp : xH} (N : Nat) (n : Nat) : ∀ (S : yS) (l2 : Int32) (l3 : Int32) (lv : xLv) (a0 : Nat) (fa0 : yAt T 10 2 0 a0) (g0 : xG lv 0 = some (.ref a0)) (g2 : xG lv 2 = some (.int l2)) (g3 : xG lv 3 = some (.int l3)) (hM : cR [0, 1, 2, 3, 4, 5, 6, 7] F ev T S hp) (h : f_X10_nextBusy_94 n N S l2 l3 = some v), yWE ev.2.1 (xstr ev) (xCalls ev xmi (xprog ev) prim (d + 1)) (pX10_nextBusy ev) (94, lv, [], hp, sz, 0) (ypP hp sz (.int v)) := by
  induction n with
  | zero => intro S l2 l3 lv a0 fa0 g0 g2 g3 hM h; exact n_some h
  | succ n ih =>
    intro S l2 l3 lv a0 fa0 g0 g2 g3 hM h
    unfold f_X10_nextBusy_94 at h
    refine ye_iload rfl g3 ?_
    refine ye_aload rfl g0 ?_
    refine ye_getf rfl (hM.obj fa0 ⟨rfl, rfl⟩) rfl ?_
    refine ye_icmp_ge rfl (fun h1 => ?_) (fun h1 => ?_)
    · replace h := yiT h1 h
      refine ye_iload rfl g2 ?_
      refine ye_aload rfl g0 ?_
      refine ye_getf rfl (hM.obj fa0 ⟨rfl, rfl⟩) rfl ?_
      refine ye_p rfl rfl ?_
      exact ye_ret rfl rfl (rP h)
    · replace h := yiN h1 h
      refine ye_aload rfl g0 ?_
      refine ye_getr rfl (hM.obj fa0 ⟨rfl, rfl⟩) rfl (fun cx1 ecx1 => ?_)
      have fcx1 := yAt.row fa0 ecx1
      refine ye_iload rfl g3 ?_
      obtain ⟨j1, ej1, ij1, rj1, h⟩ := gR_some h
      refine ye_aaldR (t := 7) rfl (hM.arr fcx1 yr_10_8) ij1 ej1 rj1 (fun cx2 ecx2 => ?_)
      have fcx2 : yAt T 0 (384 + j1) 0 cx2 := ⟨hM.refd fcx1 yr_10_8 (by decide) rj1, oc_384 (by have := vp_lt ij1; omega), ecx2⟩
      refine ye_getf rfl (hM.obj fcx2 ⟨rfl, rfl⟩) rfl ?_
      refine ye_p rfl rfl ?_
      refine ye_icmp_eq rfl (fun h2 => ?_) (fun h2 => ?_)
      · replace h := yiT h2 h
        exact w_X10_nextBusy_129 (prim := prim) (d := d) N (fun S l2 l3 => f_X10_nextBusy_94 n N S l2 l3) ih S l2 l3 lv a0 fa0 g0 g2 g3 hM h
      · replace h := yiN h2 h
        refine ye_iload rfl g2 ?_
        refine ye_aload rfl g0 ?_
        refine ye_getr rfl (hM.obj fa0 ⟨rfl, rfl⟩) rfl (fun cx3 ecx3 => ?_)
        have fcx3 := yAt.row fa0 ecx3
        refine ye_iload rfl g3 ?_
        obtain ⟨j2, ej2, ij2, rj2, h⟩ := gR_some h
        refine ye_aaldR (t := 7) rfl (hM.arr fcx3 yr_10_8) ij2 ej2 rj2 (fun cx4 ecx4 => ?_)
        have fcx4 : yAt T 0 (384 + j2) 0 cx4 := ⟨hM.refd fcx3 yr_10_8 (by decide) rj2, oc_384 (by have := vp_lt ij2; omega), ecx4⟩
        refine ye_getf rfl (hM.obj fcx4 ⟨rfl, rfl⟩) rfl ?_
        refine ye_p rfl rfl ?_
        refine ye_p rfl rfl ?_
        have g0_z1 := xG_o1 (i := 2) (v := .int (if (S.1 ((384 + j2)) 7) < l2 then (S.1 ((384 + j2)) 7) else l2)) g0 rfl
        have g3_z1 := xG_o1 (i := 2) (v := .int (if (S.1 ((384 + j2)) 7) < l2 then (S.1 ((384 + j2)) 7) else l2)) g3 rfl
        have g2_z1 := xG_same lv 2 (.int (if (S.1 ((384 + j2)) 7) < l2 then (S.1 ((384 + j2)) 7) else l2))
        generalize xSt1 lv 2 (.int (if (S.1 ((384 + j2)) 7) < l2 then (S.1 ((384 + j2)) 7) else l2)) = lvz1 at g0_z1 g3_z1 g2_z1 ⊢
        exact w_X10_nextBusy_129 (prim := prim) (d := d) N (fun S l2 l3 => f_X10_nextBusy_94 n N S l2 l3) ih S (if (S.1 ((384 + j2)) 7) < l2 then (S.1 ((384 + j2)) 7) else l2) l3 lvz1 a0 fa0 g0_z1 g2_z1 g3_z1 hM h

def f_X10_nextBusy_52 : Nat → Nat → yS → Int32 → Int32 → Option Int32
  | 0, _, _, _, _ => none
  | n + 1, N, S, l2, l3 => if (S.1 2 12) ≤ l3 then f_X10_nextBusy_94 N N S l2 0 else gR (S.2.1 2 11) 24 l3 fun j1 => bV (f_X1_waits N S ((512 + j1))) fun w1 => if w1 = 0 then f_X10_nextBusy_86 N (fun S l2 l3 => f_X10_nextBusy_52 n N S l2 l3) S l2 l3 else gR (S.2.1 2 11) 24 l3 fun j2 => f_X10_nextBusy_86 N (fun S l2 l3 => f_X10_nextBusy_52 n N S l2 l3) S (if (S.1 ((512 + j2)) 3) < l2 then (S.1 ((512 + j2)) 3) else l2) l3
set_option maxHeartbeats 4000000 in
set_option maxRecDepth 40000 in
theorem w_X10_nextBusy_52 {F : xH} {ev : xEv} {prim : xRel} {d sz : Nat} {T : yT} {v : Int32} {hp : xH} (N : Nat) (n : Nat) : ∀ (S : yS) (l2 : Int32) (l3 : Int32) (lv : xLv) (a0 : Nat) (fa0 : yAt T 10 2 0 a0) (g0 : xG lv 0 = some (.ref a0)) (g2 : xG lv 2 = some (.int l2)) (g3 : xG lv 3 = some (.int l3)) (hM : cR [0, 1, 2, 3, 4, 5, 6, 7] F ev T S hp) (h : f_X10_nextBusy_52 n N S l2 l3 = some v), yWE ev.2.1 (xstr ev) (xCalls ev xmi (xprog ev) prim (d + 1)) (pX10_nextBusy ev) (52, lv, [], hp, sz, 0) (ypP hp sz (.int v)) := by
  induction n with
  | zero => intro S l2 l3 lv a0 fa0 g0 g2 g3 hM h; exact n_some h
  | succ n ih =>
    intro S l2 l3 lv a0 fa0 g0 g2 g3 hM h
    unfold f_X10_nextBusy_52 at h
    refine ye_iload rfl g3 ?_
    refine ye_aload rfl g0 ?_
    refine ye_getf rfl (hM.obj fa0 ⟨rfl, rfl⟩) rfl ?_
    refine ye_icmp_ge rfl (fun h1 => ?_) (fun h1 => ?_)
    · replace h := yiT h1 h
      refine ye_p rfl rfl ?_
      refine ye_p rfl rfl ?_
      have g0_z1 := xG_o1 (i := 3) (v := .int 0) g0 rfl
      have g2_z1 := xG_o1 (i := 3) (v := .int 0) g2 rfl
      have g3_z1 := xG_same lv 3 (.int 0)
      generalize xSt1 lv 3 (.int 0) = lvz1 at g0_z1 g2_z1 g3_z1 ⊢
      exact w_X10_nextBusy_94 (prim := prim) (d := d) N N S l2 0 lvz1 a0 fa0 g0_z1 g2_z1 g3_z1 hM h
    · replace h := yiN h1 h
      refine ye_aload rfl g0 ?_
      refine ye_getr rfl (hM.obj fa0 ⟨rfl, rfl⟩) rfl (fun cx1 ecx1 => ?_)
      have fcx1 := yAt.row fa0 ecx1
      refine ye_iload rfl g3 ?_
      obtain ⟨j1, ej1, ij1, rj1, h⟩ := gR_some h
      refine ye_aaldR (t := 8) rfl (hM.arr fcx1 yr_10_11) ij1 ej1 rj1 (fun cx2 ecx2 => ?_)
      have fcx2 : yAt T 1 (512 + j1) 0 cx2 := ⟨hM.refd fcx1 yr_10_11 (by decide) rj1, oc_512 (by have := vp_lt ij1; omega), ecx2⟩
      obtain ⟨w1, hw1, h⟩ := bV_some h
      refine ye_callV (As := []) (rest := []) 0 (Or.inl rfl) rfl rfl rfl (Nat.le_of_ble_eq_true rfl) (hM.obj fcx2 ⟨rfl, rfl⟩) ((m_X1_waits (d := d + 0) (T := T) N S ((512 + j1)) cx2 fcx2 hw1) hp sz hM) ?_
      refine ye_if_eq rfl (fun h2 => ?_) (fun h2 => ?_)
      · replace h := yiT h2 h
        exact w_X10_nextBusy_86 (prim := prim) (d := d) N (fun S l2 l3 => f_X10_nextBusy_52 n N S l2 l3) ih S l2 l3 lv a0 fa0 g0 g2 g3 hM h
      · replace h := yiN h2 h
        refine ye_iload rfl g2 ?_
        refine ye_aload rfl g0 ?_
        refine ye_getr rfl (hM.obj fa0 ⟨rfl, rfl⟩) rfl (fun cx3 ecx3 => ?_)
        have fcx3 := yAt.row fa0 ecx3
        refine ye_iload rfl g3 ?_
        obtain ⟨j2, ej2, ij2, rj2, h⟩ := gR_some h
        refine ye_aaldR (t := 8) rfl (hM.arr fcx3 yr_10_11) ij2 ej2 rj2 (fun cx4 ecx4 => ?_)
        have fcx4 : yAt T 1 (512 + j2) 0 cx4 := ⟨hM.refd fcx3 yr_10_11 (by decide) rj2, oc_512 (by have := vp_lt ij2; omega), ecx4⟩
        refine ye_getf rfl (hM.obj fcx4 ⟨rfl, rfl⟩) rfl ?_
        refine ye_p rfl rfl ?_
        refine ye_p rfl rfl ?_
        have g0_z2 := xG_o1 (i := 2) (v := .int (if (S.1 ((512 + j2)) 3) < l2 then (S.1 ((512 + j2)) 3) else l2)) g0 rfl
        have g3_z2 := xG_o1 (i := 2) (v := .int (if (S.1 ((512 + j2)) 3) < l2 then (S.1 ((512 + j2)) 3) else l2)) g3 rfl
        have g2_z2 := xG_same lv 2 (.int (if (S.1 ((512 + j2)) 3) < l2 then (S.1 ((512 + j2)) 3) else l2))
        generalize xSt1 lv 2 (.int (if (S.1 ((512 + j2)) 3) < l2 then (S.1 ((512 + j2)) 3) else l2)) = lvz2 at g0_z2 g3_z2 g2_z2 ⊢
        exact w_X10_nextBusy_86 (prim := prim) (d := d) N (fun S l2 l3 => f_X10_nextBusy_52 n N S l2 l3) ih S (if (S.1 ((512 + j2)) 3) < l2 then (S.1 ((512 + j2)) 3) else l2) l3 lvz2 a0 fa0 g0_z2 g2_z2 g3_z2 hM h

def f_X10_nextBusy_19 : Nat → Nat → yS → Int32 → Int32 → Option Int32
  | 0, _, _, _, _ => none
  | n + 1, N, S, l2, l3 => if (S.1 2 5) ≤ l3 then f_X10_nextBusy_52 N N S l2 0 else gR (S.2.1 2 4) 8 l3 fun j1 => bV (f_X6_isAloft N S ((128 + j1))) fun w1 => if w1 = 0 then f_X10_nextBusy_19 n N S l2 (l3 + 1) else some (S.1 2 13)
set_option maxHeartbeats 4000000 in
set_option maxRecDepth 40000 in
theorem w_X10_nextBusy_19 {F : xH} {ev : xEv} {prim : xRel} {d sz : Nat} {T : yT} {v : Int32} {hp : xH} (N : Nat) (n : Nat) : ∀ (S : yS) (l2 : Int32) (l3 : Int32) (lv : xLv) (a0 : Nat) (fa0 : yAt T 10 2 0 a0) (g0 : xG lv 0 = some (.ref a0)) (g2 : xG lv 2 = some (.int l2)) (g3 : xG lv 3 = some (.int l3)) (hM : cR [0, 1, 2, 3, 4, 5, 6, 7] F ev T S hp) (h : f_X10_nextBusy_19 n N S l2 l3 = some v), yWE ev.2.1 (xstr ev) (xCalls ev xmi (xprog ev) prim (d + 1)) (pX10_nextBusy ev) (19, lv, [], hp, sz, 0) (ypP hp sz (.int v)) := by
  induction n with
  | zero => intro S l2 l3 lv a0 fa0 g0 g2 g3 hM h; exact n_some h
  | succ n ih =>
    intro S l2 l3 lv a0 fa0 g0 g2 g3 hM h
    unfold f_X10_nextBusy_19 at h
    refine ye_iload rfl g3 ?_
    refine ye_aload rfl g0 ?_
    refine ye_getf rfl (hM.obj fa0 ⟨rfl, rfl⟩) rfl ?_
    refine ye_icmp_ge rfl (fun h1 => ?_) (fun h1 => ?_)
    · replace h := yiT h1 h
      refine ye_p rfl rfl ?_
      refine ye_p rfl rfl ?_
      have g0_z1 := xG_o1 (i := 3) (v := .int 0) g0 rfl
      have g2_z1 := xG_o1 (i := 3) (v := .int 0) g2 rfl
      have g3_z1 := xG_same lv 3 (.int 0)
      generalize xSt1 lv 3 (.int 0) = lvz1 at g0_z1 g2_z1 g3_z1 ⊢
      exact w_X10_nextBusy_52 (prim := prim) (d := d) N N S l2 0 lvz1 a0 fa0 g0_z1 g2_z1 g3_z1 hM h
    · replace h := yiN h1 h
      refine ye_aload rfl g0 ?_
      refine ye_getr rfl (hM.obj fa0 ⟨rfl, rfl⟩) rfl (fun cx1 ecx1 => ?_)
      have fcx1 := yAt.row fa0 ecx1
      refine ye_iload rfl g3 ?_
      obtain ⟨j1, ej1, ij1, rj1, h⟩ := gR_some h
      refine ye_aaldR (t := 5) rfl (hM.arr fcx1 yr_10_4) ij1 ej1 rj1 (fun cx2 ecx2 => ?_)
      have fcx2 : yAt T 6 (128 + j1) 0 cx2 := ⟨hM.refd fcx1 yr_10_4 (by decide) rj1, oc_128 (by have := vp_lt ij1; omega), ecx2⟩
      obtain ⟨w1, hw1, h⟩ := bV_some h
      refine ye_callV (As := []) (rest := []) 0 (Or.inl rfl) rfl rfl rfl (Nat.le_of_ble_eq_true rfl) (hM.obj fcx2 ⟨rfl, rfl⟩) ((m_X6_isAloft (d := d + 0) (T := T) N S ((128 + j1)) cx2 fcx2 hw1) hp sz hM) ?_
      refine ye_if_eq rfl (fun h2 => ?_) (fun h2 => ?_)
      · replace h := yiT h2 h
        refine ye_iinc rfl g3 ?_
        have g0_z2 := xG_o1 (i := 3) (v := .int (l3 + 1)) g0 rfl
        have g2_z2 := xG_o1 (i := 3) (v := .int (l3 + 1)) g2 rfl
        have g3_z2 := xG_same lv 3 (.int (l3 + 1))
        generalize xSt1 lv 3 (.int (l3 + 1)) = lvz2 at g0_z2 g2_z2 g3_z2 ⊢
        refine ye_p rfl rfl ?_
        exact ih S l2 (l3 + 1) lvz2 a0 fa0 g0_z2 g2_z2 g3_z2 hM h
      · replace h := yiN h2 h
        refine ye_aload rfl g0 ?_
        refine ye_getf rfl (hM.obj fa0 ⟨rfl, rfl⟩) rfl ?_
        exact ye_ret rfl rfl (rP h)

def f_X10_nextBusy_0 (N : Nat) (S : yS) (l1 : Int32) : Option Int32 := bV (f_X11_roundUp N S (S.1 2 13) 96) fun w1 => f_X10_nextBusy_19 N N S (if (w1 * 96) < l1 then (w1 * 96) else l1) 0
set_option maxHeartbeats 4000000 in
set_option maxRecDepth 40000 in
theorem w_X10_nextBusy_0 {F : xH} {ev : xEv} {prim : xRel} {d sz : Nat} {T : yT} {v : Int32} {hp : xH} (N : Nat) (S : yS) (l1 : Int32) (lv : xLv) (a0 : Nat) (fa0 : yAt T 10 2 0 a0) (g0 : xG lv 0 = some (.ref a0)) (g1 : xG lv 1 = some (.int l1)) (hM : cR [0, 1, 2, 3, 4, 5, 6, 7] F ev T S hp) (h : f_X10_nextBusy_0 N S l1 = some v) : yWE ev.2.1 (xstr ev) (xCalls ev xmi (xprog ev) prim (d + 1)) (pX10_nextBusy ev) (0, lv, [], hp, sz, 0) (ypP hp sz (.int v)) := by
  unfold f_X10_nextBusy_0 at h
  refine ye_iload rfl g1 ?_
  refine ye_aload rfl g0 ?_
  refine ye_getf rfl (hM.obj fa0 ⟨rfl, rfl⟩) rfl ?_
  refine ye_p rfl rfl ?_
  obtain ⟨w1, hw1, h⟩ := bV_some h
  refine ye_callS (As := [.int (S.1 2 13), .int 96]) (rest := [.int l1]) 3 (Or.inr rfl) rfl rfl rfl (Nat.le_of_ble_eq_true rfl) ((m_X11_roundUp (d := d + 0) (T := T) N S (S.1 2 13) 96 hw1) hp sz hM) ?_
  refine ye_p rfl rfl ?_
  refine ye_p rfl rfl ?_
  refine ye_p rfl rfl ?_
  refine ye_p rfl rfl ?_
  have g0_z1 := xG_o1 (i := 2) (v := .int (if (w1 * 96) < l1 then (w1 * 96) else l1)) g0 rfl
  have g2_z1 := xG_same lv 2 (.int (if (w1 * 96) < l1 then (w1 * 96) else l1))
  generalize xSt1 lv 2 (.int (if (w1 * 96) < l1 then (w1 * 96) else l1)) = lvz1 at g0_z1 g2_z1 ⊢
  refine ye_p rfl rfl ?_
  refine ye_p rfl rfl ?_
  have g0_z2 := xG_o1 (i := 3) (v := .int 0) g0_z1 rfl
  have g2_z2 := xG_o1 (i := 3) (v := .int 0) g2_z1 rfl
  have g3_z2 := xG_same lvz1 3 (.int 0)
  generalize xSt1 lvz1 3 (.int 0) = lvz2 at g0_z2 g2_z2 g3_z2 ⊢
  exact w_X10_nextBusy_19 (prim := prim) (d := d) N N S (if (w1 * 96) < l1 then (w1 * 96) else l1) 0 lvz2 a0 fa0 g0_z2 g2_z2 g3_z2 hM h
def f_X10_nextBusy (N : Nat) (S : yS) (xl1 : Int32) : Option Int32 := f_X10_nextBusy_0 N S xl1
theorem m_X10_nextBusy {F : xH} {ev : xEv} {prim : xRel} {d : Nat} {T : yT} {v : Int32} (N : Nat) (S : yS) (xl1 : Int32) (a0 : Nat) (fa0 : yAt T 10 2 0 a0) (h : f_X10_nextBusy N S xl1 = some v) : ykP [0, 1, 2, 3, 4, 5, 6, 7] F ev prim (d + 2) 98 T S [.ref a0, .int xl1] (.int v) :=
  ykP.of (pg_98 ev) mi_98 (Nat.le_of_ble_eq_true rfl) (fun hp sz hM => w_X10_nextBusy_0 (prim := prim) (d := d) N S xl1 _ a0 fa0 rfl rfl hM h)

def f_X10_beginQuarter_84 (N : Nat) (k38 : yS → Int32 → Option (Int32 × yS)) (S : yS) (l1 : Int32) : Option (Int32 × yS) := k38 S (l1 + 1)
set_option maxHeartbeats 4000000 in
set_option maxRecDepth 40000 in
theorem w_X10_beginQuarter_84 {F : xH} {ev : xEv} {prim : xRel} {d sz : Nat} {T : yT} {v : Int32} {S' : yS} (N : Nat) (k38 : yS → Int32 → Option (Int32 × yS)) (u38 : ∀ (S : yS) (l1 : Int32) (hp : xH) (lv : xLv) (a0 : Nat) (fa0 : yAt T 10 2 0 a0) (g0 : xG lv 0 = some (.ref a0)) (g1 : xG lv 1 = some (.int l1)) (hM : cR [0, 1, 2, 3, 4, 5, 6, 7] F ev T S hp) (h : k38 S l1 = some (v, S')), yWE ev.2.1 (xstr ev) (xCalls ev xmi (xprog ev) prim (d + 2)) (pX10_beginQuarter ev) (38, lv, [], hp, sz, 0) (ypQ [0, 1, 2, 3, 4, 5, 6, 7] F ev T sz (none) S')) (S : yS) (l1 : Int32) (hp : xH) (lv : xLv) (a0 : Nat) (fa0 : yAt T 10 2 0 a0) (g0 : xG lv 0 = some (.ref a0)) (g1 : xG lv 1 = some (.int l1)) (hM : cR [0, 1, 2, 3, 4, 5, 6, 7] F ev T S hp) (h : f_X10_beginQuarter_84 N k38 S l1 = some (v, S')) : yWE ev.2.1 (xstr ev) (xCalls ev xmi (xprog ev) prim (d + 2)) (pX10_beginQuarter ev) (84, lv, [], hp, sz, 0) (ypQ [0, 1, 2, 3, 4, 5, 6, 7] F ev T sz (none) S') := by
  unfold f_X10_beginQuarter_84 at h
  refine ye_iinc rfl g1 ?_
  have g0_z1 := xG_o1 (i := 1) (v := .int (l1 + 1)) g0 rfl
  have g1_z1 := xG_same lv 1 (.int (l1 + 1))
  generalize xSt1 lv 1 (.int (l1 + 1)) = lvz1 at g0_z1 g1_z1 ⊢
  refine ye_p rfl rfl ?_
  exact u38 S (l1 + 1) hp lvz1 a0 fa0 g0_z1 g1_z1 hM h

def f_X10_beginQuarter_38 : Nat → Nat → yS → Int32 → Option (Int32 × yS)
  | 0, _, _, _ => none
  | n + 1, N, S, l1 => if (S.1 2 9) ≤ l1 then some (0, S) else gR (S.2.1 2 8) 30 l1 fun j1 => if ¬ (S.1 ((384 + j1)) 7) = (S.1 2 13) then f_X10_beginQuarter_84 N (fun S l1 => f_X10_beginQuarter_38 n N S l1) S l1 else gR (S.2.1 2 8) 30 l1 fun j2 => gR (S.2.1 2 8) 30 l1 fun j3 => bS (f_X0_putAt N S ((384 + j2)) (S.1 ((384 + j3)) 1) (S.1 2 13)) fun w1 S1 => f_X10_beginQuarter_84 N (fun S l1 => f_X10_beginQuarter_38 n N S l1) S1 l1
set_option maxHeartbeats 4000000 in
set_option maxRecDepth 40000 in
theorem w_X10_beginQuarter_38 {F : xH} {ev : xEv} {prim : xRel} {d sz : Nat} {T : yT} {v : Int32} {S' : yS} (N : Nat) (n : Nat) : ∀ (S : yS) (l1 : Int32) (hp : xH) (lv : xLv) (a0 : Nat) (fa0 : yAt T 10 2 0 a0) (g0 : xG lv 0 = some (.ref a0)) (g1 : xG lv 1 = some (.int l1)) (hM : cR [0, 1, 2, 3, 4, 5, 6, 7] F ev T S hp) (h : f_X10_beginQuarter_38 n N S l1 = some (v, S')), yWE ev.2.1 (xstr ev) (xCalls ev xmi (xprog ev) prim (d + 2)) (pX10_beginQuarter ev) (38, lv, [], hp, sz, 0) (ypQ [0, 1, 2, 3, 4, 5, 6, 7] F ev T sz (none) S') := by
  induction n with
  | zero => intro S l1 hp lv a0 fa0 g0 g1 hM h; exact n_some h
  | succ n ih =>
    intro S l1 hp lv a0 fa0 g0 g1 hM h
    unfold f_X10_beginQuarter_38 at h
    refine ye_iload rfl g1 ?_
    refine ye_aload rfl g0 ?_
    refine ye_getf rfl (hM.obj fa0 ⟨rfl, rfl⟩) rfl ?_
    refine ye_icmp_ge rfl (fun h1 => ?_) (fun h1 => ?_)
    · replace h := yiT h1 h
      exact ye_ret rfl rfl (rQV h hM)
    · replace h := yiN h1 h
      refine ye_aload rfl g0 ?_
      refine ye_getr rfl (hM.obj fa0 ⟨rfl, rfl⟩) rfl (fun cx1 ecx1 => ?_)
      have fcx1 := yAt.row fa0 ecx1
      refine ye_iload rfl g1 ?_
      obtain ⟨j1, ej1, ij1, rj1, h⟩ := gR_some h
      refine ye_aaldR (t := 7) rfl (hM.arr fcx1 yr_10_8) ij1 ej1 rj1 (fun cx2 ecx2 => ?_)
      have fcx2 : yAt T 0 (384 + j1) 0 cx2 := ⟨hM.refd fcx1 yr_10_8 (by decide) rj1, oc_384 (by have := vp_lt ij1; omega), ecx2⟩
      refine ye_getf rfl (hM.obj fcx2 ⟨rfl, rfl⟩) rfl ?_
      refine ye_aload rfl g0 ?_
      refine ye_getf rfl (hM.obj fa0 ⟨rfl, rfl⟩) rfl ?_
      refine ye_icmp_ne rfl (fun h2 => ?_) (fun h2 => ?_)
      · replace h := yiT h2 h
        exact w_X10_beginQuarter_84 (prim := prim) (d := d) N (fun S l1 => f_X10_beginQuarter_38 n N S l1) ih S l1 hp lv a0 fa0 g0 g1 hM h
      · replace h := yiN h2 h
        refine ye_aload rfl g0 ?_
        refine ye_getr rfl (hM.obj fa0 ⟨rfl, rfl⟩) rfl (fun cx3 ecx3 => ?_)
        have fcx3 := yAt.row fa0 ecx3
        refine ye_iload rfl g1 ?_
        obtain ⟨j2, ej2, ij2, rj2, h⟩ := gR_some h
        refine ye_aaldR (t := 7) rfl (hM.arr fcx3 yr_10_8) ij2 ej2 rj2 (fun cx4 ecx4 => ?_)
        have fcx4 : yAt T 0 (384 + j2) 0 cx4 := ⟨hM.refd fcx3 yr_10_8 (by decide) rj2, oc_384 (by have := vp_lt ij2; omega), ecx4⟩
        refine ye_aload rfl g0 ?_
        refine ye_getr rfl (hM.obj fa0 ⟨rfl, rfl⟩) rfl (fun cx5 ecx5 => ?_)
        have fcx5 := yAt.row fa0 ecx5
        refine ye_iload rfl g1 ?_
        obtain ⟨j3, ej3, ij3, rj3, h⟩ := gR_some h
        refine ye_aaldR (t := 7) rfl (hM.arr fcx5 yr_10_8) ij3 ej3 rj3 (fun cx6 ecx6 => ?_)
        have fcx6 : yAt T 0 (384 + j3) 0 cx6 := ⟨hM.refd fcx5 yr_10_8 (by decide) rj3, oc_384 (by have := vp_lt ij3; omega), ecx6⟩
        refine ye_getf rfl (hM.obj fcx6 ⟨rfl, rfl⟩) rfl ?_
        refine ye_aload rfl g0 ?_
        refine ye_getf rfl (hM.obj fa0 ⟨rfl, rfl⟩) rfl ?_
        obtain ⟨w1, S1, hw1, h⟩ := bS_some h
        obtain ⟨y1, cy1, M1⟩ := (m_X0_putAt (d := d + 0) (T := T) N S ((384 + j2)) (S.1 ((384 + j3)) 1) (S.1 2 13) cx4 fcx4 hw1) hp sz hM
        refine ye_callV (As := [.int (S.1 ((384 + j3)) 1), .int (S.1 2 13)]) (rest := []) 0 (Or.inl rfl) rfl rfl rfl (Nat.le_of_ble_eq_true rfl) (hM.obj fcx4 ⟨rfl, rfl⟩) cy1 ?_
        exact w_X10_beginQuarter_84 (prim := prim) (d := d) N (fun S l1 => f_X10_beginQuarter_38 n N S l1) ih S1 l1 y1 lv a0 fa0 g0 g1 M1 h

def f_X10_beginQuarter_36 (N : Nat) (S : yS) : Option (Int32 × yS) := f_X10_beginQuarter_38 N N S 0
set_option maxHeartbeats 4000000 in
set_option maxRecDepth 40000 in
theorem w_X10_beginQuarter_36 {F : xH} {ev : xEv} {prim : xRel} {d sz : Nat} {T : yT} {v : Int32} {S' : yS} (N : Nat) (S : yS) (hp : xH) (lv : xLv) (a0 : Nat) (fa0 : yAt T 10 2 0 a0) (g0 : xG lv 0 = some (.ref a0)) (hM : cR [0, 1, 2, 3, 4, 5, 6, 7] F ev T S hp) (h : f_X10_beginQuarter_36 N S = some (v, S')) : yWE ev.2.1 (xstr ev) (xCalls ev xmi (xprog ev) prim (d + 2)) (pX10_beginQuarter ev) (36, lv, [], hp, sz, 0) (ypQ [0, 1, 2, 3, 4, 5, 6, 7] F ev T sz (none) S') := by
  unfold f_X10_beginQuarter_36 at h
  refine ye_p rfl rfl ?_
  refine ye_p rfl rfl ?_
  have g0_z1 := xG_o1 (i := 1) (v := .int 0) g0 rfl
  have g1_z1 := xG_same lv 1 (.int 0)
  generalize xSt1 lv 1 (.int 0) = lvz1 at g0_z1 g1_z1 ⊢
  exact w_X10_beginQuarter_38 (prim := prim) (d := d) N N S 0 hp lvz1 a0 fa0 g0_z1 g1_z1 hM h

def f_X10_beginQuarter_12 : Nat → Nat → yS → Int32 → Option (Int32 × yS)
  | 0, _, _, _ => none
  | n + 1, N, S, l1 => if (S.1 2 7) ≤ l1 then f_X10_beginQuarter_36 N S else gR (S.2.1 2 6) 8 l1 fun j1 => sq (yI S ((256 + j1)) 2 0) fun S1 => f_X10_beginQuarter_12 n N S1 (l1 + 1)
set_option maxHeartbeats 4000000 in
set_option maxRecDepth 40000 in
theorem w_X10_beginQuarter_12 {F : xH} {ev : xEv} {prim : xRel} {d sz : Nat} {T : yT} {v : Int32} {S' : yS} (N : Nat) (n : Nat) : ∀ (S : yS) (l1 : Int32) (hp : xH) (lv : xLv) (a0 : Nat) (fa0 : yAt T 10 2 0 a0) (g0 : xG lv 0 = some (.ref a0)) (g1 : xG lv 1 = some (.int l1)) (hM : cR [0, 1, 2, 3, 4, 5, 6, 7] F ev T S hp) (h : f_X10_beginQuarter_12 n N S l1 = some (v, S')), yWE ev.2.1 (xstr ev) (xCalls ev xmi (xprog ev) prim (d + 2)) (pX10_beginQuarter ev) (12, lv, [], hp, sz, 0) (ypQ [0, 1, 2, 3, 4, 5, 6, 7] F ev T sz (none) S') := by
  induction n with
  | zero => intro S l1 hp lv a0 fa0 g0 g1 hM h; exact n_some h
  | succ n ih =>
    intro S l1 hp lv a0 fa0 g0 g1 hM h
    unfold f_X10_beginQuarter_12 at h
    refine ye_iload rfl g1 ?_
    refine ye_aload rfl g0 ?_
    refine ye_getf rfl (hM.obj fa0 ⟨rfl, rfl⟩) rfl ?_
    refine ye_icmp_ge rfl (fun h1 => ?_) (fun h1 => ?_)
    · replace h := yiT h1 h
      exact w_X10_beginQuarter_36 (prim := prim) (d := d) N S hp lv a0 fa0 g0 hM h
    · replace h := yiN h1 h
      refine ye_aload rfl g0 ?_
      refine ye_getr rfl (hM.obj fa0 ⟨rfl, rfl⟩) rfl (fun cx1 ecx1 => ?_)
      have fcx1 := yAt.row fa0 ecx1
      refine ye_iload rfl g1 ?_
      obtain ⟨j1, ej1, ij1, rj1, h⟩ := gR_some h
      refine ye_aaldR (t := 6) rfl (hM.arr fcx1 yr_10_6) ij1 ej1 rj1 (fun cx2 ecx2 => ?_)
      have fcx2 : yAt T 5 (256 + j1) 0 cx2 := ⟨hM.refd fcx1 yr_10_6 (by decide) rj1, oc_256 (by have := vp_lt ij1; omega), ecx2⟩
      refine ye_p rfl rfl ?_
      obtain ⟨S1, eS1, h⟩ := sq_some h
      refine yw_putI rfl hM fcx2 rfl ⟨rfl, rfl⟩ (Nat.le_of_ble_eq_true rfl) rfl rfl (ys_5_2 ev T _ 0) (fun q => absurd q (by decide)) eS1 (fun y1 M1 => ?_)
      refine ye_iinc rfl g1 ?_
      have g0_z1 := xG_o1 (i := 1) (v := .int (l1 + 1)) g0 rfl
      have g1_z1 := xG_same lv 1 (.int (l1 + 1))
      generalize xSt1 lv 1 (.int (l1 + 1)) = lvz1 at g0_z1 g1_z1 ⊢
      refine ye_p rfl rfl ?_
      exact ih S1 (l1 + 1) y1 lvz1 a0 fa0 g0_z1 g1_z1 M1 h

def f_X10_beginQuarter_0 (N : Nat) (S : yS) : Option (Int32 × yS) := if ¬ ((S.1 2 13) - (S.1 2 13) / 96 * 96) = 0 then f_X10_beginQuarter_36 N S else f_X10_beginQuarter_12 N N S 0
set_option maxHeartbeats 4000000 in
set_option maxRecDepth 40000 in
theorem w_X10_beginQuarter_0 {F : xH} {ev : xEv} {prim : xRel} {d sz : Nat} {T : yT} {v : Int32} {S' : yS} (N : Nat) (S : yS) (hp : xH) (lv : xLv) (a0 : Nat) (fa0 : yAt T 10 2 0 a0) (g0 : xG lv 0 = some (.ref a0)) (hM : cR [0, 1, 2, 3, 4, 5, 6, 7] F ev T S hp) (h : f_X10_beginQuarter_0 N S = some (v, S')) : yWE ev.2.1 (xstr ev) (xCalls ev xmi (xprog ev) prim (d + 2)) (pX10_beginQuarter ev) (0, lv, [], hp, sz, 0) (ypQ [0, 1, 2, 3, 4, 5, 6, 7] F ev T sz (none) S') := by
  unfold f_X10_beginQuarter_0 at h
  refine ye_aload rfl g0 ?_
  refine ye_getf rfl (hM.obj fa0 ⟨rfl, rfl⟩) rfl ?_
  refine ye_p rfl rfl ?_
  refine ye_div rfl (by decide) ?_
  refine ye_if_ne rfl (fun h1 => ?_) (fun h1 => ?_)
  · replace h := yiT h1 h
    exact w_X10_beginQuarter_36 (prim := prim) (d := d) N S hp lv a0 fa0 g0 hM h
  · replace h := yiN h1 h
    refine ye_p rfl rfl ?_
    refine ye_p rfl rfl ?_
    have g0_z1 := xG_o1 (i := 1) (v := .int 0) g0 rfl
    have g1_z1 := xG_same lv 1 (.int 0)
    generalize xSt1 lv 1 (.int 0) = lvz1 at g0_z1 g1_z1 ⊢
    exact w_X10_beginQuarter_12 (prim := prim) (d := d) N N S 0 hp lvz1 a0 fa0 g0_z1 g1_z1 hM h
def f_X10_beginQuarter (N : Nat) (S : yS) : Option (Int32 × yS) := f_X10_beginQuarter_0 N S
theorem m_X10_beginQuarter {F : xH} {ev : xEv} {prim : xRel} {d : Nat} {T : yT} {v : Int32} {S' : yS} (N : Nat) (S : yS) (a0 : Nat) (fa0 : yAt T 10 2 0 a0) (h : f_X10_beginQuarter N S = some (v, S')) : ykQ [0, 1, 2, 3, 4, 5, 6, 7] F ev prim (d + 3) 99 T S [.ref a0] (none) S' :=
  ykQ.of (pg_99 ev) mi_99 (Nat.le_of_ble_eq_true rfl) (fun hp sz hM => w_X10_beginQuarter_0 (prim := prim) (d := d) N S hp _ a0 fa0 rfl hM h)

def f_X10_hindrance_61 (N : Nat) (S : yS) : Option Int32 := some 1
set_option maxHeartbeats 4000000 in
set_option maxRecDepth 40000 in
theorem w_X10_hindrance_61 {F : xH} {ev : xEv} {prim : xRel} {d sz : Nat} {T : yT} {v : Int32} {hp : xH} (N : Nat) (S : yS) (lv : xLv) (hM : cR [0, 1, 2, 3, 4, 5, 6, 7] F ev T S hp) (h : f_X10_hindrance_61 N S = some v) : yWE ev.2.1 (xstr ev) (xCalls ev xmi (xprog ev) prim (d + 1)) (pX10_hindrance ev) (61, lv, [], hp, sz, 0) (ypP hp sz (.int v)) := by
  unfold f_X10_hindrance_61 at h
  refine ye_p rfl rfl ?_
  exact ye_ret rfl rfl (rP h)

def f_X10_hindrance_129 (N : Nat) (S : yS) (t0 : Int32) : Option Int32 := some t0
set_option maxHeartbeats 4000000 in
set_option maxRecDepth 40000 in
theorem w_X10_hindrance_129 {F : xH} {ev : xEv} {prim : xRel} {d sz : Nat} {T : yT} {v : Int32} {hp : xH} (N : Nat) (S : yS) (t0 : Int32) (lv : xLv) (hM : cR [0, 1, 2, 3, 4, 5, 6, 7] F ev T S hp) (h : f_X10_hindrance_129 N S t0 = some v) : yWE ev.2.1 (xstr ev) (xCalls ev xmi (xprog ev) prim (d + 1)) (pX10_hindrance ev) (129, lv, [.int t0], hp, sz, 0) (ypP hp sz (.int v)) := by
  unfold f_X10_hindrance_129 at h
  exact ye_ret rfl rfl (rP h)

def f_X10_hindrance_114 (N : Nat) (S : yS) (p2 : Nat) (p3 : Nat) : Option Int32 := bV (f_X10_carriedAtMost N S p2 p3) fun w1 => if 0 ≤ w1 then f_X10_hindrance_129 N S 0 else f_X10_hindrance_129 N S 6
set_option maxHeartbeats 4000000 in
set_option maxRecDepth 40000 in
theorem w_X10_hindrance_114 {F : xH} {ev : xEv} {prim : xRel} {d sz : Nat} {T : yT} {v : Int32} {hp : xH} (N : Nat) (S : yS) (p2 : Nat) (p3 : Nat) (lv : xLv) (a0 : Nat) (a2 : Nat) (a3 : Nat) (fa0 : yAt T 10 2 0 a0) (fa2 : yAt T 6 p2 0 a2) (fa3 : yAt T 3 p3 0 a3) (g0 : xG lv 0 = some (.ref a0)) (g2 : xG lv 2 = some (.ref a2)) (g3 : xG lv 3 = some (.ref a3)) (hM : cR [0, 1, 2, 3, 4, 5, 6, 7] F ev T S hp) (h : f_X10_hindrance_114 N S p2 p3 = some v) : yWE ev.2.1 (xstr ev) (xCalls ev xmi (xprog ev) prim (d + 1)) (pX10_hindrance ev) (114, lv, [], hp, sz, 0) (ypP hp sz (.int v)) := by
  unfold f_X10_hindrance_114 at h
  refine ye_aload rfl g0 ?_
  refine ye_aload rfl g2 ?_
  refine ye_aload rfl g3 ?_
  obtain ⟨w1, hw1, h⟩ := bV_some h
  refine ye_callV (As := [.ref a2, .ref a3]) (rest := []) 0 (Or.inl rfl) rfl rfl rfl (Nat.le_of_ble_eq_true rfl) (hM.obj fa0 ⟨rfl, rfl⟩) ((m_X10_carriedAtMost (d := d + 0) (T := T) N S p2 p3 a0 a2 a3 fa0 fa2 fa3 hw1) hp sz hM) ?_
  refine ye_if_ge rfl (fun h1 => ?_) (fun h1 => ?_)
  · replace h := yiT h1 h
    refine ye_p rfl rfl ?_
    exact w_X10_hindrance_129 (prim := prim) (d := d) N S 0 lv hM h
  · replace h := yiN h1 h
    refine ye_p rfl rfl ?_
    refine ye_p rfl rfl ?_
    exact w_X10_hindrance_129 (prim := prim) (d := d) N S 6 lv hM h

def f_X10_hindrance_0 (N : Nat) (S : yS) (p1 : Nat) : Option Int32 := gR (S.2.1 2 4) 8 (S.1 p1 0) fun j1 => gR (S.2.1 1 4) 12 (S.1 p1 2) fun j2 => if (S.1 ((128 + j1)) 8) = ((-1)) then f_X10_hindrance_61 N S else gR (S.2.1 2 6) 8 (S.1 p1 1) fun j3 => if ¬ (S.1 ((128 + j1)) 8) = (S.1 ((256 + j3)) 0) then f_X10_hindrance_61 N S else bV (f_X3_touches N S ((64 + j2)) (S.1 ((128 + j1)) 8)) fun w1 => if ¬ w1 = 0 then if (S.1 ((128 + j1)) 13) = 0 then if (S.1 ((128 + j1)) 14) ≤ (S.1 2 13) then if (S.1 ((128 + j1)) 5) < (S.1 ((128 + j1)) 6) then bV (f_X10_isNight N S) fun w2 => if w2 = 0 then f_X10_hindrance_114 N S ((128 + j1)) ((64 + j2)) else if ¬ (S.1 ((128 + j1)) 4) = 0 then f_X10_hindrance_114 N S ((128 + j1)) ((64 + j2)) else some 5 else some 4 else some 3 else some 2 else f_X10_hindrance_61 N S
set_option maxHeartbeats 4000000 in
set_option maxRecDepth 40000 in
theorem w_X10_hindrance_0 {F : xH} {ev : xEv} {prim : xRel} {d sz : Nat} {T : yT} {v : Int32} {hp : xH} (N : Nat) (S : yS) (p1 : Nat) (lv : xLv) (a0 : Nat) (a1 : Nat) (fa0 : yAt T 10 2 0 a0) (fa1 : yAt T 1 p1 0 a1) (g0 : xG lv 0 = some (.ref a0)) (g1 : xG lv 1 = some (.ref a1)) (hM : cR [0, 1, 2, 3, 4, 5, 6, 7] F ev T S hp) (h : f_X10_hindrance_0 N S p1 = some v) : yWE ev.2.1 (xstr ev) (xCalls ev xmi (xprog ev) prim (d + 1)) (pX10_hindrance ev) (0, lv, [], hp, sz, 0) (ypP hp sz (.int v)) := by
  unfold f_X10_hindrance_0 at h
  refine ye_aload rfl g0 ?_
  refine ye_getr rfl (hM.obj fa0 ⟨rfl, rfl⟩) rfl (fun cx1 ecx1 => ?_)
  have fcx1 := yAt.row fa0 ecx1
  refine ye_aload rfl g1 ?_
  refine ye_getf rfl (hM.obj fa1 ⟨rfl, rfl⟩) rfl ?_
  obtain ⟨j1, ej1, ij1, rj1, h⟩ := gR_some h
  refine ye_aaldR (t := 5) rfl (hM.arr fcx1 yr_10_4) ij1 ej1 rj1 (fun cx2 ecx2 => ?_)
  have fcx2 : yAt T 6 (128 + j1) 0 cx2 := ⟨hM.refd fcx1 yr_10_4 (by decide) rj1, oc_128 (by have := vp_lt ij1; omega), ecx2⟩
  refine ye_p rfl rfl ?_
  have g0_z1 := xG_o1 (i := 2) (v := .ref cx2) g0 rfl
  have g1_z1 := xG_o1 (i := 2) (v := .ref cx2) g1 rfl
  have g2_z1 := xG_same lv 2 (.ref cx2)
  generalize xSt1 lv 2 (.ref cx2) = lvz1 at g0_z1 g1_z1 g2_z1 ⊢
  refine ye_aload rfl g0_z1 ?_
  refine ye_getr rfl (hM.obj fa0 ⟨rfl, rfl⟩) rfl (fun cx3 ecx3 => ?_)
  have fcx3 := hM.root 2 0 (by decide) rfl ecx3
  refine ye_getr rfl (hM.obj fcx3 ⟨rfl, rfl⟩) rfl (fun cx4 ecx4 => ?_)
  have fcx4 := yAt.row fcx3 ecx4
  refine ye_aload rfl g1_z1 ?_
  refine ye_getf rfl (hM.obj fa1 ⟨rfl, rfl⟩) rfl ?_
  obtain ⟨j2, ej2, ij2, rj2, h⟩ := gR_some h
  refine ye_aaldR (t := 4) rfl (hM.arr fcx4 yr_2_4) ij2 ej2 rj2 (fun cx5 ecx5 => ?_)
  have fcx5 : yAt T 3 (64 + j2) 0 cx5 := ⟨hM.refd fcx4 yr_2_4 (by decide) rj2, oc_64 (by have := vp_lt ij2; omega), ecx5⟩
  refine ye_p rfl rfl ?_
  have g0_z2 := xG_o1 (i := 3) (v := .ref cx5) g0_z1 rfl
  have g1_z2 := xG_o1 (i := 3) (v := .ref cx5) g1_z1 rfl
  have g2_z2 := xG_o1 (i := 3) (v := .ref cx5) g2_z1 rfl
  have g3_z2 := xG_same lvz1 3 (.ref cx5)
  generalize xSt1 lvz1 3 (.ref cx5) = lvz2 at g0_z2 g1_z2 g2_z2 g3_z2 ⊢
  refine ye_aload rfl g2_z2 ?_
  refine ye_getf rfl (hM.obj fcx2 ⟨rfl, rfl⟩) rfl ?_
  refine ye_p rfl rfl ?_
  refine ye_icmp_eq rfl (fun h1 => ?_) (fun h1 => ?_)
  · replace h := yiT h1 h
    exact w_X10_hindrance_61 (prim := prim) (d := d) N S lvz2 hM h
  · replace h := yiN h1 h
    refine ye_aload rfl g2_z2 ?_
    refine ye_getf rfl (hM.obj fcx2 ⟨rfl, rfl⟩) rfl ?_
    refine ye_aload rfl g0_z2 ?_
    refine ye_getr rfl (hM.obj fa0 ⟨rfl, rfl⟩) rfl (fun cx6 ecx6 => ?_)
    have fcx6 := yAt.row fa0 ecx6
    refine ye_aload rfl g1_z2 ?_
    refine ye_getf rfl (hM.obj fa1 ⟨rfl, rfl⟩) rfl ?_
    obtain ⟨j3, ej3, ij3, rj3, h⟩ := gR_some h
    refine ye_aaldR (t := 6) rfl (hM.arr fcx6 yr_10_6) ij3 ej3 rj3 (fun cx7 ecx7 => ?_)
    have fcx7 : yAt T 5 (256 + j3) 0 cx7 := ⟨hM.refd fcx6 yr_10_6 (by decide) rj3, oc_256 (by have := vp_lt ij3; omega), ecx7⟩
    refine ye_getf rfl (hM.obj fcx7 ⟨rfl, rfl⟩) rfl ?_
    refine ye_icmp_ne rfl (fun h2 => ?_) (fun h2 => ?_)
    · replace h := yiT h2 h
      exact w_X10_hindrance_61 (prim := prim) (d := d) N S lvz2 hM h
    · replace h := yiN h2 h
      refine ye_aload rfl g3_z2 ?_
      refine ye_aload rfl g2_z2 ?_
      refine ye_getf rfl (hM.obj fcx2 ⟨rfl, rfl⟩) rfl ?_
      obtain ⟨w1, hw1, h⟩ := bV_some h
      refine ye_callV (As := [.int (S.1 ((128 + j1)) 8)]) (rest := []) 0 (Or.inl rfl) rfl rfl rfl (Nat.le_of_ble_eq_true rfl) (hM.obj fcx5 ⟨rfl, rfl⟩) ((m_X3_touches (d := d + 0) (T := T) N S ((64 + j2)) (S.1 ((128 + j1)) 8) cx5 fcx5 hw1) hp sz hM) ?_
      refine ye_if_ne rfl (fun h3 => ?_) (fun h3 => ?_)
      · replace h := yiT h3 h
        refine ye_aload rfl g2_z2 ?_
        refine ye_getf rfl (hM.obj fcx2 ⟨rfl, rfl⟩) rfl ?_
        refine ye_if_eq rfl (fun h4 => ?_) (fun h4 => ?_)
        · replace h := yiT h4 h
          refine ye_aload rfl g2_z2 ?_
          refine ye_getf rfl (hM.obj fcx2 ⟨rfl, rfl⟩) rfl ?_
          refine ye_aload rfl g0_z2 ?_
          refine ye_getf rfl (hM.obj fa0 ⟨rfl, rfl⟩) rfl ?_
          refine ye_icmp_le rfl (fun h5 => ?_) (fun h5 => ?_)
          · replace h := yiT h5 h
            refine ye_aload rfl g2_z2 ?_
            refine ye_getf rfl (hM.obj fcx2 ⟨rfl, rfl⟩) rfl ?_
            refine ye_aload rfl g2_z2 ?_
            refine ye_getf rfl (hM.obj fcx2 ⟨rfl, rfl⟩) rfl ?_
            refine ye_icmp_lt rfl (fun h6 => ?_) (fun h6 => ?_)
            · replace h := yiT h6 h
              refine ye_aload rfl g0_z2 ?_
              obtain ⟨w2, hw2, h⟩ := bV_some h
              refine ye_callV (As := []) (rest := []) 0 (Or.inl rfl) rfl rfl rfl (Nat.le_of_ble_eq_true rfl) (hM.obj fa0 ⟨rfl, rfl⟩) ((m_X10_isNight (d := d + 0) (T := T) N S a0 fa0 hw2) hp sz hM) ?_
              refine ye_if_eq rfl (fun h7 => ?_) (fun h7 => ?_)
              · replace h := yiT h7 h
                exact w_X10_hindrance_114 (prim := prim) (d := d) N S ((128 + j1)) ((64 + j2)) lvz2 a0 cx2 cx5 fa0 fcx2 fcx5 g0_z2 g2_z2 g3_z2 hM h
              · replace h := yiN h7 h
                refine ye_aload rfl g2_z2 ?_
                refine ye_getf rfl (hM.obj fcx2 ⟨rfl, rfl⟩) rfl ?_
                refine ye_if_ne rfl (fun h8 => ?_) (fun h8 => ?_)
                · replace h := yiT h8 h
                  exact w_X10_hindrance_114 (prim := prim) (d := d) N S ((128 + j1)) ((64 + j2)) lvz2 a0 cx2 cx5 fa0 fcx2 fcx5 g0_z2 g2_z2 g3_z2 hM h
                · replace h := yiN h8 h
                  refine ye_p rfl rfl ?_
                  exact ye_ret rfl rfl (rP h)
            · replace h := yiN h6 h
              refine ye_p rfl rfl ?_
              exact ye_ret rfl rfl (rP h)
          · replace h := yiN h5 h
            refine ye_p rfl rfl ?_
            exact ye_ret rfl rfl (rP h)
        · replace h := yiN h4 h
          refine ye_p rfl rfl ?_
          exact ye_ret rfl rfl (rP h)
      · replace h := yiN h3 h
        exact w_X10_hindrance_61 (prim := prim) (d := d) N S lvz2 hM h
def f_X10_hindrance (N : Nat) (S : yS) (xp1 : Nat) : Option Int32 := f_X10_hindrance_0 N S xp1
theorem m_X10_hindrance {F : xH} {ev : xEv} {prim : xRel} {d : Nat} {T : yT} {v : Int32} (N : Nat) (S : yS) (xp1 : Nat) (a0 : Nat) (a1 : Nat) (fa0 : yAt T 10 2 0 a0) (fa1 : yAt T 1 xp1 0 a1) (h : f_X10_hindrance N S xp1 = some v) : ykP [0, 1, 2, 3, 4, 5, 6, 7] F ev prim (d + 2) 102 T S [.ref a0, .ref a1] (.int v) :=
  ykP.of (pg_102 ev) mi_102 (Nat.le_of_ble_eq_true rfl) (fun hp sz hM => w_X10_hindrance_0 (prim := prim) (d := d) N S xp1 _ a0 a1 fa0 fa1 rfl rfl hM h)

def f_X10_takeBags_117 (N : Nat) (k40 : yS → Int32 → Nat → Nat → Int32 → Int32 → Int32 → Option (Int32 × yS)) (S : yS) (l1 : Int32) (p2 : Nat) (p3 : Nat) (l4 : Int32) (l5 : Int32) (l6 : Int32) : Option (Int32 × yS) := k40 S l1 p2 p3 l4 l5 (l6 + 1)
set_option maxHeartbeats 4000000 in
set_option maxRecDepth 40000 in
theorem w_X10_takeBags_117 {F : xH} {ev : xEv} {prim : xRel} {d sz : Nat} {T : yT} {v : Int32} {S' : yS} (N : Nat) (k40 : yS → Int32 → Nat → Nat → Int32 → Int32 → Int32 → Option (Int32 × yS)) (u40 : ∀ (S : yS) (l1 : Int32) (p2 : Nat) (p3 : Nat) (l4 : Int32) (l5 : Int32) (l6 : Int32) (hp : xH) (lv : xLv) (a0 : Nat) (a2 : Nat) (a3 : Nat) (fa0 : yAt T 10 2 0 a0) (fa2 : yAt T 3 p2 0 a2) (fa3 : yAt T 6 p3 0 a3) (g0 : xG lv 0 = some (.ref a0)) (g1 : xG lv 1 = some (.int l1)) (g2 : xG lv 2 = some (.ref a2)) (g3 : xG lv 3 = some (.ref a3)) (g4 : xG lv 4 = some (.int l4)) (g5 : xG lv 5 = some (.int l5)) (g6 : xG lv 6 = some (.int l6)) (hM : cR [0, 1, 2, 3, 4, 5, 6, 7] F ev T S hp) (h : k40 S l1 p2 p3 l4 l5 l6 = some (v, S')), yWE ev.2.1 (xstr ev) (xCalls ev xmi (xprog ev) prim (d + 2)) (pX10_takeBags ev) (40, lv, [], hp, sz, 0) (ypQ [0, 1, 2, 3, 4, 5, 6, 7] F ev T sz (none) S')) (S : yS) (l1 : Int32) (p2 : Nat) (p3 : Nat) (l4 : Int32) (l5 : Int32) (l6 : Int32) (hp : xH) (lv : xLv) (a0 : Nat) (a2 : Nat) (a3 : Nat) (fa0 : yAt T 10 2 0 a0) (fa2 : yAt T 3 p2 0 a2) (fa3 : yAt T 6 p3 0 a3) (g0 : xG lv 0 = some (.ref a0)) (g1 : xG lv 1 = some (.int l1)) (g2 : xG lv 2 = some (.ref a2)) (g3 : xG lv 3 = some (.ref a3)) (g4 : xG lv 4 = some (.int l4)) (g5 : xG lv 5 = some (.int l5)) (g6 : xG lv 6 = some (.int l6)) (hM : cR [0, 1, 2, 3, 4, 5, 6, 7] F ev T S hp) (h : f_X10_takeBags_117 N k40 S l1 p2 p3 l4 l5 l6 = some (v, S')) : yWE ev.2.1 (xstr ev) (xCalls ev xmi (xprog ev) prim (d + 2)) (pX10_takeBags ev) (117, lv, [], hp, sz, 0) (ypQ [0, 1, 2, 3, 4, 5, 6, 7] F ev T sz (none) S') := by
  unfold f_X10_takeBags_117 at h
  refine ye_iinc rfl g6 ?_
  have g0_z1 := xG_o1 (i := 6) (v := .int (l6 + 1)) g0 rfl
  have g1_z1 := xG_o1 (i := 6) (v := .int (l6 + 1)) g1 rfl
  have g2_z1 := xG_o1 (i := 6) (v := .int (l6 + 1)) g2 rfl
  have g3_z1 := xG_o1 (i := 6) (v := .int (l6 + 1)) g3 rfl
  have g4_z1 := xG_o1 (i := 6) (v := .int (l6 + 1)) g4 rfl
  have g5_z1 := xG_o1 (i := 6) (v := .int (l6 + 1)) g5 rfl
  have g6_z1 := xG_same lv 6 (.int (l6 + 1))
  generalize xSt1 lv 6 (.int (l6 + 1)) = lvz1 at g0_z1 g1_z1 g2_z1 g3_z1 g4_z1 g5_z1 g6_z1 ⊢
  refine ye_p rfl rfl ?_
  exact u40 S l1 p2 p3 l4 l5 (l6 + 1) hp lvz1 a0 a2 a3 fa0 fa2 fa3 g0_z1 g1_z1 g2_z1 g3_z1 g4_z1 g5_z1 g6_z1 hM h

def f_X10_takeBags_40 : Nat → Nat → yS → Int32 → Nat → Nat → Int32 → Int32 → Int32 → Option (Int32 × yS)
  | 0, _, _, _, _, _, _, _, _ => none
  | n + 1, N, S, l1, p2, p3, l4, l5, l6 => if (S.1 2 9) ≤ l6 then some (0, S) else gA 30 l6 fun j1 => gR (S.2.1 2 8) 30 (S.2.1 2 10 j1) fun j2 => if ¬ (S.1 ((384 + j2)) 5) = (S.1 p3 8) then f_X10_takeBags_117 N (fun S l1 p2 p3 l4 l5 l6 => f_X10_takeBags_40 n N S l1 p2 p3 l4 l5 l6) S l1 p2 p3 l4 l5 l6 else if l5 < (S.1 ((384 + j2)) 2) then f_X10_takeBags_117 N (fun S l1 p2 p3 l4 l5 l6 => f_X10_takeBags_40 n N S l1 p2 p3 l4 l5 l6) S l1 p2 p3 l4 l5 l6 else bV (f_X10_goesBy N S ((384 + j2)) p2 l4) fun w1 => if w1 = 0 then f_X10_takeBags_117 N (fun S l1 p2 p3 l4 l5 l6 => f_X10_takeBags_40 n N S l1 p2 p3 l4 l5 l6) S l1 p2 p3 l4 l5 l6 else bS (f_X0_embark N S ((384 + j2)) l1 (S.1 2 13)) fun w2 S1 => f_X10_takeBags_117 N (fun S l1 p2 p3 l4 l5 l6 => f_X10_takeBags_40 n N S l1 p2 p3 l4 l5 l6) S1 l1 p2 p3 l4 (l5 - (S1.1 ((384 + j2)) 2)) l6
set_option maxHeartbeats 4000000 in
set_option maxRecDepth 40000 in
theorem w_X10_takeBags_40 {F : xH} {ev : xEv} {prim : xRel} {d sz : Nat} {T : yT} {v : Int32} {S' : yS} (N : Nat) (n : Nat) : ∀ (S : yS) (l1 : Int32) (p2 : Nat) (p3 : Nat) (l4 : Int32) (l5 : Int32) (l6 : Int32) (hp : xH) (lv : xLv) (a0 : Nat) (a2 : Nat) (a3 : Nat) (fa0 : yAt T 10 2 0 a0) (fa2 : yAt T 3 p2 0 a2) (fa3 : yAt T 6 p3 0 a3) (g0 : xG lv 0 = some (.ref a0)) (g1 : xG lv 1 = some (.int l1)) (g2 : xG lv 2 = some (.ref a2)) (g3 : xG lv 3 = some (.ref a3)) (g4 : xG lv 4 = some (.int l4)) (g5 : xG lv 5 = some (.int l5)) (g6 : xG lv 6 = some (.int l6)) (hM : cR [0, 1, 2, 3, 4, 5, 6, 7] F ev T S hp) (h : f_X10_takeBags_40 n N S l1 p2 p3 l4 l5 l6 = some (v, S')), yWE ev.2.1 (xstr ev) (xCalls ev xmi (xprog ev) prim (d + 2)) (pX10_takeBags ev) (40, lv, [], hp, sz, 0) (ypQ [0, 1, 2, 3, 4, 5, 6, 7] F ev T sz (none) S') := by
  induction n with
  | zero => intro S l1 p2 p3 l4 l5 l6 hp lv a0 a2 a3 fa0 fa2 fa3 g0 g1 g2 g3 g4 g5 g6 hM h; exact n_some h
  | succ n ih =>
    intro S l1 p2 p3 l4 l5 l6 hp lv a0 a2 a3 fa0 fa2 fa3 g0 g1 g2 g3 g4 g5 g6 hM h
    unfold f_X10_takeBags_40 at h
    refine ye_iload rfl g6 ?_
    refine ye_aload rfl g0 ?_
    refine ye_getf rfl (hM.obj fa0 ⟨rfl, rfl⟩) rfl ?_
    refine ye_icmp_ge rfl (fun h1 => ?_) (fun h1 => ?_)
    · replace h := yiT h1 h
      exact ye_ret rfl rfl (rQV h hM)
    · replace h := yiN h1 h
      refine ye_aload rfl g0 ?_
      refine ye_getr rfl (hM.obj fa0 ⟨rfl, rfl⟩) rfl (fun cx1 ecx1 => ?_)
      have fcx1 := yAt.row fa0 ecx1
      refine ye_aload rfl g0 ?_
      refine ye_getr rfl (hM.obj fa0 ⟨rfl, rfl⟩) rfl (fun cx2 ecx2 => ?_)
      have fcx2 := yAt.row fa0 ecx2
      refine ye_iload rfl g6 ?_
      obtain ⟨j1, ej1, ij1, h⟩ := gA_some h
      refine yj_ald rfl (hM.arr fcx2 yr_10_10) ij1 ej1 ?_
      obtain ⟨j2, ej2, ij2, rj2, h⟩ := gR_some h
      refine ye_aaldR (t := 7) rfl (hM.arr fcx1 yr_10_8) ij2 ej2 rj2 (fun cx3 ecx3 => ?_)
      have fcx3 : yAt T 0 (384 + j2) 0 cx3 := ⟨hM.refd fcx1 yr_10_8 (by decide) rj2, oc_384 (by have := vp_lt ij2; omega), ecx3⟩
      refine ye_p rfl rfl ?_
      have g0_z1 := xG_o1 (i := 7) (v := .ref cx3) g0 rfl
      have g1_z1 := xG_o1 (i := 7) (v := .ref cx3) g1 rfl
      have g2_z1 := xG_o1 (i := 7) (v := .ref cx3) g2 rfl
      have g3_z1 := xG_o1 (i := 7) (v := .ref cx3) g3 rfl
      have g4_z1 := xG_o1 (i := 7) (v := .ref cx3) g4 rfl
      have g5_z1 := xG_o1 (i := 7) (v := .ref cx3) g5 rfl
      have g6_z1 := xG_o1 (i := 7) (v := .ref cx3) g6 rfl
      have g7_z1 := xG_same lv 7 (.ref cx3)
      generalize xSt1 lv 7 (.ref cx3) = lvz1 at g0_z1 g1_z1 g2_z1 g3_z1 g4_z1 g5_z1 g6_z1 g7_z1 ⊢
      refine ye_aload rfl g7_z1 ?_
      refine ye_getf rfl (hM.obj fcx3 ⟨rfl, rfl⟩) rfl ?_
      refine ye_aload rfl g3_z1 ?_
      refine ye_getf rfl (hM.obj fa3 ⟨rfl, rfl⟩) rfl ?_
      refine ye_icmp_ne rfl (fun h2 => ?_) (fun h2 => ?_)
      · replace h := yiT h2 h
        exact w_X10_takeBags_117 (prim := prim) (d := d) N (fun S l1 p2 p3 l4 l5 l6 => f_X10_takeBags_40 n N S l1 p2 p3 l4 l5 l6) ih S l1 p2 p3 l4 l5 l6 hp lvz1 a0 a2 a3 fa0 fa2 fa3 g0_z1 g1_z1 g2_z1 g3_z1 g4_z1 g5_z1 g6_z1 hM h
      · replace h := yiN h2 h
        refine ye_aload rfl g7_z1 ?_
        refine ye_getf rfl (hM.obj fcx3 ⟨rfl, rfl⟩) rfl ?_
        refine ye_iload rfl g5_z1 ?_
        refine ye_icmp_gt rfl (fun h3 => ?_) (fun h3 => ?_)
        · replace h := yiT h3 h
          exact w_X10_takeBags_117 (prim := prim) (d := d) N (fun S l1 p2 p3 l4 l5 l6 => f_X10_takeBags_40 n N S l1 p2 p3 l4 l5 l6) ih S l1 p2 p3 l4 l5 l6 hp lvz1 a0 a2 a3 fa0 fa2 fa3 g0_z1 g1_z1 g2_z1 g3_z1 g4_z1 g5_z1 g6_z1 hM h
        · replace h := yiN h3 h
          refine ye_aload rfl g0_z1 ?_
          refine ye_aload rfl g7_z1 ?_
          refine ye_aload rfl g2_z1 ?_
          refine ye_iload rfl g4_z1 ?_
          obtain ⟨w1, hw1, h⟩ := bV_some h
          refine ye_callV (As := [.ref cx3, .ref a2, .int l4]) (rest := []) 0 (Or.inl rfl) rfl rfl rfl (Nat.le_of_ble_eq_true rfl) (hM.obj fa0 ⟨rfl, rfl⟩) ((m_X10_goesBy (d := d + 0) (T := T) N S ((384 + j2)) p2 l4 a0 cx3 a2 fa0 fcx3 fa2 hw1) hp sz hM) ?_
          refine ye_if_eq rfl (fun h4 => ?_) (fun h4 => ?_)
          · replace h := yiT h4 h
            exact w_X10_takeBags_117 (prim := prim) (d := d) N (fun S l1 p2 p3 l4 l5 l6 => f_X10_takeBags_40 n N S l1 p2 p3 l4 l5 l6) ih S l1 p2 p3 l4 l5 l6 hp lvz1 a0 a2 a3 fa0 fa2 fa3 g0_z1 g1_z1 g2_z1 g3_z1 g4_z1 g5_z1 g6_z1 hM h
          · replace h := yiN h4 h
            refine ye_aload rfl g7_z1 ?_
            refine ye_iload rfl g1_z1 ?_
            refine ye_aload rfl g0_z1 ?_
            refine ye_getf rfl (hM.obj fa0 ⟨rfl, rfl⟩) rfl ?_
            obtain ⟨w2, S1, hw2, h⟩ := bS_some h
            obtain ⟨y1, cy1, M1⟩ := (m_X0_embark (d := d + 0) (T := T) N S ((384 + j2)) l1 (S.1 2 13) cx3 fcx3 hw2) hp sz hM
            refine ye_callV (As := [.int l1, .int (S.1 2 13)]) (rest := []) 0 (Or.inl rfl) rfl rfl rfl (Nat.le_of_ble_eq_true rfl) (hM.obj fcx3 ⟨rfl, rfl⟩) cy1 ?_
            refine ye_iload rfl g5_z1 ?_
            refine ye_aload rfl g7_z1 ?_
            refine ye_getf rfl (M1.obj fcx3 ⟨rfl, rfl⟩) rfl ?_
            refine ye_p rfl rfl ?_
            refine ye_p rfl rfl ?_
            have g0_z2 := xG_o1 (i := 5) (v := .int (l5 - (S1.1 ((384 + j2)) 2))) g0_z1 rfl
            have g1_z2 := xG_o1 (i := 5) (v := .int (l5 - (S1.1 ((384 + j2)) 2))) g1_z1 rfl
            have g2_z2 := xG_o1 (i := 5) (v := .int (l5 - (S1.1 ((384 + j2)) 2))) g2_z1 rfl
            have g3_z2 := xG_o1 (i := 5) (v := .int (l5 - (S1.1 ((384 + j2)) 2))) g3_z1 rfl
            have g4_z2 := xG_o1 (i := 5) (v := .int (l5 - (S1.1 ((384 + j2)) 2))) g4_z1 rfl
            have g6_z2 := xG_o1 (i := 5) (v := .int (l5 - (S1.1 ((384 + j2)) 2))) g6_z1 rfl
            have g5_z2 := xG_same lvz1 5 (.int (l5 - (S1.1 ((384 + j2)) 2)))
            generalize xSt1 lvz1 5 (.int (l5 - (S1.1 ((384 + j2)) 2))) = lvz2 at g0_z2 g1_z2 g2_z2 g3_z2 g4_z2 g6_z2 g5_z2 ⊢
            exact w_X10_takeBags_117 (prim := prim) (d := d) N (fun S l1 p2 p3 l4 l5 l6 => f_X10_takeBags_40 n N S l1 p2 p3 l4 l5 l6) ih S1 l1 p2 p3 l4 (l5 - (S1.1 ((384 + j2)) 2)) l6 y1 lvz2 a0 a2 a3 fa0 fa2 fa3 g0_z2 g1_z2 g2_z2 g3_z2 g4_z2 g5_z2 g6_z2 M1 h

def f_X10_takeBags_24 (N : Nat) (S : yS) (l1 : Int32) (p2 : Nat) (p3 : Nat) (q0 : Nat) (t1 : Int32) : Option (Int32 × yS) := bV (f_X3_goal N S q0 t1) fun w1 => bV (f_X10_carriedAtMost N S p3 p2) fun w2 => f_X10_takeBags_40 N N S l1 p2 p3 w1 w2 0
set_option maxHeartbeats 4000000 in
set_option maxRecDepth 40000 in
theorem w_X10_takeBags_24 {F : xH} {ev : xEv} {prim : xRel} {d sz : Nat} {T : yT} {v : Int32} {S' : yS} (N : Nat) (S : yS) (l1 : Int32) (p2 : Nat) (p3 : Nat) (q0 : Nat) (t1 : Int32) (hp : xH) (lv : xLv) (a0 : Nat) (a2 : Nat) (a3 : Nat) (b0 : Nat) (fa0 : yAt T 10 2 0 a0) (fa2 : yAt T 3 p2 0 a2) (fa3 : yAt T 6 p3 0 a3) (fb0 : yAt T 3 q0 0 b0) (g0 : xG lv 0 = some (.ref a0)) (g1 : xG lv 1 = some (.int l1)) (g2 : xG lv 2 = some (.ref a2)) (g3 : xG lv 3 = some (.ref a3)) (hM : cR [0, 1, 2, 3, 4, 5, 6, 7] F ev T S hp) (h : f_X10_takeBags_24 N S l1 p2 p3 q0 t1 = some (v, S')) : yWE ev.2.1 (xstr ev) (xCalls ev xmi (xprog ev) prim (d + 2)) (pX10_takeBags ev) (24, lv, [.int t1, .ref b0], hp, sz, 0) (ypQ [0, 1, 2, 3, 4, 5, 6, 7] F ev T sz (none) S') := by
  unfold f_X10_takeBags_24 at h
  obtain ⟨w1, hw1, h⟩ := bV_some h
  refine ye_callV (As := [.int t1]) (rest := []) 0 (Or.inl rfl) rfl rfl rfl (Nat.le_of_ble_eq_true rfl) (hM.obj fb0 ⟨rfl, rfl⟩) ((m_X3_goal (d := d + 1) (T := T) N S q0 t1 b0 fb0 hw1) hp sz hM) ?_
  refine ye_p rfl rfl ?_
  have g0_z1 := xG_o1 (i := 4) (v := .int w1) g0 rfl
  have g1_z1 := xG_o1 (i := 4) (v := .int w1) g1 rfl
  have g2_z1 := xG_o1 (i := 4) (v := .int w1) g2 rfl
  have g3_z1 := xG_o1 (i := 4) (v := .int w1) g3 rfl
  have g4_z1 := xG_same lv 4 (.int w1)
  generalize xSt1 lv 4 (.int w1) = lvz1 at g0_z1 g1_z1 g2_z1 g3_z1 g4_z1 ⊢
  refine ye_aload rfl g0_z1 ?_
  refine ye_aload rfl g3_z1 ?_
  refine ye_aload rfl g2_z1 ?_
  obtain ⟨w2, hw2, h⟩ := bV_some h
  refine ye_callV (As := [.ref a3, .ref a2]) (rest := []) 0 (Or.inl rfl) rfl rfl rfl (Nat.le_of_ble_eq_true rfl) (hM.obj fa0 ⟨rfl, rfl⟩) ((m_X10_carriedAtMost (d := d + 1) (T := T) N S p3 p2 a0 a3 a2 fa0 fa3 fa2 hw2) hp sz hM) ?_
  refine ye_p rfl rfl ?_
  have g0_z2 := xG_o1 (i := 5) (v := .int w2) g0_z1 rfl
  have g1_z2 := xG_o1 (i := 5) (v := .int w2) g1_z1 rfl
  have g2_z2 := xG_o1 (i := 5) (v := .int w2) g2_z1 rfl
  have g3_z2 := xG_o1 (i := 5) (v := .int w2) g3_z1 rfl
  have g4_z2 := xG_o1 (i := 5) (v := .int w2) g4_z1 rfl
  have g5_z2 := xG_same lvz1 5 (.int w2)
  generalize xSt1 lvz1 5 (.int w2) = lvz2 at g0_z2 g1_z2 g2_z2 g3_z2 g4_z2 g5_z2 ⊢
  refine ye_p rfl rfl ?_
  refine ye_p rfl rfl ?_
  have g0_z3 := xG_o1 (i := 6) (v := .int 0) g0_z2 rfl
  have g1_z3 := xG_o1 (i := 6) (v := .int 0) g1_z2 rfl
  have g2_z3 := xG_o1 (i := 6) (v := .int 0) g2_z2 rfl
  have g3_z3 := xG_o1 (i := 6) (v := .int 0) g3_z2 rfl
  have g4_z3 := xG_o1 (i := 6) (v := .int 0) g4_z2 rfl
  have g5_z3 := xG_o1 (i := 6) (v := .int 0) g5_z2 rfl
  have g6_z3 := xG_same lvz2 6 (.int 0)
  generalize xSt1 lvz2 6 (.int 0) = lvz3 at g0_z3 g1_z3 g2_z3 g3_z3 g4_z3 g5_z3 g6_z3 ⊢
  exact w_X10_takeBags_40 (prim := prim) (d := d) N N S l1 p2 p3 w1 w2 0 hp lvz3 a0 a2 a3 fa0 fa2 fa3 g0_z3 g1_z3 g2_z3 g3_z3 g4_z3 g5_z3 g6_z3 hM h

def f_X10_takeBags_0 (N : Nat) (S : yS) (l1 : Int32) (p2 : Nat) : Option (Int32 × yS) := gR (S.2.1 2 4) 8 l1 fun j1 => if ¬ (S.1 ((128 + j1)) 8) = (S.1 p2 0) then f_X10_takeBags_24 N S l1 p2 ((128 + j1)) p2 0 else f_X10_takeBags_24 N S l1 p2 ((128 + j1)) p2 1
set_option maxHeartbeats 4000000 in
set_option maxRecDepth 40000 in
theorem w_X10_takeBags_0 {F : xH} {ev : xEv} {prim : xRel} {d sz : Nat} {T : yT} {v : Int32} {S' : yS} (N : Nat) (S : yS) (l1 : Int32) (p2 : Nat) (hp : xH) (lv : xLv) (a0 : Nat) (a2 : Nat) (fa0 : yAt T 10 2 0 a0) (fa2 : yAt T 3 p2 0 a2) (g0 : xG lv 0 = some (.ref a0)) (g1 : xG lv 1 = some (.int l1)) (g2 : xG lv 2 = some (.ref a2)) (hM : cR [0, 1, 2, 3, 4, 5, 6, 7] F ev T S hp) (h : f_X10_takeBags_0 N S l1 p2 = some (v, S')) : yWE ev.2.1 (xstr ev) (xCalls ev xmi (xprog ev) prim (d + 2)) (pX10_takeBags ev) (0, lv, [], hp, sz, 0) (ypQ [0, 1, 2, 3, 4, 5, 6, 7] F ev T sz (none) S') := by
  unfold f_X10_takeBags_0 at h
  refine ye_aload rfl g0 ?_
  refine ye_getr rfl (hM.obj fa0 ⟨rfl, rfl⟩) rfl (fun cx1 ecx1 => ?_)
  have fcx1 := yAt.row fa0 ecx1
  refine ye_iload rfl g1 ?_
  obtain ⟨j1, ej1, ij1, rj1, h⟩ := gR_some h
  refine ye_aaldR (t := 5) rfl (hM.arr fcx1 yr_10_4) ij1 ej1 rj1 (fun cx2 ecx2 => ?_)
  have fcx2 : yAt T 6 (128 + j1) 0 cx2 := ⟨hM.refd fcx1 yr_10_4 (by decide) rj1, oc_128 (by have := vp_lt ij1; omega), ecx2⟩
  refine ye_p rfl rfl ?_
  have g0_z1 := xG_o1 (i := 3) (v := .ref cx2) g0 rfl
  have g1_z1 := xG_o1 (i := 3) (v := .ref cx2) g1 rfl
  have g2_z1 := xG_o1 (i := 3) (v := .ref cx2) g2 rfl
  have g3_z1 := xG_same lv 3 (.ref cx2)
  generalize xSt1 lv 3 (.ref cx2) = lvz1 at g0_z1 g1_z1 g2_z1 g3_z1 ⊢
  refine ye_aload rfl g2_z1 ?_
  refine ye_aload rfl g3_z1 ?_
  refine ye_getf rfl (hM.obj fcx2 ⟨rfl, rfl⟩) rfl ?_
  refine ye_aload rfl g2_z1 ?_
  refine ye_getf rfl (hM.obj fa2 ⟨rfl, rfl⟩) rfl ?_
  refine ye_icmp_ne rfl (fun h1 => ?_) (fun h1 => ?_)
  · replace h := yiT h1 h
    refine ye_p rfl rfl ?_
    exact w_X10_takeBags_24 (prim := prim) (d := d) N S l1 p2 ((128 + j1)) p2 0 hp lvz1 a0 a2 cx2 a2 fa0 fa2 fcx2 fa2 g0_z1 g1_z1 g2_z1 g3_z1 hM h
  · replace h := yiN h1 h
    refine ye_p rfl rfl ?_
    refine ye_p rfl rfl ?_
    exact w_X10_takeBags_24 (prim := prim) (d := d) N S l1 p2 ((128 + j1)) p2 1 hp lvz1 a0 a2 cx2 a2 fa0 fa2 fcx2 fa2 g0_z1 g1_z1 g2_z1 g3_z1 hM h
def f_X10_takeBags (N : Nat) (S : yS) (xl1 : Int32) (xp2 : Nat) : Option (Int32 × yS) := f_X10_takeBags_0 N S xl1 xp2
theorem m_X10_takeBags {F : xH} {ev : xEv} {prim : xRel} {d : Nat} {T : yT} {v : Int32} {S' : yS} (N : Nat) (S : yS) (xl1 : Int32) (xp2 : Nat) (a0 : Nat) (a2 : Nat) (fa0 : yAt T 10 2 0 a0) (fa2 : yAt T 3 xp2 0 a2) (h : f_X10_takeBags N S xl1 xp2 = some (v, S')) : ykQ [0, 1, 2, 3, 4, 5, 6, 7] F ev prim (d + 3) 107 T S [.ref a0, .int xl1, .ref a2] (none) S' :=
  ykQ.of (pg_107 ev) mi_107 (Nat.le_of_ble_eq_true rfl) (fun hp sz hM => w_X10_takeBags_0 (prim := prim) (d := d) N S xl1 xp2 hp _ a0 a2 fa0 fa2 rfl rfl rfl hM h)

def f_X10_windFor_29 (N : Nat) (S : yS) (t0 : Int32) : Option Int32 := some t0
set_option maxHeartbeats 4000000 in
set_option maxRecDepth 40000 in
theorem w_X10_windFor_29 {F : xH} {ev : xEv} {prim : xRel} {d sz : Nat} {T : yT} {v : Int32} {hp : xH} (N : Nat) (S : yS) (t0 : Int32) (lv : xLv) (hM : cR [0, 1, 2, 3, 4, 5, 6, 7] F ev T S hp) (h : f_X10_windFor_29 N S t0 = some v) : yWE ev.2.1 (xstr ev) (xCalls ev xmi (xprog ev) prim (d + 2)) (pX10_windFor ev) (29, lv, [.int t0], hp, sz, 0) (ypP hp sz (.int v)) := by
  unfold f_X10_windFor_29 at h
  exact ye_ret rfl rfl (rP h)

def f_X10_windFor_0 (N : Nat) (S : yS) (p1 : Nat) : Option Int32 := bV (f_X2_windAt N S (S.1 p1 9) (S.1 2 13)) fun w1 => if (S.1 p1 11) = 0 then f_X10_windFor_29 N S (-w1) else f_X10_windFor_29 N S w1
set_option maxHeartbeats 4000000 in
set_option maxRecDepth 40000 in
theorem w_X10_windFor_0 {F : xH} {ev : xEv} {prim : xRel} {d sz : Nat} {T : yT} {v : Int32} {hp : xH} (N : Nat) (S : yS) (p1 : Nat) (lv : xLv) (a0 : Nat) (a1 : Nat) (fa0 : yAt T 10 2 0 a0) (fa1 : yAt T 6 p1 0 a1) (g0 : xG lv 0 = some (.ref a0)) (g1 : xG lv 1 = some (.ref a1)) (hM : cR [0, 1, 2, 3, 4, 5, 6, 7] F ev T S hp) (h : f_X10_windFor_0 N S p1 = some v) : yWE ev.2.1 (xstr ev) (xCalls ev xmi (xprog ev) prim (d + 2)) (pX10_windFor ev) (0, lv, [], hp, sz, 0) (ypP hp sz (.int v)) := by
  unfold f_X10_windFor_0 at h
  refine ye_aload rfl g0 ?_
  refine ye_getr rfl (hM.obj fa0 ⟨rfl, rfl⟩) rfl (fun cx1 ecx1 => ?_)
  have fcx1 := hM.root 2 0 (by decide) rfl ecx1
  refine ye_aload rfl g1 ?_
  refine ye_getf rfl (hM.obj fa1 ⟨rfl, rfl⟩) rfl ?_
  refine ye_aload rfl g0 ?_
  refine ye_getf rfl (hM.obj fa0 ⟨rfl, rfl⟩) rfl ?_
  obtain ⟨w1, hw1, h⟩ := bV_some h
  refine ye_callV (As := [.int (S.1 p1 9), .int (S.1 2 13)]) (rest := []) 0 (Or.inl rfl) rfl rfl rfl (Nat.le_of_ble_eq_true rfl) (hM.obj fcx1 ⟨rfl, rfl⟩) ((m_X2_windAt (d := d + 0) (T := T) N S (S.1 p1 9) (S.1 2 13) cx1 fcx1 hw1) hp sz hM) ?_
  refine ye_p rfl rfl ?_
  have g1_z1 := xG_o1 (i := 2) (v := .int w1) g1 rfl
  have g2_z1 := xG_same lv 2 (.int w1)
  generalize xSt1 lv 2 (.int w1) = lvz1 at g1_z1 g2_z1 ⊢
  refine ye_aload rfl g1_z1 ?_
  refine ye_getf rfl (hM.obj fa1 ⟨rfl, rfl⟩) rfl ?_
  refine ye_if_eq rfl (fun h1 => ?_) (fun h1 => ?_)
  · replace h := yiT h1 h
    refine ye_iload rfl g2_z1 ?_
    refine ye_p rfl rfl ?_
    exact w_X10_windFor_29 (prim := prim) (d := d) N S (-w1) lvz1 hM h
  · replace h := yiN h1 h
    refine ye_iload rfl g2_z1 ?_
    refine ye_p rfl rfl ?_
    exact w_X10_windFor_29 (prim := prim) (d := d) N S w1 lvz1 hM h
def f_X10_windFor (N : Nat) (S : yS) (xp1 : Nat) : Option Int32 := f_X10_windFor_0 N S xp1
theorem m_X10_windFor {F : xH} {ev : xEv} {prim : xRel} {d : Nat} {T : yT} {v : Int32} (N : Nat) (S : yS) (xp1 : Nat) (a0 : Nat) (a1 : Nat) (fa0 : yAt T 10 2 0 a0) (fa1 : yAt T 6 xp1 0 a1) (h : f_X10_windFor N S xp1 = some v) : ykP [0, 1, 2, 3, 4, 5, 6, 7] F ev prim (d + 3) 111 T S [.ref a0, .ref a1] (.int v) :=
  ykP.of (pg_111 ev) mi_111 (Nat.le_of_ble_eq_true rfl) (fun hp sz hM => w_X10_windFor_0 (prim := prim) (d := d) N S xp1 _ a0 a1 fa0 fa1 rfl rfl hM h)

def f_X10_reachesField_62 (N : Nat) (S : yS) (q0 : Nat) (t1 : Int32) (t2 : Int32) : Option (Int32 × yS) := sq (yI S q0 10 (t1 + t2)) fun S1 => some (0, S1)
set_option maxHeartbeats 4000000 in
set_option maxRecDepth 40000 in
theorem w_X10_reachesField_62 {F : xH} {ev : xEv} {prim : xRel} {d sz : Nat} {T : yT} {v : Int32} {S' : yS} (N : Nat) (S : yS) (q0 : Nat) (t1 : Int32) (t2 : Int32) (hp : xH) (lv : xLv) (b0 : Nat) (fb0 : yAt T 6 q0 0 b0) (hM : cR [0, 1, 2, 3, 4, 5, 6, 7] F ev T S hp) (h : f_X10_reachesField_62 N S q0 t1 t2 = some (v, S')) : yWE ev.2.1 (xstr ev) (xCalls ev xmi (xprog ev) prim (d + 3)) (pX10_reachesField ev) (62, lv, [.int t2, .int t1, .ref b0], hp, sz, 0) (ypQ [0, 1, 2, 3, 4, 5, 6, 7] F ev T sz (some (.int v)) S') := by
  unfold f_X10_reachesField_62 at h
  refine ye_p rfl rfl ?_
  obtain ⟨S1, eS1, h⟩ := sq_some h
  refine yw_putI rfl hM fb0 rfl ⟨rfl, rfl⟩ (Nat.le_of_ble_eq_true rfl) rfl rfl (ys_6_10 ev T _ (t1 + t2)) (fun q => absurd q (by decide)) eS1 (fun y1 M1 => ?_)
  refine ye_p rfl rfl ?_
  exact ye_ret rfl rfl (rQ h M1)

def f_X10_reachesField_0 (N : Nat) (S : yS) (p1 : Nat) : Option (Int32 × yS) := bV (f_X10_windFor N S p1) fun w1 => gR (S.2.1 1 4) 12 (S.1 p1 9) fun j1 => bV (f_X3_toGo N S ((64 + j1)) (S.1 p1 10) (S.1 p1 11)) fun w2 => if (if 1 < ((S.1 p1 0) + w1) then ((S.1 p1 0) + w1) else 1) < w2 then if (S.1 p1 11) = 0 then f_X10_reachesField_62 N S p1 (S.1 p1 10) (-(if 1 < ((S.1 p1 0) + w1) then ((S.1 p1 0) + w1) else 1)) else f_X10_reachesField_62 N S p1 (S.1 p1 10) (if 1 < ((S.1 p1 0) + w1) then ((S.1 p1 0) + w1) else 1) else some (1, S)
set_option maxHeartbeats 4000000 in
set_option maxRecDepth 40000 in
theorem w_X10_reachesField_0 {F : xH} {ev : xEv} {prim : xRel} {d sz : Nat} {T : yT} {v : Int32} {S' : yS} (N : Nat) (S : yS) (p1 : Nat) (hp : xH) (lv : xLv) (a0 : Nat) (a1 : Nat) (fa0 : yAt T 10 2 0 a0) (fa1 : yAt T 6 p1 0 a1) (g0 : xG lv 0 = some (.ref a0)) (g1 : xG lv 1 = some (.ref a1)) (hM : cR [0, 1, 2, 3, 4, 5, 6, 7] F ev T S hp) (h : f_X10_reachesField_0 N S p1 = some (v, S')) : yWE ev.2.1 (xstr ev) (xCalls ev xmi (xprog ev) prim (d + 3)) (pX10_reachesField ev) (0, lv, [], hp, sz, 0) (ypQ [0, 1, 2, 3, 4, 5, 6, 7] F ev T sz (some (.int v)) S') := by
  unfold f_X10_reachesField_0 at h
  refine ye_p rfl rfl ?_
  refine ye_aload rfl g1 ?_
  refine ye_getf rfl (hM.obj fa1 ⟨rfl, rfl⟩) rfl ?_
  refine ye_aload rfl g0 ?_
  refine ye_aload rfl g1 ?_
  obtain ⟨w1, hw1, h⟩ := bV_some h
  refine ye_callV (As := [.ref a1]) (rest := [.int (S.1 p1 0), .int 1]) 0 (Or.inl rfl) rfl rfl rfl (Nat.le_of_ble_eq_true rfl) (hM.obj fa0 ⟨rfl, rfl⟩) ((m_X10_windFor (d := d + 0) (T := T) N S p1 a0 a1 fa0 fa1 hw1) hp sz hM) ?_
  refine ye_p rfl rfl ?_
  refine ye_p rfl rfl ?_
  refine ye_p rfl rfl ?_
  have g0_z1 := xG_o1 (i := 2) (v := .int (if 1 < ((S.1 p1 0) + w1) then ((S.1 p1 0) + w1) else 1)) g0 rfl
  have g1_z1 := xG_o1 (i := 2) (v := .int (if 1 < ((S.1 p1 0) + w1) then ((S.1 p1 0) + w1) else 1)) g1 rfl
  have g2_z1 := xG_same lv 2 (.int (if 1 < ((S.1 p1 0) + w1) then ((S.1 p1 0) + w1) else 1))
  generalize xSt1 lv 2 (.int (if 1 < ((S.1 p1 0) + w1) then ((S.1 p1 0) + w1) else 1)) = lvz1 at g0_z1 g1_z1 g2_z1 ⊢
  refine ye_iload rfl g2_z1 ?_
  refine ye_aload rfl g0_z1 ?_
  refine ye_getr rfl (hM.obj fa0 ⟨rfl, rfl⟩) rfl (fun cx1 ecx1 => ?_)
  have fcx1 := hM.root 2 0 (by decide) rfl ecx1
  refine ye_getr rfl (hM.obj fcx1 ⟨rfl, rfl⟩) rfl (fun cx2 ecx2 => ?_)
  have fcx2 := yAt.row fcx1 ecx2
  refine ye_aload rfl g1_z1 ?_
  refine ye_getf rfl (hM.obj fa1 ⟨rfl, rfl⟩) rfl ?_
  obtain ⟨j1, ej1, ij1, rj1, h⟩ := gR_some h
  refine ye_aaldR (t := 4) rfl (hM.arr fcx2 yr_2_4) ij1 ej1 rj1 (fun cx3 ecx3 => ?_)
  have fcx3 : yAt T 3 (64 + j1) 0 cx3 := ⟨hM.refd fcx2 yr_2_4 (by decide) rj1, oc_64 (by have := vp_lt ij1; omega), ecx3⟩
  refine ye_aload rfl g1_z1 ?_
  refine ye_getf rfl (hM.obj fa1 ⟨rfl, rfl⟩) rfl ?_
  refine ye_aload rfl g1_z1 ?_
  refine ye_getf rfl (hM.obj fa1 ⟨rfl, rfl⟩) rfl ?_
  obtain ⟨w2, hw2, h⟩ := bV_some h
  refine ye_callV (As := [.int (S.1 p1 10), .int (S.1 p1 11)]) (rest := [.int (if 1 < ((S.1 p1 0) + w1) then ((S.1 p1 0) + w1) else 1)]) 0 (Or.inl rfl) rfl rfl rfl (Nat.le_of_ble_eq_true rfl) (hM.obj fcx3 ⟨rfl, rfl⟩) ((m_X3_toGo (d := d + 2) (T := T) N S ((64 + j1)) (S.1 p1 10) (S.1 p1 11) cx3 fcx3 hw2) hp sz hM) ?_
  refine ye_icmp_lt rfl (fun h1 => ?_) (fun h1 => ?_)
  · replace h := yiT h1 h
    refine ye_aload rfl g1_z1 ?_
    refine ye_p rfl rfl ?_
    refine ye_getf rfl (hM.obj fa1 ⟨rfl, rfl⟩) rfl ?_
    refine ye_aload rfl g1_z1 ?_
    refine ye_getf rfl (hM.obj fa1 ⟨rfl, rfl⟩) rfl ?_
    refine ye_if_eq rfl (fun h2 => ?_) (fun h2 => ?_)
    · replace h := yiT h2 h
      refine ye_iload rfl g2_z1 ?_
      refine ye_p rfl rfl ?_
      exact w_X10_reachesField_62 (prim := prim) (d := d) N S p1 (S.1 p1 10) (-(if 1 < ((S.1 p1 0) + w1) then ((S.1 p1 0) + w1) else 1)) hp lvz1 a1 fa1 hM h
    · replace h := yiN h2 h
      refine ye_iload rfl g2_z1 ?_
      refine ye_p rfl rfl ?_
      exact w_X10_reachesField_62 (prim := prim) (d := d) N S p1 (S.1 p1 10) (if 1 < ((S.1 p1 0) + w1) then ((S.1 p1 0) + w1) else 1) hp lvz1 a1 fa1 hM h
  · replace h := yiN h1 h
    refine ye_p rfl rfl ?_
    exact ye_ret rfl rfl (rQ h hM)
def f_X10_reachesField (N : Nat) (S : yS) (xp1 : Nat) : Option (Int32 × yS) := f_X10_reachesField_0 N S xp1
theorem m_X10_reachesField {F : xH} {ev : xEv} {prim : xRel} {d : Nat} {T : yT} {v : Int32} {S' : yS} (N : Nat) (S : yS) (xp1 : Nat) (a0 : Nat) (a1 : Nat) (fa0 : yAt T 10 2 0 a0) (fa1 : yAt T 6 xp1 0 a1) (h : f_X10_reachesField N S xp1 = some (v, S')) : ykQ [0, 1, 2, 3, 4, 5, 6, 7] F ev prim (d + 4) 112 T S [.ref a0, .ref a1] (some (.int v)) S' :=
  ykQ.of (pg_112 ev) mi_112 (Nat.le_of_ble_eq_true rfl) (fun hp sz hM => w_X10_reachesField_0 (prim := prim) (d := d) N S xp1 hp _ a0 a1 fa0 fa1 rfl rfl hM h)

def f_X10_comeIn_36 (N : Nat) (S : yS) (p1 : Nat) (l2 : Int32) (l3 : Int32) : Option (Int32 × yS) := gR (S.2.1 2 11) 24 (S.1 p1 17) fun j1 => bS (f_X1_finish N S ((512 + j1)) 2 (S.1 2 13)) fun w1 S1 => bV (f_X2_cloudAt N S1 l3 (S1.1 2 13)) fun w2 => bV (f_X2_windAt N S1 l3 (S1.1 2 13)) fun w3 => bS (f_X9_come N S1 l2 (S1.1 2 13) l3 (S1.1 2 13) w2 w3) fun w4 S2 => some (0, S2)
set_option maxHeartbeats 4000000 in
set_option maxRecDepth 40000 in
theorem w_X10_comeIn_36 {F : xH} {ev : xEv} {prim : xRel} {d sz : Nat} {T : yT} {v : Int32} {S' : yS} (N : Nat) (S : yS) (p1 : Nat) (l2 : Int32) (l3 : Int32) (hp : xH) (lv : xLv) (a0 : Nat) (a1 : Nat) (fa0 : yAt T 10 2 0 a0) (fa1 : yAt T 6 p1 0 a1) (g0 : xG lv 0 = some (.ref a0)) (g1 : xG lv 1 = some (.ref a1)) (g2 : xG lv 2 = some (.int l2)) (g3 : xG lv 3 = some (.int l3)) (hM : cR [0, 1, 2, 3, 4, 5, 6, 7] F ev T S hp) (h : f_X10_comeIn_36 N S p1 l2 l3 = some (v, S')) : yWE ev.2.1 (xstr ev) (xCalls ev xmi (xprog ev) prim (d + 2)) (pX10_comeIn ev) (36, lv, [], hp, sz, 0) (ypQ [0, 1, 2, 3, 4, 5, 6, 7] F ev T sz (none) S') := by
  unfold f_X10_comeIn_36 at h
  refine ye_aload rfl g0 ?_
  refine ye_getr rfl (hM.obj fa0 ⟨rfl, rfl⟩) rfl (fun cx1 ecx1 => ?_)
  have fcx1 := yAt.row fa0 ecx1
  refine ye_aload rfl g1 ?_
  refine ye_getf rfl (hM.obj fa1 ⟨rfl, rfl⟩) rfl ?_
  obtain ⟨j1, ej1, ij1, rj1, h⟩ := gR_some h
  refine ye_aaldR (t := 8) rfl (hM.arr fcx1 yr_10_11) ij1 ej1 rj1 (fun cx2 ecx2 => ?_)
  have fcx2 : yAt T 1 (512 + j1) 0 cx2 := ⟨hM.refd fcx1 yr_10_11 (by decide) rj1, oc_512 (by have := vp_lt ij1; omega), ecx2⟩
  refine ye_p rfl rfl ?_
  refine ye_aload rfl g0 ?_
  refine ye_getf rfl (hM.obj fa0 ⟨rfl, rfl⟩) rfl ?_
  obtain ⟨w1, S1, hw1, h⟩ := bS_some h
  obtain ⟨y1, cy1, M1⟩ := (m_X1_finish (d := d + 1) (T := T) N S ((512 + j1)) 2 (S.1 2 13) cx2 fcx2 hw1) hp sz hM
  refine ye_callV (As := [.int 2, .int (S.1 2 13)]) (rest := []) 0 (Or.inl rfl) rfl rfl rfl (Nat.le_of_ble_eq_true rfl) (hM.obj fcx2 ⟨rfl, rfl⟩) cy1 ?_
  refine ye_aload rfl g0 ?_
  refine ye_getr rfl (M1.obj fa0 ⟨rfl, rfl⟩) rfl (fun cx3 ecx3 => ?_)
  have fcx3 := M1.root 9 0 (by decide) rfl ecx3
  refine ye_iload rfl g2 ?_
  refine ye_aload rfl g0 ?_
  refine ye_getf rfl (M1.obj fa0 ⟨rfl, rfl⟩) rfl ?_
  refine ye_iload rfl g3 ?_
  refine ye_aload rfl g0 ?_
  refine ye_getf rfl (M1.obj fa0 ⟨rfl, rfl⟩) rfl ?_
  refine ye_aload rfl g0 ?_
  refine ye_getr rfl (M1.obj fa0 ⟨rfl, rfl⟩) rfl (fun cx4 ecx4 => ?_)
  have fcx4 := M1.root 2 0 (by decide) rfl ecx4
  refine ye_iload rfl g3 ?_
  refine ye_aload rfl g0 ?_
  refine ye_getf rfl (M1.obj fa0 ⟨rfl, rfl⟩) rfl ?_
  obtain ⟨w2, hw2, h⟩ := bV_some h
  refine ye_callV (As := [.int l3, .int (S1.1 2 13)]) (rest := [.int (S1.1 2 13), .int l3, .int (S1.1 2 13), .int l2, .ref cx3]) 0 (Or.inl rfl) rfl rfl rfl (Nat.le_of_ble_eq_true rfl) (M1.obj fcx4 ⟨rfl, rfl⟩) ((m_X2_cloudAt (d := d + 0) (T := T) N S1 l3 (S1.1 2 13) cx4 fcx4 hw2) y1 sz M1) ?_
  refine ye_aload rfl g0 ?_
  refine ye_getr rfl (M1.obj fa0 ⟨rfl, rfl⟩) rfl (fun cx5 ecx5 => ?_)
  have fcx5 := M1.root 2 0 (by decide) rfl ecx5
  refine ye_iload rfl g3 ?_
  refine ye_aload rfl g0 ?_
  refine ye_getf rfl (M1.obj fa0 ⟨rfl, rfl⟩) rfl ?_
  obtain ⟨w3, hw3, h⟩ := bV_some h
  refine ye_callV (As := [.int l3, .int (S1.1 2 13)]) (rest := [.int w2, .int (S1.1 2 13), .int l3, .int (S1.1 2 13), .int l2, .ref cx3]) 0 (Or.inl rfl) rfl rfl rfl (Nat.le_of_ble_eq_true rfl) (M1.obj fcx5 ⟨rfl, rfl⟩) ((m_X2_windAt (d := d + 0) (T := T) N S1 l3 (S1.1 2 13) cx5 fcx5 hw3) y1 sz M1) ?_
  obtain ⟨w4, S2, hw4, h⟩ := bS_some h
  obtain ⟨y2, cy2, M2⟩ := (m_X9_come (d := d + 1) (T := T) N S1 l2 (S1.1 2 13) l3 (S1.1 2 13) w2 w3 cx3 fcx3 hw4) y1 sz M1
  refine ye_callV (As := [.int l2, .int (S1.1 2 13), .int l3, .int (S1.1 2 13), .int w2, .int w3]) (rest := []) 0 (Or.inl rfl) rfl rfl rfl (Nat.le_of_ble_eq_true rfl) (M1.obj fcx3 ⟨rfl, rfl⟩) cy2 ?_
  exact ye_ret rfl rfl (rQV h M2)

def f_X10_comeIn_31 (N : Nat) (S : yS) (p1 : Nat) (l2 : Int32) (l3 : Int32) : Option (Int32 × yS) := sq (yI S p1 13 1) fun S1 => f_X10_comeIn_36 N S1 p1 l2 l3
set_option maxHeartbeats 4000000 in
set_option maxRecDepth 40000 in
theorem w_X10_comeIn_31 {F : xH} {ev : xEv} {prim : xRel} {d sz : Nat} {T : yT} {v : Int32} {S' : yS} (N : Nat) (S : yS) (p1 : Nat) (l2 : Int32) (l3 : Int32) (hp : xH) (lv : xLv) (a0 : Nat) (a1 : Nat) (fa0 : yAt T 10 2 0 a0) (fa1 : yAt T 6 p1 0 a1) (g0 : xG lv 0 = some (.ref a0)) (g1 : xG lv 1 = some (.ref a1)) (g2 : xG lv 2 = some (.int l2)) (g3 : xG lv 3 = some (.int l3)) (hM : cR [0, 1, 2, 3, 4, 5, 6, 7] F ev T S hp) (h : f_X10_comeIn_31 N S p1 l2 l3 = some (v, S')) : yWE ev.2.1 (xstr ev) (xCalls ev xmi (xprog ev) prim (d + 2)) (pX10_comeIn ev) (31, lv, [], hp, sz, 0) (ypQ [0, 1, 2, 3, 4, 5, 6, 7] F ev T sz (none) S') := by
  unfold f_X10_comeIn_31 at h
  refine ye_aload rfl g1 ?_
  refine ye_p rfl rfl ?_
  obtain ⟨S1, eS1, h⟩ := sq_some h
  refine yw_putI rfl hM fa1 rfl ⟨rfl, rfl⟩ (Nat.le_of_ble_eq_true rfl) rfl rfl (ys_6_13 ev T _ 1) (fun q => absurd q (by decide)) eS1 (fun y1 M1 => ?_)
  exact w_X10_comeIn_36 (prim := prim) (d := d) N S1 p1 l2 l3 y1 lv a0 a1 fa0 fa1 g0 g1 g2 g3 M1 h

def f_X10_comeIn_0 (N : Nat) (S : yS) (p1 : Nat) (l2 : Int32) : Option (Int32 × yS) := bV (f_X10_isNight N S) fun w1 => if w1 = 0 then f_X10_comeIn_36 N S p1 l2 (S.1 p1 9) else gA 8 l2 fun j1 => if (S.2.1 1 1 j1) = 0 then f_X10_comeIn_31 N S p1 l2 (S.1 p1 9) else if ¬ (S.1 p1 4) = 0 then f_X10_comeIn_36 N S p1 l2 (S.1 p1 9) else f_X10_comeIn_31 N S p1 l2 (S.1 p1 9)
set_option maxHeartbeats 4000000 in
set_option maxRecDepth 40000 in
theorem w_X10_comeIn_0 {F : xH} {ev : xEv} {prim : xRel} {d sz : Nat} {T : yT} {v : Int32} {S' : yS} (N : Nat) (S : yS) (p1 : Nat) (l2 : Int32) (hp : xH) (lv : xLv) (a0 : Nat) (a1 : Nat) (fa0 : yAt T 10 2 0 a0) (fa1 : yAt T 6 p1 0 a1) (g0 : xG lv 0 = some (.ref a0)) (g1 : xG lv 1 = some (.ref a1)) (g2 : xG lv 2 = some (.int l2)) (hM : cR [0, 1, 2, 3, 4, 5, 6, 7] F ev T S hp) (h : f_X10_comeIn_0 N S p1 l2 = some (v, S')) : yWE ev.2.1 (xstr ev) (xCalls ev xmi (xprog ev) prim (d + 2)) (pX10_comeIn ev) (0, lv, [], hp, sz, 0) (ypQ [0, 1, 2, 3, 4, 5, 6, 7] F ev T sz (none) S') := by
  unfold f_X10_comeIn_0 at h
  refine ye_aload rfl g1 ?_
  refine ye_getf rfl (hM.obj fa1 ⟨rfl, rfl⟩) rfl ?_
  refine ye_p rfl rfl ?_
  have g0_z1 := xG_o1 (i := 3) (v := .int (S.1 p1 9)) g0 rfl
  have g1_z1 := xG_o1 (i := 3) (v := .int (S.1 p1 9)) g1 rfl
  have g2_z1 := xG_o1 (i := 3) (v := .int (S.1 p1 9)) g2 rfl
  have g3_z1 := xG_same lv 3 (.int (S.1 p1 9))
  generalize xSt1 lv 3 (.int (S.1 p1 9)) = lvz1 at g0_z1 g1_z1 g2_z1 g3_z1 ⊢
  refine ye_aload rfl g0_z1 ?_
  obtain ⟨w1, hw1, h⟩ := bV_some h
  refine ye_callV (As := []) (rest := []) 0 (Or.inl rfl) rfl rfl rfl (Nat.le_of_ble_eq_true rfl) (hM.obj fa0 ⟨rfl, rfl⟩) ((m_X10_isNight (d := d + 1) (T := T) N S a0 fa0 hw1) hp sz hM) ?_
  refine ye_if_eq rfl (fun h1 => ?_) (fun h1 => ?_)
  · replace h := yiT h1 h
    exact w_X10_comeIn_36 (prim := prim) (d := d) N S p1 l2 (S.1 p1 9) hp lvz1 a0 a1 fa0 fa1 g0_z1 g1_z1 g2_z1 g3_z1 hM h
  · replace h := yiN h1 h
    refine ye_aload rfl g0_z1 ?_
    refine ye_getr rfl (hM.obj fa0 ⟨rfl, rfl⟩) rfl (fun cx1 ecx1 => ?_)
    have fcx1 := hM.root 2 0 (by decide) rfl ecx1
    refine ye_getr rfl (hM.obj fcx1 ⟨rfl, rfl⟩) rfl (fun cx2 ecx2 => ?_)
    have fcx2 := yAt.row fcx1 ecx2
    refine ye_iload rfl g2_z1 ?_
    obtain ⟨j1, ej1, ij1, h⟩ := gA_some h
    refine yj_ald rfl (hM.arr fcx2 yr_2_1) ij1 ej1 ?_
    refine ye_if_eq rfl (fun h2 => ?_) (fun h2 => ?_)
    · replace h := yiT h2 h
      exact w_X10_comeIn_31 (prim := prim) (d := d) N S p1 l2 (S.1 p1 9) hp lvz1 a0 a1 fa0 fa1 g0_z1 g1_z1 g2_z1 g3_z1 hM h
    · replace h := yiN h2 h
      refine ye_aload rfl g1_z1 ?_
      refine ye_getf rfl (hM.obj fa1 ⟨rfl, rfl⟩) rfl ?_
      refine ye_if_ne rfl (fun h3 => ?_) (fun h3 => ?_)
      · replace h := yiT h3 h
        exact w_X10_comeIn_36 (prim := prim) (d := d) N S p1 l2 (S.1 p1 9) hp lvz1 a0 a1 fa0 fa1 g0_z1 g1_z1 g2_z1 g3_z1 hM h
      · replace h := yiN h3 h
        exact w_X10_comeIn_31 (prim := prim) (d := d) N S p1 l2 (S.1 p1 9) hp lvz1 a0 a1 fa0 fa1 g0_z1 g1_z1 g2_z1 g3_z1 hM h
def f_X10_comeIn (N : Nat) (S : yS) (xp1 : Nat) (xl2 : Int32) : Option (Int32 × yS) := f_X10_comeIn_0 N S xp1 xl2
theorem m_X10_comeIn {F : xH} {ev : xEv} {prim : xRel} {d : Nat} {T : yT} {v : Int32} {S' : yS} (N : Nat) (S : yS) (xp1 : Nat) (xl2 : Int32) (a0 : Nat) (a1 : Nat) (fa0 : yAt T 10 2 0 a0) (fa1 : yAt T 6 xp1 0 a1) (h : f_X10_comeIn N S xp1 xl2 = some (v, S')) : ykQ [0, 1, 2, 3, 4, 5, 6, 7] F ev prim (d + 3) 113 T S [.ref a0, .ref a1, .int xl2] (none) S' :=
  ykQ.of (pg_113 ev) mi_113 (Nat.le_of_ble_eq_true rfl) (fun hp sz hM => w_X10_comeIn_0 (prim := prim) (d := d) N S xp1 xl2 hp _ a0 a1 fa0 fa1 rfl rfl rfl hM h)

def f_X10_forceDown_71 (N : Nat) (S : yS) (p1 : Nat) : Option (Int32 × yS) := sq (yI S p1 12 1) fun S1 => gR (S1.2.1 2 11) 24 (S1.1 p1 17) fun j1 => bS (f_X1_finish N S1 ((512 + j1)) 4 (S1.1 2 13)) fun w1 S2 => some (0, S2)
set_option maxHeartbeats 4000000 in
set_option maxRecDepth 40000 in
theorem w_X10_forceDown_71 {F : xH} {ev : xEv} {prim : xRel} {d sz : Nat} {T : yT} {v : Int32} {S' : yS} (N : Nat) (S : yS) (p1 : Nat) (hp : xH) (lv : xLv) (a0 : Nat) (a1 : Nat) (fa0 : yAt T 10 2 0 a0) (fa1 : yAt T 6 p1 0 a1) (g0 : xG lv 0 = some (.ref a0)) (g1 : xG lv 1 = some (.ref a1)) (hM : cR [0, 1, 2, 3, 4, 5, 6, 7] F ev T S hp) (h : f_X10_forceDown_71 N S p1 = some (v, S')) : yWE ev.2.1 (xstr ev) (xCalls ev xmi (xprog ev) prim (d + 2)) (pX10_forceDown ev) (71, lv, [], hp, sz, 0) (ypQ [0, 1, 2, 3, 4, 5, 6, 7] F ev T sz (none) S') := by
  unfold f_X10_forceDown_71 at h
  refine ye_aload rfl g1 ?_
  refine ye_p rfl rfl ?_
  obtain ⟨S1, eS1, h⟩ := sq_some h
  refine yw_putI rfl hM fa1 rfl ⟨rfl, rfl⟩ (Nat.le_of_ble_eq_true rfl) rfl rfl (ys_6_12 ev T _ 1) (fun q => absurd q (by decide)) eS1 (fun y1 M1 => ?_)
  refine ye_aload rfl g0 ?_
  refine ye_getr rfl (M1.obj fa0 ⟨rfl, rfl⟩) rfl (fun cx1 ecx1 => ?_)
  have fcx1 := yAt.row fa0 ecx1
  refine ye_aload rfl g1 ?_
  refine ye_getf rfl (M1.obj fa1 ⟨rfl, rfl⟩) rfl ?_
  obtain ⟨j1, ej1, ij1, rj1, h⟩ := gR_some h
  refine ye_aaldR (t := 8) rfl (M1.arr fcx1 yr_10_11) ij1 ej1 rj1 (fun cx2 ecx2 => ?_)
  have fcx2 : yAt T 1 (512 + j1) 0 cx2 := ⟨M1.refd fcx1 yr_10_11 (by decide) rj1, oc_512 (by have := vp_lt ij1; omega), ecx2⟩
  refine ye_p rfl rfl ?_
  refine ye_aload rfl g0 ?_
  refine ye_getf rfl (M1.obj fa0 ⟨rfl, rfl⟩) rfl ?_
  obtain ⟨w1, S2, hw1, h⟩ := bS_some h
  obtain ⟨y2, cy2, M2⟩ := (m_X1_finish (d := d + 1) (T := T) N S1 ((512 + j1)) 4 (S1.1 2 13) cx2 fcx2 hw1) y1 sz M1
  refine ye_callV (As := [.int 4, .int (S1.1 2 13)]) (rest := []) 0 (Or.inl rfl) rfl rfl rfl (Nat.le_of_ble_eq_true rfl) (M1.obj fcx2 ⟨rfl, rfl⟩) cy2 ?_
  exact ye_ret rfl rfl (rQV h M2)

def f_X10_forceDown_54 (N : Nat) (S : yS) (p1 : Nat) : Option (Int32 × yS) := bV (f_X10_isNight N S) fun w1 => if w1 = 0 then f_X10_forceDown_71 N S p1 else sq (yI S p1 13 ((S.1 p1 13) + 1)) fun S1 => f_X10_forceDown_71 N S1 p1
set_option maxHeartbeats 4000000 in
set_option maxRecDepth 40000 in
theorem w_X10_forceDown_54 {F : xH} {ev : xEv} {prim : xRel} {d sz : Nat} {T : yT} {v : Int32} {S' : yS} (N : Nat) (S : yS) (p1 : Nat) (hp : xH) (lv : xLv) (a0 : Nat) (a1 : Nat) (fa0 : yAt T 10 2 0 a0) (fa1 : yAt T 6 p1 0 a1) (g0 : xG lv 0 = some (.ref a0)) (g1 : xG lv 1 = some (.ref a1)) (hM : cR [0, 1, 2, 3, 4, 5, 6, 7] F ev T S hp) (h : f_X10_forceDown_54 N S p1 = some (v, S')) : yWE ev.2.1 (xstr ev) (xCalls ev xmi (xprog ev) prim (d + 2)) (pX10_forceDown ev) (54, lv, [], hp, sz, 0) (ypQ [0, 1, 2, 3, 4, 5, 6, 7] F ev T sz (none) S') := by
  unfold f_X10_forceDown_54 at h
  refine ye_aload rfl g0 ?_
  obtain ⟨w1, hw1, h⟩ := bV_some h
  refine ye_callV (As := []) (rest := []) 0 (Or.inl rfl) rfl rfl rfl (Nat.le_of_ble_eq_true rfl) (hM.obj fa0 ⟨rfl, rfl⟩) ((m_X10_isNight (d := d + 1) (T := T) N S a0 fa0 hw1) hp sz hM) ?_
  refine ye_if_eq rfl (fun h1 => ?_) (fun h1 => ?_)
  · replace h := yiT h1 h
    exact w_X10_forceDown_71 (prim := prim) (d := d) N S p1 hp lv a0 a1 fa0 fa1 g0 g1 hM h
  · replace h := yiN h1 h
    refine ye_aload rfl g1 ?_
    refine ye_p rfl rfl ?_
    refine ye_getf rfl (hM.obj fa1 ⟨rfl, rfl⟩) rfl ?_
    refine ye_p rfl rfl ?_
    refine ye_p rfl rfl ?_
    obtain ⟨S1, eS1, h⟩ := sq_some h
    refine yw_putI rfl hM fa1 rfl ⟨rfl, rfl⟩ (Nat.le_of_ble_eq_true rfl) rfl rfl (ys_6_13 ev T _ ((S.1 p1 13) + 1)) (fun q => absurd q (by decide)) eS1 (fun y1 M1 => ?_)
    exact w_X10_forceDown_71 (prim := prim) (d := d) N S1 p1 y1 lv a0 a1 fa0 fa1 g0 g1 M1 h

def f_X10_forceDown_0 (N : Nat) (S : yS) (p1 : Nat) : Option (Int32 × yS) := gR (S.2.1 1 4) 12 (S.1 p1 9) fun j1 => bV (f_X3_bestGround N S ((64 + j1)) (S.1 p1 10) (S.1 2 15)) fun w1 => sq (yI S p1 13 4) fun S1 => if w1 = ((-1)) then f_X10_forceDown_54 N S1 p1 else bV (f_X3_roughOf N S1 ((64 + j1)) w1) fun w2 => sq (yI S1 p1 13 w2) fun S2 => bV (f_X3_mileOf N S2 ((64 + j1)) w1) fun w3 => sq (yI S2 p1 10 w3) fun S3 => f_X10_forceDown_54 N S3 p1
set_option maxHeartbeats 4000000 in
set_option maxRecDepth 40000 in
theorem w_X10_forceDown_0 {F : xH} {ev : xEv} {prim : xRel} {d sz : Nat} {T : yT} {v : Int32} {S' : yS} (N : Nat) (S : yS) (p1 : Nat) (hp : xH) (lv : xLv) (a0 : Nat) (a1 : Nat) (fa0 : yAt T 10 2 0 a0) (fa1 : yAt T 6 p1 0 a1) (g0 : xG lv 0 = some (.ref a0)) (g1 : xG lv 1 = some (.ref a1)) (hM : cR [0, 1, 2, 3, 4, 5, 6, 7] F ev T S hp) (h : f_X10_forceDown_0 N S p1 = some (v, S')) : yWE ev.2.1 (xstr ev) (xCalls ev xmi (xprog ev) prim (d + 2)) (pX10_forceDown ev) (0, lv, [], hp, sz, 0) (ypQ [0, 1, 2, 3, 4, 5, 6, 7] F ev T sz (none) S') := by
  unfold f_X10_forceDown_0 at h
  refine ye_aload rfl g0 ?_
  refine ye_getr rfl (hM.obj fa0 ⟨rfl, rfl⟩) rfl (fun cx1 ecx1 => ?_)
  have fcx1 := hM.root 2 0 (by decide) rfl ecx1
  refine ye_getr rfl (hM.obj fcx1 ⟨rfl, rfl⟩) rfl (fun cx2 ecx2 => ?_)
  have fcx2 := yAt.row fcx1 ecx2
  refine ye_aload rfl g1 ?_
  refine ye_getf rfl (hM.obj fa1 ⟨rfl, rfl⟩) rfl ?_
  obtain ⟨j1, ej1, ij1, rj1, h⟩ := gR_some h
  refine ye_aaldR (t := 4) rfl (hM.arr fcx2 yr_2_4) ij1 ej1 rj1 (fun cx3 ecx3 => ?_)
  have fcx3 : yAt T 3 (64 + j1) 0 cx3 := ⟨hM.refd fcx2 yr_2_4 (by decide) rj1, oc_64 (by have := vp_lt ij1; omega), ecx3⟩
  refine ye_p rfl rfl ?_
  have g0_z1 := xG_o1 (i := 2) (v := .ref cx3) g0 rfl
  have g1_z1 := xG_o1 (i := 2) (v := .ref cx3) g1 rfl
  have g2_z1 := xG_same lv 2 (.ref cx3)
  generalize xSt1 lv 2 (.ref cx3) = lvz1 at g0_z1 g1_z1 g2_z1 ⊢
  refine ye_aload rfl g2_z1 ?_
  refine ye_aload rfl g1_z1 ?_
  refine ye_getf rfl (hM.obj fa1 ⟨rfl, rfl⟩) rfl ?_
  refine ye_aload rfl g0_z1 ?_
  refine ye_getf rfl (hM.obj fa0 ⟨rfl, rfl⟩) rfl ?_
  obtain ⟨w1, hw1, h⟩ := bV_some h
  refine ye_callV (As := [.int (S.1 p1 10), .int (S.1 2 15)]) (rest := []) 0 (Or.inl rfl) rfl rfl rfl (Nat.le_of_ble_eq_true rfl) (hM.obj fcx3 ⟨rfl, rfl⟩) ((m_X3_bestGround (d := d + 0) (T := T) N S ((64 + j1)) (S.1 p1 10) (S.1 2 15) cx3 fcx3 hw1) hp sz hM) ?_
  refine ye_p rfl rfl ?_
  have g0_z2 := xG_o1 (i := 3) (v := .int w1) g0_z1 rfl
  have g1_z2 := xG_o1 (i := 3) (v := .int w1) g1_z1 rfl
  have g2_z2 := xG_o1 (i := 3) (v := .int w1) g2_z1 rfl
  have g3_z2 := xG_same lvz1 3 (.int w1)
  generalize xSt1 lvz1 3 (.int w1) = lvz2 at g0_z2 g1_z2 g2_z2 g3_z2 ⊢
  refine ye_aload rfl g1_z2 ?_
  refine ye_p rfl rfl ?_
  obtain ⟨S1, eS1, h⟩ := sq_some h
  refine yw_putI rfl hM fa1 rfl ⟨rfl, rfl⟩ (Nat.le_of_ble_eq_true rfl) rfl rfl (ys_6_13 ev T _ 4) (fun q => absurd q (by decide)) eS1 (fun y1 M1 => ?_)
  refine ye_iload rfl g3_z2 ?_
  refine ye_p rfl rfl ?_
  refine ye_icmp_eq rfl (fun h1 => ?_) (fun h1 => ?_)
  · replace h := yiT h1 h
    exact w_X10_forceDown_54 (prim := prim) (d := d) N S1 p1 y1 lvz2 a0 a1 fa0 fa1 g0_z2 g1_z2 M1 h
  · replace h := yiN h1 h
    refine ye_aload rfl g1_z2 ?_
    refine ye_aload rfl g2_z2 ?_
    refine ye_iload rfl g3_z2 ?_
    obtain ⟨w2, hw2, h⟩ := bV_some h
    refine ye_callV (As := [.int w1]) (rest := [.ref a1]) 0 (Or.inl rfl) rfl rfl rfl (Nat.le_of_ble_eq_true rfl) (M1.obj fcx3 ⟨rfl, rfl⟩) ((m_X3_roughOf (d := d + 0) (T := T) N S1 ((64 + j1)) w1 cx3 fcx3 hw2) y1 sz M1) ?_
    obtain ⟨S2, eS2, h⟩ := sq_some h
    refine yw_putI rfl M1 fa1 rfl ⟨rfl, rfl⟩ (Nat.le_of_ble_eq_true rfl) rfl rfl (ys_6_13 ev T _ w2) (fun q => absurd q (by decide)) eS2 (fun y2 M2 => ?_)
    refine ye_aload rfl g1_z2 ?_
    refine ye_aload rfl g2_z2 ?_
    refine ye_iload rfl g3_z2 ?_
    obtain ⟨w3, hw3, h⟩ := bV_some h
    refine ye_callV (As := [.int w1]) (rest := [.ref a1]) 0 (Or.inl rfl) rfl rfl rfl (Nat.le_of_ble_eq_true rfl) (M2.obj fcx3 ⟨rfl, rfl⟩) ((m_X3_mileOf (d := d + 0) (T := T) N S2 ((64 + j1)) w1 cx3 fcx3 hw3) y2 sz M2) ?_
    obtain ⟨S3, eS3, h⟩ := sq_some h
    refine yw_putI rfl M2 fa1 rfl ⟨rfl, rfl⟩ (Nat.le_of_ble_eq_true rfl) rfl rfl (ys_6_10 ev T _ w3) (fun q => absurd q (by decide)) eS3 (fun y3 M3 => ?_)
    exact w_X10_forceDown_54 (prim := prim) (d := d) N S3 p1 y3 lvz2 a0 a1 fa0 fa1 g0_z2 g1_z2 M3 h
def f_X10_forceDown (N : Nat) (S : yS) (xp1 : Nat) : Option (Int32 × yS) := f_X10_forceDown_0 N S xp1
theorem m_X10_forceDown {F : xH} {ev : xEv} {prim : xRel} {d : Nat} {T : yT} {v : Int32} {S' : yS} (N : Nat) (S : yS) (xp1 : Nat) (a0 : Nat) (a1 : Nat) (fa0 : yAt T 10 2 0 a0) (fa1 : yAt T 6 xp1 0 a1) (h : f_X10_forceDown N S xp1 = some (v, S')) : ykQ [0, 1, 2, 3, 4, 5, 6, 7] F ev prim (d + 3) 114 T S [.ref a0, .ref a1] (none) S' :=
  ykQ.of (pg_114 ev) mi_114 (Nat.le_of_ble_eq_true rfl) (fun hp sz hM => w_X10_forceDown_0 (prim := prim) (d := d) N S xp1 hp _ a0 a1 fa0 fa1 rfl rfl hM h)

def f_X10_unload_82 (N : Nat) (k44 : yS → Int32 → Int32 → Nat → Int32 → Option (Int32 × yS)) (S : yS) (l1 : Int32) (l2 : Int32) (p3 : Nat) (l4 : Int32) : Option (Int32 × yS) := k44 S l1 l2 p3 (l4 + 1)
set_option maxHeartbeats 4000000 in
set_option maxRecDepth 40000 in
theorem w_X10_unload_82 {F : xH} {ev : xEv} {prim : xRel} {d sz : Nat} {T : yT} {v : Int32} {S' : yS} (N : Nat) (k44 : yS → Int32 → Int32 → Nat → Int32 → Option (Int32 × yS)) (u44 : ∀ (S : yS) (l1 : Int32) (l2 : Int32) (p3 : Nat) (l4 : Int32) (hp : xH) (lv : xLv) (a0 : Nat) (a3 : Nat) (fa0 : yAt T 10 2 0 a0) (fa3 : yAt T 6 p3 0 a3) (g0 : xG lv 0 = some (.ref a0)) (g1 : xG lv 1 = some (.int l1)) (g2 : xG lv 2 = some (.int l2)) (g3 : xG lv 3 = some (.ref a3)) (g4 : xG lv 4 = some (.int l4)) (hM : cR [0, 1, 2, 3, 4, 5, 6, 7] F ev T S hp) (h : k44 S l1 l2 p3 l4 = some (v, S')), yWE ev.2.1 (xstr ev) (xCalls ev xmi (xprog ev) prim (d + 2)) (pX10_unload ev) (44, lv, [], hp, sz, 0) (ypQ [0, 1, 2, 3, 4, 5, 6, 7] F ev T sz (none) S')) (S : yS) (l1 : Int32) (l2 : Int32) (p3 : Nat) (l4 : Int32) (hp : xH) (lv : xLv) (a0 : Nat) (a3 : Nat) (fa0 : yAt T 10 2 0 a0) (fa3 : yAt T 6 p3 0 a3) (g0 : xG lv 0 = some (.ref a0)) (g1 : xG lv 1 = some (.int l1)) (g2 : xG lv 2 = some (.int l2)) (g3 : xG lv 3 = some (.ref a3)) (g4 : xG lv 4 = some (.int l4)) (hM : cR [0, 1, 2, 3, 4, 5, 6, 7] F ev T S hp) (h : f_X10_unload_82 N k44 S l1 l2 p3 l4 = some (v, S')) : yWE ev.2.1 (xstr ev) (xCalls ev xmi (xprog ev) prim (d + 2)) (pX10_unload ev) (82, lv, [], hp, sz, 0) (ypQ [0, 1, 2, 3, 4, 5, 6, 7] F ev T sz (none) S') := by
  unfold f_X10_unload_82 at h
  refine ye_iinc rfl g4 ?_
  have g0_z1 := xG_o1 (i := 4) (v := .int (l4 + 1)) g0 rfl
  have g1_z1 := xG_o1 (i := 4) (v := .int (l4 + 1)) g1 rfl
  have g2_z1 := xG_o1 (i := 4) (v := .int (l4 + 1)) g2 rfl
  have g3_z1 := xG_o1 (i := 4) (v := .int (l4 + 1)) g3 rfl
  have g4_z1 := xG_same lv 4 (.int (l4 + 1))
  generalize xSt1 lv 4 (.int (l4 + 1)) = lvz1 at g0_z1 g1_z1 g2_z1 g3_z1 g4_z1 ⊢
  refine ye_p rfl rfl ?_
  exact u44 S l1 l2 p3 (l4 + 1) hp lvz1 a0 a3 fa0 fa3 g0_z1 g1_z1 g2_z1 g3_z1 g4_z1 hM h

def f_X10_unload_44 : Nat → Nat → yS → Int32 → Int32 → Nat → Int32 → Option (Int32 × yS)
  | 0, _, _, _, _, _, _ => none
  | n + 1, N, S, l1, l2, p3, l4 => if (S.1 2 9) ≤ l4 then bS (f_X6_putAt N S p3 l2) fun w1 S1 => some (0, S1) else gR (S.2.1 2 8) 30 l4 fun j1 => if ¬ (S.1 ((384 + j1)) 6) = l1 then f_X10_unload_82 N (fun S l1 l2 p3 l4 => f_X10_unload_44 n N S l1 l2 p3 l4) S l1 l2 p3 l4 else gR (S.2.1 2 8) 30 l4 fun j2 => bS (f_X0_putAt N S ((384 + j2)) l2 (S.1 2 13)) fun w2 S2 => f_X10_unload_82 N (fun S l1 l2 p3 l4 => f_X10_unload_44 n N S l1 l2 p3 l4) S2 l1 l2 p3 l4
set_option maxHeartbeats 4000000 in
set_option maxRecDepth 40000 in
theorem w_X10_unload_44 {F : xH} {ev : xEv} {prim : xRel} {d sz : Nat} {T : yT} {v : Int32} {S' : yS} (N : Nat) (n : Nat) : ∀ (S : yS) (l1 : Int32) (l2 : Int32) (p3 : Nat) (l4 : Int32) (hp : xH) (lv : xLv) (a0 : Nat) (a3 : Nat) (fa0 : yAt T 10 2 0 a0) (fa3 : yAt T 6 p3 0 a3) (g0 : xG lv 0 = some (.ref a0)) (g1 : xG lv 1 = some (.int l1)) (g2 : xG lv 2 = some (.int l2)) (g3 : xG lv 3 = some (.ref a3)) (g4 : xG lv 4 = some (.int l4)) (hM : cR [0, 1, 2, 3, 4, 5, 6, 7] F ev T S hp) (h : f_X10_unload_44 n N S l1 l2 p3 l4 = some (v, S')), yWE ev.2.1 (xstr ev) (xCalls ev xmi (xprog ev) prim (d + 2)) (pX10_unload ev) (44, lv, [], hp, sz, 0) (ypQ [0, 1, 2, 3, 4, 5, 6, 7] F ev T sz (none) S') := by
  induction n with
  | zero => intro S l1 l2 p3 l4 hp lv a0 a3 fa0 fa3 g0 g1 g2 g3 g4 hM h; exact n_some h
  | succ n ih =>
    intro S l1 l2 p3 l4 hp lv a0 a3 fa0 fa3 g0 g1 g2 g3 g4 hM h
    unfold f_X10_unload_44 at h
    refine ye_iload rfl g4 ?_
    refine ye_aload rfl g0 ?_
    refine ye_getf rfl (hM.obj fa0 ⟨rfl, rfl⟩) rfl ?_
    refine ye_icmp_ge rfl (fun h1 => ?_) (fun h1 => ?_)
    · replace h := yiT h1 h
      refine ye_aload rfl g3 ?_
      refine ye_iload rfl g2 ?_
      obtain ⟨w1, S1, hw1, h⟩ := bS_some h
      obtain ⟨y1, cy1, M1⟩ := (m_X6_putAt (d := d + 1) (T := T) N S p3 l2 a3 fa3 hw1) hp sz hM
      refine ye_callV (As := [.int l2]) (rest := []) 0 (Or.inl rfl) rfl rfl rfl (Nat.le_of_ble_eq_true rfl) (hM.obj fa3 ⟨rfl, rfl⟩) cy1 ?_
      exact ye_ret rfl rfl (rQV h M1)
    · replace h := yiN h1 h
      refine ye_aload rfl g0 ?_
      refine ye_getr rfl (hM.obj fa0 ⟨rfl, rfl⟩) rfl (fun cx1 ecx1 => ?_)
      have fcx1 := yAt.row fa0 ecx1
      refine ye_iload rfl g4 ?_
      obtain ⟨j1, ej1, ij1, rj1, h⟩ := gR_some h
      refine ye_aaldR (t := 7) rfl (hM.arr fcx1 yr_10_8) ij1 ej1 rj1 (fun cx2 ecx2 => ?_)
      have fcx2 : yAt T 0 (384 + j1) 0 cx2 := ⟨hM.refd fcx1 yr_10_8 (by decide) rj1, oc_384 (by have := vp_lt ij1; omega), ecx2⟩
      refine ye_getf rfl (hM.obj fcx2 ⟨rfl, rfl⟩) rfl ?_
      refine ye_iload rfl g1 ?_
      refine ye_icmp_ne rfl (fun h2 => ?_) (fun h2 => ?_)
      · replace h := yiT h2 h
        exact w_X10_unload_82 (prim := prim) (d := d) N (fun S l1 l2 p3 l4 => f_X10_unload_44 n N S l1 l2 p3 l4) ih S l1 l2 p3 l4 hp lv a0 a3 fa0 fa3 g0 g1 g2 g3 g4 hM h
      · replace h := yiN h2 h
        refine ye_aload rfl g0 ?_
        refine ye_getr rfl (hM.obj fa0 ⟨rfl, rfl⟩) rfl (fun cx3 ecx3 => ?_)
        have fcx3 := yAt.row fa0 ecx3
        refine ye_iload rfl g4 ?_
        obtain ⟨j2, ej2, ij2, rj2, h⟩ := gR_some h
        refine ye_aaldR (t := 7) rfl (hM.arr fcx3 yr_10_8) ij2 ej2 rj2 (fun cx4 ecx4 => ?_)
        have fcx4 : yAt T 0 (384 + j2) 0 cx4 := ⟨hM.refd fcx3 yr_10_8 (by decide) rj2, oc_384 (by have := vp_lt ij2; omega), ecx4⟩
        refine ye_iload rfl g2 ?_
        refine ye_aload rfl g0 ?_
        refine ye_getf rfl (hM.obj fa0 ⟨rfl, rfl⟩) rfl ?_
        obtain ⟨w2, S2, hw2, h⟩ := bS_some h
        obtain ⟨y2, cy2, M2⟩ := (m_X0_putAt (d := d + 0) (T := T) N S ((384 + j2)) l2 (S.1 2 13) cx4 fcx4 hw2) hp sz hM
        refine ye_callV (As := [.int l2, .int (S.1 2 13)]) (rest := []) 0 (Or.inl rfl) rfl rfl rfl (Nat.le_of_ble_eq_true rfl) (hM.obj fcx4 ⟨rfl, rfl⟩) cy2 ?_
        exact w_X10_unload_82 (prim := prim) (d := d) N (fun S l1 l2 p3 l4 => f_X10_unload_44 n N S l1 l2 p3 l4) ih S2 l1 l2 p3 l4 y2 lv a0 a3 fa0 fa3 g0 g1 g2 g3 g4 M2 h

def f_X10_unload_41 (N : Nat) (S : yS) (l1 : Int32) (l2 : Int32) (p3 : Nat) : Option (Int32 × yS) := f_X10_unload_44 N N S l1 l2 p3 0
set_option maxHeartbeats 4000000 in
set_option maxRecDepth 40000 in
theorem w_X10_unload_41 {F : xH} {ev : xEv} {prim : xRel} {d sz : Nat} {T : yT} {v : Int32} {S' : yS} (N : Nat) (S : yS) (l1 : Int32) (l2 : Int32) (p3 : Nat) (hp : xH) (lv : xLv) (a0 : Nat) (a3 : Nat) (fa0 : yAt T 10 2 0 a0) (fa3 : yAt T 6 p3 0 a3) (g0 : xG lv 0 = some (.ref a0)) (g1 : xG lv 1 = some (.int l1)) (g2 : xG lv 2 = some (.int l2)) (g3 : xG lv 3 = some (.ref a3)) (hM : cR [0, 1, 2, 3, 4, 5, 6, 7] F ev T S hp) (h : f_X10_unload_41 N S l1 l2 p3 = some (v, S')) : yWE ev.2.1 (xstr ev) (xCalls ev xmi (xprog ev) prim (d + 2)) (pX10_unload ev) (41, lv, [], hp, sz, 0) (ypQ [0, 1, 2, 3, 4, 5, 6, 7] F ev T sz (none) S') := by
  unfold f_X10_unload_41 at h
  refine ye_p rfl rfl ?_
  refine ye_p rfl rfl ?_
  have g0_z1 := xG_o1 (i := 4) (v := .int 0) g0 rfl
  have g1_z1 := xG_o1 (i := 4) (v := .int 0) g1 rfl
  have g2_z1 := xG_o1 (i := 4) (v := .int 0) g2 rfl
  have g3_z1 := xG_o1 (i := 4) (v := .int 0) g3 rfl
  have g4_z1 := xG_same lv 4 (.int 0)
  generalize xSt1 lv 4 (.int 0) = lvz1 at g0_z1 g1_z1 g2_z1 g3_z1 g4_z1 ⊢
  exact w_X10_unload_44 (prim := prim) (d := d) N N S l1 l2 p3 0 hp lvz1 a0 a3 fa0 fa3 g0_z1 g1_z1 g2_z1 g3_z1 g4_z1 hM h

def f_X10_unload_0 (N : Nat) (S : yS) (l1 : Int32) (l2 : Int32) : Option (Int32 × yS) := gR (S.2.1 2 4) 8 l1 fun j1 => if (S.1 ((128 + j1)) 16) = ((-1)) then f_X10_unload_41 N S l1 l2 ((128 + j1)) else gR (S.2.1 2 6) 8 (S.1 ((128 + j1)) 16) fun j2 => sq (yI S ((256 + j2)) 0 l2) fun S1 => gR (S1.2.1 2 6) 8 (S1.1 ((128 + j1)) 16) fun j3 => sq (yI S1 ((256 + j3)) 1 ((-1))) fun S2 => f_X10_unload_41 N S2 l1 l2 ((128 + j1))
set_option maxHeartbeats 4000000 in
set_option maxRecDepth 40000 in
theorem w_X10_unload_0 {F : xH} {ev : xEv} {prim : xRel} {d sz : Nat} {T : yT} {v : Int32} {S' : yS} (N : Nat) (S : yS) (l1 : Int32) (l2 : Int32) (hp : xH) (lv : xLv) (a0 : Nat) (fa0 : yAt T 10 2 0 a0) (g0 : xG lv 0 = some (.ref a0)) (g1 : xG lv 1 = some (.int l1)) (g2 : xG lv 2 = some (.int l2)) (hM : cR [0, 1, 2, 3, 4, 5, 6, 7] F ev T S hp) (h : f_X10_unload_0 N S l1 l2 = some (v, S')) : yWE ev.2.1 (xstr ev) (xCalls ev xmi (xprog ev) prim (d + 2)) (pX10_unload ev) (0, lv, [], hp, sz, 0) (ypQ [0, 1, 2, 3, 4, 5, 6, 7] F ev T sz (none) S') := by
  unfold f_X10_unload_0 at h
  refine ye_aload rfl g0 ?_
  refine ye_getr rfl (hM.obj fa0 ⟨rfl, rfl⟩) rfl (fun cx1 ecx1 => ?_)
  have fcx1 := yAt.row fa0 ecx1
  refine ye_iload rfl g1 ?_
  obtain ⟨j1, ej1, ij1, rj1, h⟩ := gR_some h
  refine ye_aaldR (t := 5) rfl (hM.arr fcx1 yr_10_4) ij1 ej1 rj1 (fun cx2 ecx2 => ?_)
  have fcx2 : yAt T 6 (128 + j1) 0 cx2 := ⟨hM.refd fcx1 yr_10_4 (by decide) rj1, oc_128 (by have := vp_lt ij1; omega), ecx2⟩
  refine ye_p rfl rfl ?_
  have g0_z1 := xG_o1 (i := 3) (v := .ref cx2) g0 rfl
  have g1_z1 := xG_o1 (i := 3) (v := .ref cx2) g1 rfl
  have g2_z1 := xG_o1 (i := 3) (v := .ref cx2) g2 rfl
  have g3_z1 := xG_same lv 3 (.ref cx2)
  generalize xSt1 lv 3 (.ref cx2) = lvz1 at g0_z1 g1_z1 g2_z1 g3_z1 ⊢
  refine ye_aload rfl g3_z1 ?_
  refine ye_getf rfl (hM.obj fcx2 ⟨rfl, rfl⟩) rfl ?_
  refine ye_p rfl rfl ?_
  refine ye_icmp_eq rfl (fun h1 => ?_) (fun h1 => ?_)
  · replace h := yiT h1 h
    exact w_X10_unload_41 (prim := prim) (d := d) N S l1 l2 ((128 + j1)) hp lvz1 a0 cx2 fa0 fcx2 g0_z1 g1_z1 g2_z1 g3_z1 hM h
  · replace h := yiN h1 h
    refine ye_aload rfl g0_z1 ?_
    refine ye_getr rfl (hM.obj fa0 ⟨rfl, rfl⟩) rfl (fun cx3 ecx3 => ?_)
    have fcx3 := yAt.row fa0 ecx3
    refine ye_aload rfl g3_z1 ?_
    refine ye_getf rfl (hM.obj fcx2 ⟨rfl, rfl⟩) rfl ?_
    obtain ⟨j2, ej2, ij2, rj2, h⟩ := gR_some h
    refine ye_aaldR (t := 6) rfl (hM.arr fcx3 yr_10_6) ij2 ej2 rj2 (fun cx4 ecx4 => ?_)
    have fcx4 : yAt T 5 (256 + j2) 0 cx4 := ⟨hM.refd fcx3 yr_10_6 (by decide) rj2, oc_256 (by have := vp_lt ij2; omega), ecx4⟩
    refine ye_iload rfl g2_z1 ?_
    obtain ⟨S1, eS1, h⟩ := sq_some h
    refine yw_putI rfl hM fcx4 rfl ⟨rfl, rfl⟩ (Nat.le_of_ble_eq_true rfl) rfl rfl (ys_5_0 ev T _ l2) (fun q => absurd q (by decide)) eS1 (fun y1 M1 => ?_)
    refine ye_aload rfl g0_z1 ?_
    refine ye_getr rfl (M1.obj fa0 ⟨rfl, rfl⟩) rfl (fun cx5 ecx5 => ?_)
    have fcx5 := yAt.row fa0 ecx5
    refine ye_aload rfl g3_z1 ?_
    refine ye_getf rfl (M1.obj fcx2 ⟨rfl, rfl⟩) rfl ?_
    obtain ⟨j3, ej3, ij3, rj3, h⟩ := gR_some h
    refine ye_aaldR (t := 6) rfl (M1.arr fcx5 yr_10_6) ij3 ej3 rj3 (fun cx6 ecx6 => ?_)
    have fcx6 : yAt T 5 (256 + j3) 0 cx6 := ⟨M1.refd fcx5 yr_10_6 (by decide) rj3, oc_256 (by have := vp_lt ij3; omega), ecx6⟩
    refine ye_p rfl rfl ?_
    obtain ⟨S2, eS2, h⟩ := sq_some h
    refine yw_putI rfl M1 fcx6 rfl ⟨rfl, rfl⟩ (Nat.le_of_ble_eq_true rfl) rfl rfl (ys_5_1 ev T _ ((-1))) (fun q => absurd q (by decide)) eS2 (fun y2 M2 => ?_)
    exact w_X10_unload_41 (prim := prim) (d := d) N S2 l1 l2 ((128 + j1)) y2 lvz1 a0 cx2 fa0 fcx2 g0_z1 g1_z1 g2_z1 g3_z1 M2 h
def f_X10_unload (N : Nat) (S : yS) (xl1 : Int32) (xl2 : Int32) : Option (Int32 × yS) := f_X10_unload_0 N S xl1 xl2
theorem m_X10_unload {F : xH} {ev : xEv} {prim : xRel} {d : Nat} {T : yT} {v : Int32} {S' : yS} (N : Nat) (S : yS) (xl1 : Int32) (xl2 : Int32) (a0 : Nat) (fa0 : yAt T 10 2 0 a0) (h : f_X10_unload N S xl1 xl2 = some (v, S')) : ykQ [0, 1, 2, 3, 4, 5, 6, 7] F ev prim (d + 3) 115 T S [.ref a0, .int xl1, .int xl2] (none) S' :=
  ykQ.of (pg_115 ev) mi_115 (Nat.le_of_ble_eq_true rfl) (fun hp sz hM => w_X10_unload_0 (prim := prim) (d := d) N S xl1 xl2 hp _ a0 fa0 rfl rfl rfl hM h)

def f_X10_renew_0 (N : Nat) (S : yS) (l1 : Int32) (l2 : Int32) : Option (Int32 × yS) := gR (S.2.1 2 4) 8 l1 fun j1 => sq (yI S ((128 + j1)) 13 0) fun S1 => sq (yI S1 ((128 + j1)) 5 0) fun S2 => sq (yI S2 ((128 + j1)) 7 0) fun S3 => bV (f_X7_quarters N S3 l2 (S3.1 ((128 + j1)) 8)) fun w1 => sq (yI S3 ((128 + j1)) 14 ((S3.1 2 13) + w1)) fun S4 => gA 8 l2 fun j2 => gA 8 l2 fun j3 => sq (yA S4 1 2 (upd (S4.2.1 1 2) j3 ((S4.2.1 1 2 j2) - 1))) fun S5 => some (0, S5)
set_option maxHeartbeats 4000000 in
set_option maxRecDepth 40000 in
theorem w_X10_renew_0 {F : xH} {ev : xEv} {prim : xRel} {d sz : Nat} {T : yT} {v : Int32} {S' : yS} (N : Nat) (S : yS) (l1 : Int32) (l2 : Int32) (hp : xH) (lv : xLv) (a0 : Nat) (fa0 : yAt T 10 2 0 a0) (g0 : xG lv 0 = some (.ref a0)) (g1 : xG lv 1 = some (.int l1)) (g2 : xG lv 2 = some (.int l2)) (hM : cR [0, 1, 2, 3, 4, 5, 6, 7] F ev T S hp) (h : f_X10_renew_0 N S l1 l2 = some (v, S')) : yWE ev.2.1 (xstr ev) (xCalls ev xmi (xprog ev) prim (d + 2)) (pX10_renew ev) (0, lv, [], hp, sz, 0) (ypQ [0, 1, 2, 3, 4, 5, 6, 7] F ev T sz (none) S') := by
  unfold f_X10_renew_0 at h
  refine ye_aload rfl g0 ?_
  refine ye_getr rfl (hM.obj fa0 ⟨rfl, rfl⟩) rfl (fun cx1 ecx1 => ?_)
  have fcx1 := yAt.row fa0 ecx1
  refine ye_iload rfl g1 ?_
  obtain ⟨j1, ej1, ij1, rj1, h⟩ := gR_some h
  refine ye_aaldR (t := 5) rfl (hM.arr fcx1 yr_10_4) ij1 ej1 rj1 (fun cx2 ecx2 => ?_)
  have fcx2 : yAt T 6 (128 + j1) 0 cx2 := ⟨hM.refd fcx1 yr_10_4 (by decide) rj1, oc_128 (by have := vp_lt ij1; omega), ecx2⟩
  refine ye_p rfl rfl ?_
  have g0_z1 := xG_o1 (i := 3) (v := .ref cx2) g0 rfl
  have g2_z1 := xG_o1 (i := 3) (v := .ref cx2) g2 rfl
  have g3_z1 := xG_same lv 3 (.ref cx2)
  generalize xSt1 lv 3 (.ref cx2) = lvz1 at g0_z1 g2_z1 g3_z1 ⊢
  refine ye_aload rfl g3_z1 ?_
  refine ye_p rfl rfl ?_
  obtain ⟨S1, eS1, h⟩ := sq_some h
  refine yw_putI rfl hM fcx2 rfl ⟨rfl, rfl⟩ (Nat.le_of_ble_eq_true rfl) rfl rfl (ys_6_13 ev T _ 0) (fun q => absurd q (by decide)) eS1 (fun y1 M1 => ?_)
  refine ye_aload rfl g3_z1 ?_
  refine ye_p rfl rfl ?_
  obtain ⟨S2, eS2, h⟩ := sq_some h
  refine yw_putI rfl M1 fcx2 rfl ⟨rfl, rfl⟩ (Nat.le_of_ble_eq_true rfl) rfl rfl (ys_6_5 ev T _ 0) (fun q => absurd q (by decide)) eS2 (fun y2 M2 => ?_)
  refine ye_aload rfl g3_z1 ?_
  refine ye_p rfl rfl ?_
  obtain ⟨S3, eS3, h⟩ := sq_some h
  refine yw_putI rfl M2 fcx2 rfl ⟨rfl, rfl⟩ (Nat.le_of_ble_eq_true rfl) rfl rfl (ys_6_7 ev T _ 0) (fun q => absurd q (by decide)) eS3 (fun y3 M3 => ?_)
  refine ye_aload rfl g3_z1 ?_
  refine ye_aload rfl g0_z1 ?_
  refine ye_getf rfl (M3.obj fa0 ⟨rfl, rfl⟩) rfl ?_
  refine ye_aload rfl g0_z1 ?_
  refine ye_getr rfl (M3.obj fa0 ⟨rfl, rfl⟩) rfl (fun cx3 ecx3 => ?_)
  have fcx3 := M3.root 2 0 (by decide) rfl ecx3
  refine ye_iload rfl g2_z1 ?_
  refine ye_aload rfl g3_z1 ?_
  refine ye_getf rfl (M3.obj fcx2 ⟨rfl, rfl⟩) rfl ?_
  obtain ⟨w1, hw1, h⟩ := bV_some h
  refine ye_callS (As := [.ref cx3, .int l2, .int (S3.1 ((128 + j1)) 8)]) (rest := [.int (S3.1 2 13), .ref cx2]) 1 (Or.inl rfl) rfl rfl rfl (Nat.le_of_ble_eq_true rfl) ((m_X7_quarters (d := d + 0) (T := T) N S3 l2 (S3.1 ((128 + j1)) 8) cx3 fcx3 hw1) y3 sz M3) ?_
  refine ye_p rfl rfl ?_
  obtain ⟨S4, eS4, h⟩ := sq_some h
  refine yw_putI rfl M3 fcx2 rfl ⟨rfl, rfl⟩ (Nat.le_of_ble_eq_true rfl) rfl rfl (ys_6_14 ev T _ ((S3.1 2 13) + w1)) (fun q => absurd q (by decide)) eS4 (fun y4 M4 => ?_)
  refine ye_aload rfl g0_z1 ?_
  refine ye_getr rfl (M4.obj fa0 ⟨rfl, rfl⟩) rfl (fun cx4 ecx4 => ?_)
  have fcx4 := M4.root 2 0 (by decide) rfl ecx4
  refine ye_getr rfl (M4.obj fcx4 ⟨rfl, rfl⟩) rfl (fun cx5 ecx5 => ?_)
  have fcx5 := yAt.row fcx4 ecx5
  refine ye_iload rfl g2_z1 ?_
  refine ye_p rfl rfl ?_
  obtain ⟨j2, ej2, ij2, h⟩ := gA_some h
  refine yj_ald rfl (M4.arr fcx5 yr_2_2) ij2 ej2 ?_
  refine ye_p rfl rfl ?_
  refine ye_p rfl rfl ?_
  obtain ⟨j3, ej3, ij3, h⟩ := gA_some h
  obtain ⟨S5, eS5, h⟩ := sq_some h
  refine yw_ast rfl M4 fcx5 yr_2_2 (by decide) ij3 ej3 eS5 (fun y5 M5 => ?_)
  exact ye_ret rfl rfl (rQV h M5)
def f_X10_renew (N : Nat) (S : yS) (xl1 : Int32) (xl2 : Int32) : Option (Int32 × yS) := f_X10_renew_0 N S xl1 xl2
theorem m_X10_renew {F : xH} {ev : xEv} {prim : xRel} {d : Nat} {T : yT} {v : Int32} {S' : yS} (N : Nat) (S : yS) (xl1 : Int32) (xl2 : Int32) (a0 : Nat) (fa0 : yAt T 10 2 0 a0) (h : f_X10_renew N S xl1 xl2 = some (v, S')) : ykQ [0, 1, 2, 3, 4, 5, 6, 7] F ev prim (d + 3) 116 T S [.ref a0, .int xl1, .int xl2] (none) S' :=
  ykQ.of (pg_116 ev) mi_116 (Nat.le_of_ble_eq_true rfl) (fun hp sz hM => w_X10_renew_0 (prim := prim) (d := d) N S xl1 xl2 hp _ a0 fa0 rfl rfl rfl hM h)

def f_X10_giveBack_104 : Nat → Nat → yS → Int32 → Option (Int32 × yS)
  | 0, _, _, _ => none
  | n + 1, N, S, l1 => if (S.1 2 12) ≤ l1 then some (0, S) else gR (S.2.1 2 11) 24 l1 fun j1 => bS (f_X1_giveBack N S ((512 + j1))) fun w1 S1 => f_X10_giveBack_104 n N S1 (l1 + 1)
set_option maxHeartbeats 4000000 in
set_option maxRecDepth 40000 in
theorem w_X10_giveBack_104 {F : xH} {ev : xEv} {prim : xRel} {d sz : Nat} {T : yT} {v : Int32} {S' : yS} (N : Nat) (n : Nat) : ∀ (S : yS) (l1 : Int32) (hp : xH) (lv : xLv) (a0 : Nat) (fa0 : yAt T 10 2 0 a0) (g0 : xG lv 0 = some (.ref a0)) (g1 : xG lv 1 = some (.int l1)) (hM : cR [0, 1, 2, 3, 4, 5, 6, 7] F ev T S hp) (h : f_X10_giveBack_104 n N S l1 = some (v, S')), yWE ev.2.1 (xstr ev) (xCalls ev xmi (xprog ev) prim (d + 2)) (pX10_giveBack ev) (104, lv, [], hp, sz, 0) (ypQ [0, 1, 2, 3, 4, 5, 6, 7] F ev T sz (none) S') := by
  induction n with
  | zero => intro S l1 hp lv a0 fa0 g0 g1 hM h; exact n_some h
  | succ n ih =>
    intro S l1 hp lv a0 fa0 g0 g1 hM h
    unfold f_X10_giveBack_104 at h
    refine ye_iload rfl g1 ?_
    refine ye_aload rfl g0 ?_
    refine ye_getf rfl (hM.obj fa0 ⟨rfl, rfl⟩) rfl ?_
    refine ye_icmp_ge rfl (fun h1 => ?_) (fun h1 => ?_)
    · replace h := yiT h1 h
      exact ye_ret rfl rfl (rQV h hM)
    · replace h := yiN h1 h
      refine ye_aload rfl g0 ?_
      refine ye_getr rfl (hM.obj fa0 ⟨rfl, rfl⟩) rfl (fun cx1 ecx1 => ?_)
      have fcx1 := yAt.row fa0 ecx1
      refine ye_iload rfl g1 ?_
      obtain ⟨j1, ej1, ij1, rj1, h⟩ := gR_some h
      refine ye_aaldR (t := 8) rfl (hM.arr fcx1 yr_10_11) ij1 ej1 rj1 (fun cx2 ecx2 => ?_)
      have fcx2 : yAt T 1 (512 + j1) 0 cx2 := ⟨hM.refd fcx1 yr_10_11 (by decide) rj1, oc_512 (by have := vp_lt ij1; omega), ecx2⟩
      obtain ⟨w1, S1, hw1, h⟩ := bS_some h
      obtain ⟨y1, cy1, M1⟩ := (m_X1_giveBack (d := d + 0) (T := T) N S ((512 + j1)) cx2 fcx2 hw1) hp sz hM
      refine ye_callV (As := []) (rest := []) 0 (Or.inl rfl) rfl rfl rfl (Nat.le_of_ble_eq_true rfl) (hM.obj fcx2 ⟨rfl, rfl⟩) cy1 ?_
      refine ye_iinc rfl g1 ?_
      have g0_z1 := xG_o1 (i := 1) (v := .int (l1 + 1)) g0 rfl
      have g1_z1 := xG_same lv 1 (.int (l1 + 1))
      generalize xSt1 lv 1 (.int (l1 + 1)) = lvz1 at g0_z1 g1_z1 ⊢
      refine ye_p rfl rfl ?_
      exact ih S1 (l1 + 1) y1 lvz1 a0 fa0 g0_z1 g1_z1 M1 h

def f_X10_giveBack_79 : Nat → Nat → yS → Int32 → Option (Int32 × yS)
  | 0, _, _, _ => none
  | n + 1, N, S, l1 => if (S.1 2 9) ≤ l1 then f_X10_giveBack_104 N N S 0 else gR (S.2.1 2 8) 30 l1 fun j1 => bS (f_X0_giveBack N S ((384 + j1))) fun w1 S1 => f_X10_giveBack_79 n N S1 (l1 + 1)
set_option maxHeartbeats 4000000 in
set_option maxRecDepth 40000 in
theorem w_X10_giveBack_79 {F : xH} {ev : xEv} {prim : xRel} {d sz : Nat} {T : yT} {v : Int32} {S' : yS} (N : Nat) (n : Nat) : ∀ (S : yS) (l1 : Int32) (hp : xH) (lv : xLv) (a0 : Nat) (fa0 : yAt T 10 2 0 a0) (g0 : xG lv 0 = some (.ref a0)) (g1 : xG lv 1 = some (.int l1)) (hM : cR [0, 1, 2, 3, 4, 5, 6, 7] F ev T S hp) (h : f_X10_giveBack_79 n N S l1 = some (v, S')), yWE ev.2.1 (xstr ev) (xCalls ev xmi (xprog ev) prim (d + 2)) (pX10_giveBack ev) (79, lv, [], hp, sz, 0) (ypQ [0, 1, 2, 3, 4, 5, 6, 7] F ev T sz (none) S') := by
  induction n with
  | zero => intro S l1 hp lv a0 fa0 g0 g1 hM h; exact n_some h
  | succ n ih =>
    intro S l1 hp lv a0 fa0 g0 g1 hM h
    unfold f_X10_giveBack_79 at h
    refine ye_iload rfl g1 ?_
    refine ye_aload rfl g0 ?_
    refine ye_getf rfl (hM.obj fa0 ⟨rfl, rfl⟩) rfl ?_
    refine ye_icmp_ge rfl (fun h1 => ?_) (fun h1 => ?_)
    · replace h := yiT h1 h
      refine ye_p rfl rfl ?_
      refine ye_p rfl rfl ?_
      have g0_z1 := xG_o1 (i := 1) (v := .int 0) g0 rfl
      have g1_z1 := xG_same lv 1 (.int 0)
      generalize xSt1 lv 1 (.int 0) = lvz1 at g0_z1 g1_z1 ⊢
      exact w_X10_giveBack_104 (prim := prim) (d := d) N N S 0 hp lvz1 a0 fa0 g0_z1 g1_z1 hM h
    · replace h := yiN h1 h
      refine ye_aload rfl g0 ?_
      refine ye_getr rfl (hM.obj fa0 ⟨rfl, rfl⟩) rfl (fun cx1 ecx1 => ?_)
      have fcx1 := yAt.row fa0 ecx1
      refine ye_iload rfl g1 ?_
      obtain ⟨j1, ej1, ij1, rj1, h⟩ := gR_some h
      refine ye_aaldR (t := 7) rfl (hM.arr fcx1 yr_10_8) ij1 ej1 rj1 (fun cx2 ecx2 => ?_)
      have fcx2 : yAt T 0 (384 + j1) 0 cx2 := ⟨hM.refd fcx1 yr_10_8 (by decide) rj1, oc_384 (by have := vp_lt ij1; omega), ecx2⟩
      obtain ⟨w1, S1, hw1, h⟩ := bS_some h
      obtain ⟨y1, cy1, M1⟩ := (m_X0_giveBack (d := d + 0) (T := T) N S ((384 + j1)) cx2 fcx2 hw1) hp sz hM
      refine ye_callV (As := []) (rest := []) 0 (Or.inl rfl) rfl rfl rfl (Nat.le_of_ble_eq_true rfl) (hM.obj fcx2 ⟨rfl, rfl⟩) cy1 ?_
      refine ye_iinc rfl g1 ?_
      have g0_z2 := xG_o1 (i := 1) (v := .int (l1 + 1)) g0 rfl
      have g1_z2 := xG_same lv 1 (.int (l1 + 1))
      generalize xSt1 lv 1 (.int (l1 + 1)) = lvz2 at g0_z2 g1_z2 ⊢
      refine ye_p rfl rfl ?_
      exact ih S1 (l1 + 1) y1 lvz2 a0 fa0 g0_z2 g1_z2 M1 h

def f_X10_giveBack_54 : Nat → Nat → yS → Int32 → Option (Int32 × yS)
  | 0, _, _, _ => none
  | n + 1, N, S, l1 => if (S.1 2 7) ≤ l1 then f_X10_giveBack_79 N N S 0 else gR (S.2.1 2 6) 8 l1 fun j1 => bS (f_X5_giveBack N S ((256 + j1))) fun w1 S1 => f_X10_giveBack_54 n N S1 (l1 + 1)
set_option maxHeartbeats 4000000 in
set_option maxRecDepth 40000 in
theorem w_X10_giveBack_54 {F : xH} {ev : xEv} {prim : xRel} {d sz : Nat} {T : yT} {v : Int32} {S' : yS} (N : Nat) (n : Nat) : ∀ (S : yS) (l1 : Int32) (hp : xH) (lv : xLv) (a0 : Nat) (fa0 : yAt T 10 2 0 a0) (g0 : xG lv 0 = some (.ref a0)) (g1 : xG lv 1 = some (.int l1)) (hM : cR [0, 1, 2, 3, 4, 5, 6, 7] F ev T S hp) (h : f_X10_giveBack_54 n N S l1 = some (v, S')), yWE ev.2.1 (xstr ev) (xCalls ev xmi (xprog ev) prim (d + 2)) (pX10_giveBack ev) (54, lv, [], hp, sz, 0) (ypQ [0, 1, 2, 3, 4, 5, 6, 7] F ev T sz (none) S') := by
  induction n with
  | zero => intro S l1 hp lv a0 fa0 g0 g1 hM h; exact n_some h
  | succ n ih =>
    intro S l1 hp lv a0 fa0 g0 g1 hM h
    unfold f_X10_giveBack_54 at h
    refine ye_iload rfl g1 ?_
    refine ye_aload rfl g0 ?_
    refine ye_getf rfl (hM.obj fa0 ⟨rfl, rfl⟩) rfl ?_
    refine ye_icmp_ge rfl (fun h1 => ?_) (fun h1 => ?_)
    · replace h := yiT h1 h
      refine ye_p rfl rfl ?_
      refine ye_p rfl rfl ?_
      have g0_z1 := xG_o1 (i := 1) (v := .int 0) g0 rfl
      have g1_z1 := xG_same lv 1 (.int 0)
      generalize xSt1 lv 1 (.int 0) = lvz1 at g0_z1 g1_z1 ⊢
      exact w_X10_giveBack_79 (prim := prim) (d := d) N N S 0 hp lvz1 a0 fa0 g0_z1 g1_z1 hM h
    · replace h := yiN h1 h
      refine ye_aload rfl g0 ?_
      refine ye_getr rfl (hM.obj fa0 ⟨rfl, rfl⟩) rfl (fun cx1 ecx1 => ?_)
      have fcx1 := yAt.row fa0 ecx1
      refine ye_iload rfl g1 ?_
      obtain ⟨j1, ej1, ij1, rj1, h⟩ := gR_some h
      refine ye_aaldR (t := 6) rfl (hM.arr fcx1 yr_10_6) ij1 ej1 rj1 (fun cx2 ecx2 => ?_)
      have fcx2 : yAt T 5 (256 + j1) 0 cx2 := ⟨hM.refd fcx1 yr_10_6 (by decide) rj1, oc_256 (by have := vp_lt ij1; omega), ecx2⟩
      obtain ⟨w1, S1, hw1, h⟩ := bS_some h
      obtain ⟨y1, cy1, M1⟩ := (m_X5_giveBack (d := d + 0) (T := T) N S ((256 + j1)) cx2 fcx2 hw1) hp sz hM
      refine ye_callV (As := []) (rest := []) 0 (Or.inl rfl) rfl rfl rfl (Nat.le_of_ble_eq_true rfl) (hM.obj fcx2 ⟨rfl, rfl⟩) cy1 ?_
      refine ye_iinc rfl g1 ?_
      have g0_z2 := xG_o1 (i := 1) (v := .int (l1 + 1)) g0 rfl
      have g1_z2 := xG_same lv 1 (.int (l1 + 1))
      generalize xSt1 lv 1 (.int (l1 + 1)) = lvz2 at g0_z2 g1_z2 ⊢
      refine ye_p rfl rfl ?_
      exact ih S1 (l1 + 1) y1 lvz2 a0 fa0 g0_z2 g1_z2 M1 h

def f_X10_giveBack_29 : Nat → Nat → yS → Int32 → Option (Int32 × yS)
  | 0, _, _, _ => none
  | n + 1, N, S, l1 => if (S.1 2 5) ≤ l1 then f_X10_giveBack_54 N N S 0 else gR (S.2.1 2 4) 8 l1 fun j1 => bS (f_X6_giveBack N S ((128 + j1))) fun w1 S1 => f_X10_giveBack_29 n N S1 (l1 + 1)
set_option maxHeartbeats 4000000 in
set_option maxRecDepth 40000 in
theorem w_X10_giveBack_29 {F : xH} {ev : xEv} {prim : xRel} {d sz : Nat} {T : yT} {v : Int32} {S' : yS} (N : Nat) (n : Nat) : ∀ (S : yS) (l1 : Int32) (hp : xH) (lv : xLv) (a0 : Nat) (fa0 : yAt T 10 2 0 a0) (g0 : xG lv 0 = some (.ref a0)) (g1 : xG lv 1 = some (.int l1)) (hM : cR [0, 1, 2, 3, 4, 5, 6, 7] F ev T S hp) (h : f_X10_giveBack_29 n N S l1 = some (v, S')), yWE ev.2.1 (xstr ev) (xCalls ev xmi (xprog ev) prim (d + 2)) (pX10_giveBack ev) (29, lv, [], hp, sz, 0) (ypQ [0, 1, 2, 3, 4, 5, 6, 7] F ev T sz (none) S') := by
  induction n with
  | zero => intro S l1 hp lv a0 fa0 g0 g1 hM h; exact n_some h
  | succ n ih =>
    intro S l1 hp lv a0 fa0 g0 g1 hM h
    unfold f_X10_giveBack_29 at h
    refine ye_iload rfl g1 ?_
    refine ye_aload rfl g0 ?_
    refine ye_getf rfl (hM.obj fa0 ⟨rfl, rfl⟩) rfl ?_
    refine ye_icmp_ge rfl (fun h1 => ?_) (fun h1 => ?_)
    · replace h := yiT h1 h
      refine ye_p rfl rfl ?_
      refine ye_p rfl rfl ?_
      have g0_z1 := xG_o1 (i := 1) (v := .int 0) g0 rfl
      have g1_z1 := xG_same lv 1 (.int 0)
      generalize xSt1 lv 1 (.int 0) = lvz1 at g0_z1 g1_z1 ⊢
      exact w_X10_giveBack_54 (prim := prim) (d := d) N N S 0 hp lvz1 a0 fa0 g0_z1 g1_z1 hM h
    · replace h := yiN h1 h
      refine ye_aload rfl g0 ?_
      refine ye_getr rfl (hM.obj fa0 ⟨rfl, rfl⟩) rfl (fun cx1 ecx1 => ?_)
      have fcx1 := yAt.row fa0 ecx1
      refine ye_iload rfl g1 ?_
      obtain ⟨j1, ej1, ij1, rj1, h⟩ := gR_some h
      refine ye_aaldR (t := 5) rfl (hM.arr fcx1 yr_10_4) ij1 ej1 rj1 (fun cx2 ecx2 => ?_)
      have fcx2 : yAt T 6 (128 + j1) 0 cx2 := ⟨hM.refd fcx1 yr_10_4 (by decide) rj1, oc_128 (by have := vp_lt ij1; omega), ecx2⟩
      obtain ⟨w1, S1, hw1, h⟩ := bS_some h
      obtain ⟨y1, cy1, M1⟩ := (m_X6_giveBack (d := d + 0) (T := T) N S ((128 + j1)) cx2 fcx2 hw1) hp sz hM
      refine ye_callV (As := []) (rest := []) 0 (Or.inl rfl) rfl rfl rfl (Nat.le_of_ble_eq_true rfl) (hM.obj fcx2 ⟨rfl, rfl⟩) cy1 ?_
      refine ye_iinc rfl g1 ?_
      have g0_z2 := xG_o1 (i := 1) (v := .int (l1 + 1)) g0 rfl
      have g1_z2 := xG_same lv 1 (.int (l1 + 1))
      generalize xSt1 lv 1 (.int (l1 + 1)) = lvz2 at g0_z2 g1_z2 ⊢
      refine ye_p rfl rfl ?_
      exact ih S1 (l1 + 1) y1 lvz2 a0 fa0 g0_z2 g1_z2 M1 h

def f_X10_giveBack_0 (N : Nat) (S : yS) : Option (Int32 × yS) := sq (yI S 2 13 (S.1 2 17)) fun S1 => sq (yI S1 2 14 (S1.1 2 18)) fun S2 => sq (yI S2 3 1 (S2.1 2 19)) fun S3 => f_X10_giveBack_29 N N S3 0
set_option maxHeartbeats 4000000 in
set_option maxRecDepth 40000 in
theorem w_X10_giveBack_0 {F : xH} {ev : xEv} {prim : xRel} {d sz : Nat} {T : yT} {v : Int32} {S' : yS} (N : Nat) (S : yS) (hp : xH) (lv : xLv) (a0 : Nat) (fa0 : yAt T 10 2 0 a0) (g0 : xG lv 0 = some (.ref a0)) (hM : cR [0, 1, 2, 3, 4, 5, 6, 7] F ev T S hp) (h : f_X10_giveBack_0 N S = some (v, S')) : yWE ev.2.1 (xstr ev) (xCalls ev xmi (xprog ev) prim (d + 2)) (pX10_giveBack ev) (0, lv, [], hp, sz, 0) (ypQ [0, 1, 2, 3, 4, 5, 6, 7] F ev T sz (none) S') := by
  unfold f_X10_giveBack_0 at h
  refine ye_aload rfl g0 ?_
  refine ye_aload rfl g0 ?_
  refine ye_getf rfl (hM.obj fa0 ⟨rfl, rfl⟩) rfl ?_
  obtain ⟨S1, eS1, h⟩ := sq_some h
  refine yw_putI rfl hM fa0 rfl ⟨rfl, rfl⟩ (Nat.le_of_ble_eq_true rfl) rfl rfl (ys_10_13 ev T _ (S.1 2 17)) (fun q => absurd q (by decide)) eS1 (fun y1 M1 => ?_)
  refine ye_aload rfl g0 ?_
  refine ye_aload rfl g0 ?_
  refine ye_getf rfl (M1.obj fa0 ⟨rfl, rfl⟩) rfl ?_
  obtain ⟨S2, eS2, h⟩ := sq_some h
  refine yw_putI rfl M1 fa0 rfl ⟨rfl, rfl⟩ (Nat.le_of_ble_eq_true rfl) rfl rfl (ys_10_14 ev T _ (S1.1 2 18)) (fun q => absurd q (by decide)) eS2 (fun y2 M2 => ?_)
  refine ye_aload rfl g0 ?_
  refine ye_getr rfl (M2.obj fa0 ⟨rfl, rfl⟩) rfl (fun cx1 ecx1 => ?_)
  have fcx1 := M2.root 9 0 (by decide) rfl ecx1
  refine ye_aload rfl g0 ?_
  refine ye_getf rfl (M2.obj fa0 ⟨rfl, rfl⟩) rfl ?_
  obtain ⟨S3, eS3, h⟩ := sq_some h
  refine yw_putI rfl M2 fcx1 rfl ⟨rfl, rfl⟩ (Nat.le_of_ble_eq_true rfl) rfl rfl (ys_9_1 ev T _ (S2.1 2 19)) (fun q => absurd q (by decide)) eS3 (fun y3 M3 => ?_)
  refine ye_p rfl rfl ?_
  refine ye_p rfl rfl ?_
  have g0_z1 := xG_o1 (i := 1) (v := .int 0) g0 rfl
  have g1_z1 := xG_same lv 1 (.int 0)
  generalize xSt1 lv 1 (.int 0) = lvz1 at g0_z1 g1_z1 ⊢
  exact w_X10_giveBack_29 (prim := prim) (d := d) N N S3 0 y3 lvz1 a0 fa0 g0_z1 g1_z1 M3 h
def f_X10_giveBack (N : Nat) (S : yS) : Option (Int32 × yS) := f_X10_giveBack_0 N S
theorem m_X10_giveBack {F : xH} {ev : xEv} {prim : xRel} {d : Nat} {T : yT} {v : Int32} {S' : yS} (N : Nat) (S : yS) (a0 : Nat) (fa0 : yAt T 10 2 0 a0) (h : f_X10_giveBack N S = some (v, S')) : ykQ [0, 1, 2, 3, 4, 5, 6, 7] F ev prim (d + 3) 126 T S [.ref a0] (none) S' :=
  ykQ.of (pg_126 ev) mi_126 (Nat.le_of_ble_eq_true rfl) (fun hp sz hM => w_X10_giveBack_0 (prim := prim) (d := d) N S hp _ a0 fa0 rfl hM h)

def f_X11_field_32 (N : Nat) (S : yS) : Option (Int32 × yS) := some ((-1), S)
set_option maxHeartbeats 4000000 in
set_option maxRecDepth 40000 in
theorem w_X11_field_32 {F : xH} {ev : xEv} {prim : xRel} {d sz : Nat} {T : yT} {v : Int32} {S' : yS} (N : Nat) (S : yS) (hp : xH) (lv : xLv) (hM : cR [0, 1, 2, 3, 4, 5, 6, 7] F ev T S hp) (h : f_X11_field_32 N S = some (v, S')) : yWE ev.2.1 (xstr ev) (xCalls ev xmi (xprog ev) prim (d + 1)) (pX11_field ev) (32, lv, [], hp, sz, 0) (ypQ [0, 1, 2, 3, 4, 5, 6, 7] F ev T sz (some (.int v)) S') := by
  unfold f_X11_field_32 at h
  refine ye_p rfl rfl ?_
  exact ye_ret rfl rfl (rQ h hM)

def f_X11_field_0 (N : Nat) (S : yS) (l1 : Int32) (l2 : Int32) (l3 : Int32) : Option (Int32 × yS) := bV (f_X11_within N S l1 0 99) fun w1 => if w1 = 0 then f_X11_field_32 N S else bV (f_X11_within N S l3 0 9) fun w2 => if w2 = 0 then f_X11_field_32 N S else if (S.1 1 3) < 8 then bS (f_X2_addField N S l1 l2 l3) fun w3 S1 => some (w3, S1) else f_X11_field_32 N S
set_option maxHeartbeats 4000000 in
set_option maxRecDepth 40000 in
theorem w_X11_field_0 {F : xH} {ev : xEv} {prim : xRel} {d sz : Nat} {T : yT} {v : Int32} {S' : yS} (N : Nat) (S : yS) (l1 : Int32) (l2 : Int32) (l3 : Int32) (hp : xH) (lv : xLv) (a0 : Nat) (fa0 : yAt T 11 0 0 a0) (g0 : xG lv 0 = some (.ref a0)) (g1 : xG lv 1 = some (.int l1)) (g2 : xG lv 2 = some (.int l2)) (g3 : xG lv 3 = some (.int l3)) (hM : cR [0, 1, 2, 3, 4, 5, 6, 7] F ev T S hp) (h : f_X11_field_0 N S l1 l2 l3 = some (v, S')) : yWE ev.2.1 (xstr ev) (xCalls ev xmi (xprog ev) prim (d + 1)) (pX11_field ev) (0, lv, [], hp, sz, 0) (ypQ [0, 1, 2, 3, 4, 5, 6, 7] F ev T sz (some (.int v)) S') := by
  unfold f_X11_field_0 at h
  refine ye_iload rfl g1 ?_
  refine ye_p rfl rfl ?_
  refine ye_p rfl rfl ?_
  obtain ⟨w1, hw1, h⟩ := bV_some h
  refine ye_callS (As := [.int l1, .int 0, .int 99]) (rest := []) 1 (Or.inl rfl) rfl rfl rfl (Nat.le_of_ble_eq_true rfl) ((m_X11_within (d := d + 0) (T := T) N S l1 0 99 hw1) hp sz hM) ?_
  refine ye_if_eq rfl (fun h1 => ?_) (fun h1 => ?_)
  · replace h := yiT h1 h
    exact w_X11_field_32 (prim := prim) (d := d) N S hp lv hM h
  · replace h := yiN h1 h
    refine ye_iload rfl g3 ?_
    refine ye_p rfl rfl ?_
    refine ye_p rfl rfl ?_
    obtain ⟨w2, hw2, h⟩ := bV_some h
    refine ye_callS (As := [.int l3, .int 0, .int 9]) (rest := []) 1 (Or.inl rfl) rfl rfl rfl (Nat.le_of_ble_eq_true rfl) ((m_X11_within (d := d + 0) (T := T) N S l3 0 9 hw2) hp sz hM) ?_
    refine ye_if_eq rfl (fun h2 => ?_) (fun h2 => ?_)
    · replace h := yiT h2 h
      exact w_X11_field_32 (prim := prim) (d := d) N S hp lv hM h
    · replace h := yiN h2 h
      refine ye_aload rfl g0 ?_
      refine ye_getr rfl (hM.obj fa0 ⟨rfl, rfl⟩) rfl (fun cx1 ecx1 => ?_)
      have fcx1 := hM.root 2 0 (by decide) rfl ecx1
      refine ye_getf rfl (hM.obj fcx1 ⟨rfl, rfl⟩) rfl ?_
      refine ye_p rfl rfl ?_
      refine ye_icmp_lt rfl (fun h3 => ?_) (fun h3 => ?_)
      · replace h := yiT h3 h
        refine ye_aload rfl g0 ?_
        refine ye_getr rfl (hM.obj fa0 ⟨rfl, rfl⟩) rfl (fun cx2 ecx2 => ?_)
        have fcx2 := hM.root 2 0 (by decide) rfl ecx2
        refine ye_iload rfl g1 ?_
        refine ye_iload rfl g2 ?_
        refine ye_iload rfl g3 ?_
        obtain ⟨w3, S1, hw3, h⟩ := bS_some h
        obtain ⟨y1, cy1, M1⟩ := (m_X2_addField (d := d + 0) (T := T) N S l1 l2 l3 cx2 fcx2 hw3) hp sz hM
        refine ye_callV (As := [.int l1, .int l2, .int l3]) (rest := []) 0 (Or.inl rfl) rfl rfl rfl (Nat.le_of_ble_eq_true rfl) (hM.obj fcx2 ⟨rfl, rfl⟩) cy1 ?_
        exact ye_ret rfl rfl (rQ h M1)
      · replace h := yiN h3 h
        exact w_X11_field_32 (prim := prim) (d := d) N S hp lv hM h
def f_X11_field (N : Nat) (S : yS) (xl1 : Int32) (xl2 : Int32) (xl3 : Int32) : Option (Int32 × yS) := f_X11_field_0 N S xl1 xl2 xl3
theorem m_X11_field {F : xH} {ev : xEv} {prim : xRel} {d : Nat} {T : yT} {v : Int32} {S' : yS} (N : Nat) (S : yS) (xl1 : Int32) (xl2 : Int32) (xl3 : Int32) (a0 : Nat) (fa0 : yAt T 11 0 0 a0) (h : f_X11_field N S xl1 xl2 xl3 = some (v, S')) : ykQ [0, 1, 2, 3, 4, 5, 6, 7] F ev prim (d + 2) 128 T S [.ref a0, .int xl1, .int xl2, .int xl3] (some (.int v)) S' :=
  ykQ.of (pg_128 ev) mi_128 (Nat.le_of_ble_eq_true rfl) (fun hp sz hM => w_X11_field_0 (prim := prim) (d := d) N S xl1 xl2 xl3 hp _ a0 fa0 rfl rfl rfl rfl hM h)

def f_X11_set_106 (N : Nat) (S : yS) (l3 : Int32) : Option (Int32 × yS) := some (l3, S)
set_option maxHeartbeats 4000000 in
set_option maxRecDepth 40000 in
theorem w_X11_set_106 {F : xH} {ev : xEv} {prim : xRel} {d sz : Nat} {T : yT} {v : Int32} {S' : yS} (N : Nat) (S : yS) (l3 : Int32) (hp : xH) (lv : xLv) (g3 : xG lv 3 = some (.int l3)) (hM : cR [0, 1, 2, 3, 4, 5, 6, 7] F ev T S hp) (h : f_X11_set_106 N S l3 = some (v, S')) : yWE ev.2.1 (xstr ev) (xCalls ev xmi (xprog ev) prim (d + 1)) (pX11_set ev) (106, lv, [], hp, sz, 0) (ypQ [0, 1, 2, 3, 4, 5, 6, 7] F ev T sz (some (.int v)) S') := by
  unfold f_X11_set_106 at h
  refine ye_iload rfl g3 ?_
  exact ye_ret rfl rfl (rQ h hM)

def f_X11_set_75 (N : Nat) (S : yS) (l1 : Int32) (l2 : Int32) (l3 : Int32) : Option (Int32 × yS) := if ¬ l1 = 2 then f_X11_set_106 N S l3 else bV (f_X11_within N S l2 0 99) fun w1 => if w1 = 0 then f_X11_set_106 N S l3 else sq (yI S 2 16 l2) fun S1 => f_X11_set_106 N S1 (S.1 2 16)
set_option maxHeartbeats 4000000 in
set_option maxRecDepth 40000 in
theorem w_X11_set_75 {F : xH} {ev : xEv} {prim : xRel} {d sz : Nat} {T : yT} {v : Int32} {S' : yS} (N : Nat) (S : yS) (l1 : Int32) (l2 : Int32) (l3 : Int32) (hp : xH) (lv : xLv) (a0 : Nat) (fa0 : yAt T 11 0 0 a0) (g0 : xG lv 0 = some (.ref a0)) (g1 : xG lv 1 = some (.int l1)) (g2 : xG lv 2 = some (.int l2)) (g3 : xG lv 3 = some (.int l3)) (hM : cR [0, 1, 2, 3, 4, 5, 6, 7] F ev T S hp) (h : f_X11_set_75 N S l1 l2 l3 = some (v, S')) : yWE ev.2.1 (xstr ev) (xCalls ev xmi (xprog ev) prim (d + 1)) (pX11_set ev) (75, lv, [], hp, sz, 0) (ypQ [0, 1, 2, 3, 4, 5, 6, 7] F ev T sz (some (.int v)) S') := by
  unfold f_X11_set_75 at h
  refine ye_iload rfl g1 ?_
  refine ye_p rfl rfl ?_
  refine ye_icmp_ne rfl (fun h1 => ?_) (fun h1 => ?_)
  · replace h := yiT h1 h
    exact w_X11_set_106 (prim := prim) (d := d) N S l3 hp lv g3 hM h
  · replace h := yiN h1 h
    refine ye_iload rfl g2 ?_
    refine ye_p rfl rfl ?_
    refine ye_p rfl rfl ?_
    obtain ⟨w1, hw1, h⟩ := bV_some h
    refine ye_callS (As := [.int l2, .int 0, .int 99]) (rest := []) 1 (Or.inl rfl) rfl rfl rfl (Nat.le_of_ble_eq_true rfl) ((m_X11_within (d := d + 0) (T := T) N S l2 0 99 hw1) hp sz hM) ?_
    refine ye_if_eq rfl (fun h2 => ?_) (fun h2 => ?_)
    · replace h := yiT h2 h
      exact w_X11_set_106 (prim := prim) (d := d) N S l3 hp lv g3 hM h
    · replace h := yiN h2 h
      refine ye_aload rfl g0 ?_
      refine ye_getr rfl (hM.obj fa0 ⟨rfl, rfl⟩) rfl (fun cx1 ecx1 => ?_)
      have fcx1 := hM.root 10 0 (by decide) rfl ecx1
      refine ye_getf rfl (hM.obj fcx1 ⟨rfl, rfl⟩) rfl ?_
      refine ye_p rfl rfl ?_
      have g0_z1 := xG_o1 (i := 3) (v := .int (S.1 2 16)) g0 rfl
      have g2_z1 := xG_o1 (i := 3) (v := .int (S.1 2 16)) g2 rfl
      have g3_z1 := xG_same lv 3 (.int (S.1 2 16))
      generalize xSt1 lv 3 (.int (S.1 2 16)) = lvz1 at g0_z1 g2_z1 g3_z1 ⊢
      refine ye_aload rfl g0_z1 ?_
      refine ye_getr rfl (hM.obj fa0 ⟨rfl, rfl⟩) rfl (fun cx2 ecx2 => ?_)
      have fcx2 := hM.root 10 0 (by decide) rfl ecx2
      refine ye_iload rfl g2_z1 ?_
      obtain ⟨S1, eS1, h⟩ := sq_some h
      refine yw_putI rfl hM fcx2 rfl ⟨rfl, rfl⟩ (Nat.le_of_ble_eq_true rfl) rfl rfl (ys_10_16 ev T _ l2) (fun q => absurd q (by decide)) eS1 (fun y1 M1 => ?_)
      exact w_X11_set_106 (prim := prim) (d := d) N S1 (S.1 2 16) y1 lvz1 g3_z1 M1 h

def f_X11_set_41 (N : Nat) (S : yS) (l1 : Int32) (l2 : Int32) (l3 : Int32) : Option (Int32 × yS) := if ¬ l1 = 1 then f_X11_set_75 N S l1 l2 l3 else bV (f_X11_within N S l2 0 50) fun w1 => if w1 = 0 then f_X11_set_75 N S l1 l2 l3 else sq (yI S 2 15 l2) fun S1 => f_X11_set_106 N S1 (S.1 2 15)
set_option maxHeartbeats 4000000 in
set_option maxRecDepth 40000 in
theorem w_X11_set_41 {F : xH} {ev : xEv} {prim : xRel} {d sz : Nat} {T : yT} {v : Int32} {S' : yS} (N : Nat) (S : yS) (l1 : Int32) (l2 : Int32) (l3 : Int32) (hp : xH) (lv : xLv) (a0 : Nat) (fa0 : yAt T 11 0 0 a0) (g0 : xG lv 0 = some (.ref a0)) (g1 : xG lv 1 = some (.int l1)) (g2 : xG lv 2 = some (.int l2)) (g3 : xG lv 3 = some (.int l3)) (hM : cR [0, 1, 2, 3, 4, 5, 6, 7] F ev T S hp) (h : f_X11_set_41 N S l1 l2 l3 = some (v, S')) : yWE ev.2.1 (xstr ev) (xCalls ev xmi (xprog ev) prim (d + 1)) (pX11_set ev) (41, lv, [], hp, sz, 0) (ypQ [0, 1, 2, 3, 4, 5, 6, 7] F ev T sz (some (.int v)) S') := by
  unfold f_X11_set_41 at h
  refine ye_iload rfl g1 ?_
  refine ye_p rfl rfl ?_
  refine ye_icmp_ne rfl (fun h1 => ?_) (fun h1 => ?_)
  · replace h := yiT h1 h
    exact w_X11_set_75 (prim := prim) (d := d) N S l1 l2 l3 hp lv a0 fa0 g0 g1 g2 g3 hM h
  · replace h := yiN h1 h
    refine ye_iload rfl g2 ?_
    refine ye_p rfl rfl ?_
    refine ye_p rfl rfl ?_
    obtain ⟨w1, hw1, h⟩ := bV_some h
    refine ye_callS (As := [.int l2, .int 0, .int 50]) (rest := []) 1 (Or.inl rfl) rfl rfl rfl (Nat.le_of_ble_eq_true rfl) ((m_X11_within (d := d + 0) (T := T) N S l2 0 50 hw1) hp sz hM) ?_
    refine ye_if_eq rfl (fun h2 => ?_) (fun h2 => ?_)
    · replace h := yiT h2 h
      exact w_X11_set_75 (prim := prim) (d := d) N S l1 l2 l3 hp lv a0 fa0 g0 g1 g2 g3 hM h
    · replace h := yiN h2 h
      refine ye_aload rfl g0 ?_
      refine ye_getr rfl (hM.obj fa0 ⟨rfl, rfl⟩) rfl (fun cx1 ecx1 => ?_)
      have fcx1 := hM.root 10 0 (by decide) rfl ecx1
      refine ye_getf rfl (hM.obj fcx1 ⟨rfl, rfl⟩) rfl ?_
      refine ye_p rfl rfl ?_
      have g0_z1 := xG_o1 (i := 3) (v := .int (S.1 2 15)) g0 rfl
      have g2_z1 := xG_o1 (i := 3) (v := .int (S.1 2 15)) g2 rfl
      have g3_z1 := xG_same lv 3 (.int (S.1 2 15))
      generalize xSt1 lv 3 (.int (S.1 2 15)) = lvz1 at g0_z1 g2_z1 g3_z1 ⊢
      refine ye_aload rfl g0_z1 ?_
      refine ye_getr rfl (hM.obj fa0 ⟨rfl, rfl⟩) rfl (fun cx2 ecx2 => ?_)
      have fcx2 := hM.root 10 0 (by decide) rfl ecx2
      refine ye_iload rfl g2_z1 ?_
      obtain ⟨S1, eS1, h⟩ := sq_some h
      refine yw_putI rfl hM fcx2 rfl ⟨rfl, rfl⟩ (Nat.le_of_ble_eq_true rfl) rfl rfl (ys_10_15 ev T _ l2) (fun q => absurd q (by decide)) eS1 (fun y1 M1 => ?_)
      refine ye_p rfl rfl ?_
      exact w_X11_set_106 (prim := prim) (d := d) N S1 (S.1 2 15) y1 lvz1 g3_z1 M1 h

def f_X11_set_0 (N : Nat) (S : yS) (l1 : Int32) (l2 : Int32) : Option (Int32 × yS) := if ¬ l1 = 0 then f_X11_set_41 N S l1 l2 ((-1)) else bV (f_X11_within N S l2 0 20) fun w1 => if w1 = 0 then f_X11_set_41 N S l1 l2 ((-1)) else sq (yI S 3 0 l2) fun S1 => f_X11_set_106 N S1 (S.1 3 0)
set_option maxHeartbeats 4000000 in
set_option maxRecDepth 40000 in
theorem w_X11_set_0 {F : xH} {ev : xEv} {prim : xRel} {d sz : Nat} {T : yT} {v : Int32} {S' : yS} (N : Nat) (S : yS) (l1 : Int32) (l2 : Int32) (hp : xH) (lv : xLv) (a0 : Nat) (fa0 : yAt T 11 0 0 a0) (g0 : xG lv 0 = some (.ref a0)) (g1 : xG lv 1 = some (.int l1)) (g2 : xG lv 2 = some (.int l2)) (hM : cR [0, 1, 2, 3, 4, 5, 6, 7] F ev T S hp) (h : f_X11_set_0 N S l1 l2 = some (v, S')) : yWE ev.2.1 (xstr ev) (xCalls ev xmi (xprog ev) prim (d + 1)) (pX11_set ev) (0, lv, [], hp, sz, 0) (ypQ [0, 1, 2, 3, 4, 5, 6, 7] F ev T sz (some (.int v)) S') := by
  unfold f_X11_set_0 at h
  refine ye_p rfl rfl ?_
  refine ye_p rfl rfl ?_
  have g0_z1 := xG_o1 (i := 3) (v := .int ((-1))) g0 rfl
  have g1_z1 := xG_o1 (i := 3) (v := .int ((-1))) g1 rfl
  have g2_z1 := xG_o1 (i := 3) (v := .int ((-1))) g2 rfl
  have g3_z1 := xG_same lv 3 (.int ((-1)))
  generalize xSt1 lv 3 (.int ((-1))) = lvz1 at g0_z1 g1_z1 g2_z1 g3_z1 ⊢
  refine ye_iload rfl g1_z1 ?_
  refine ye_if_ne rfl (fun h1 => ?_) (fun h1 => ?_)
  · replace h := yiT h1 h
    exact w_X11_set_41 (prim := prim) (d := d) N S l1 l2 ((-1)) hp lvz1 a0 fa0 g0_z1 g1_z1 g2_z1 g3_z1 hM h
  · replace h := yiN h1 h
    refine ye_iload rfl g2_z1 ?_
    refine ye_p rfl rfl ?_
    refine ye_p rfl rfl ?_
    obtain ⟨w1, hw1, h⟩ := bV_some h
    refine ye_callS (As := [.int l2, .int 0, .int 20]) (rest := []) 1 (Or.inl rfl) rfl rfl rfl (Nat.le_of_ble_eq_true rfl) ((m_X11_within (d := d + 0) (T := T) N S l2 0 20 hw1) hp sz hM) ?_
    refine ye_if_eq rfl (fun h2 => ?_) (fun h2 => ?_)
    · replace h := yiT h2 h
      exact w_X11_set_41 (prim := prim) (d := d) N S l1 l2 ((-1)) hp lvz1 a0 fa0 g0_z1 g1_z1 g2_z1 g3_z1 hM h
    · replace h := yiN h2 h
      refine ye_aload rfl g0_z1 ?_
      refine ye_getr rfl (hM.obj fa0 ⟨rfl, rfl⟩) rfl (fun cx1 ecx1 => ?_)
      have fcx1 := hM.root 10 0 (by decide) rfl ecx1
      refine ye_getr rfl (hM.obj fcx1 ⟨rfl, rfl⟩) rfl (fun cx2 ecx2 => ?_)
      have fcx2 := hM.root 9 0 (by decide) rfl ecx2
      refine ye_getf rfl (hM.obj fcx2 ⟨rfl, rfl⟩) rfl ?_
      refine ye_p rfl rfl ?_
      have g0_z2 := xG_o1 (i := 3) (v := .int (S.1 3 0)) g0_z1 rfl
      have g2_z2 := xG_o1 (i := 3) (v := .int (S.1 3 0)) g2_z1 rfl
      have g3_z2 := xG_same lvz1 3 (.int (S.1 3 0))
      generalize xSt1 lvz1 3 (.int (S.1 3 0)) = lvz2 at g0_z2 g2_z2 g3_z2 ⊢
      refine ye_aload rfl g0_z2 ?_
      refine ye_getr rfl (hM.obj fa0 ⟨rfl, rfl⟩) rfl (fun cx3 ecx3 => ?_)
      have fcx3 := hM.root 10 0 (by decide) rfl ecx3
      refine ye_getr rfl (hM.obj fcx3 ⟨rfl, rfl⟩) rfl (fun cx4 ecx4 => ?_)
      have fcx4 := hM.root 9 0 (by decide) rfl ecx4
      refine ye_iload rfl g2_z2 ?_
      obtain ⟨S1, eS1, h⟩ := sq_some h
      refine yw_putI rfl hM fcx4 rfl ⟨rfl, rfl⟩ (Nat.le_of_ble_eq_true rfl) rfl rfl (ys_9_0 ev T _ l2) (fun q => absurd q (by decide)) eS1 (fun y1 M1 => ?_)
      refine ye_p rfl rfl ?_
      exact w_X11_set_106 (prim := prim) (d := d) N S1 (S.1 3 0) y1 lvz2 g3_z2 M1 h
def f_X11_set (N : Nat) (S : yS) (xl1 : Int32) (xl2 : Int32) : Option (Int32 × yS) := f_X11_set_0 N S xl1 xl2
theorem m_X11_set {F : xH} {ev : xEv} {prim : xRel} {d : Nat} {T : yT} {v : Int32} {S' : yS} (N : Nat) (S : yS) (xl1 : Int32) (xl2 : Int32) (a0 : Nat) (fa0 : yAt T 11 0 0 a0) (h : f_X11_set N S xl1 xl2 = some (v, S')) : ykQ [0, 1, 2, 3, 4, 5, 6, 7] F ev prim (d + 2) 143 T S [.ref a0, .int xl1, .int xl2] (some (.int v)) S' :=
  ykQ.of (pg_143 ev) mi_143 (Nat.le_of_ble_eq_true rfl) (fun hp sz hM => w_X11_set_0 (prim := prim) (d := d) N S xl1 xl2 hp _ a0 fa0 rfl rfl rfl hM h)

def f_X11_end_0 (N : Nat) (S : yS) (l1 : Int32) : Option (Int32 × yS) := bV (f_X11_within N S l1 0 (S.1 0 6)) fun w1 => if ¬ w1 = 0 then sq (yI S 0 6 l1) fun S1 => some (1, S1) else some (0, S)
set_option maxHeartbeats 4000000 in
set_option maxRecDepth 40000 in
theorem w_X11_end_0 {F : xH} {ev : xEv} {prim : xRel} {d sz : Nat} {T : yT} {v : Int32} {S' : yS} (N : Nat) (S : yS) (l1 : Int32) (hp : xH) (lv : xLv) (a0 : Nat) (fa0 : yAt T 11 0 0 a0) (g0 : xG lv 0 = some (.ref a0)) (g1 : xG lv 1 = some (.int l1)) (hM : cR [0, 1, 2, 3, 4, 5, 6, 7] F ev T S hp) (h : f_X11_end_0 N S l1 = some (v, S')) : yWE ev.2.1 (xstr ev) (xCalls ev xmi (xprog ev) prim (d + 1)) (pX11_end ev) (0, lv, [], hp, sz, 0) (ypQ [0, 1, 2, 3, 4, 5, 6, 7] F ev T sz (some (.int v)) S') := by
  unfold f_X11_end_0 at h
  refine ye_iload rfl g1 ?_
  refine ye_p rfl rfl ?_
  refine ye_aload rfl g0 ?_
  refine ye_getf rfl (hM.obj fa0 ⟨rfl, rfl⟩) rfl ?_
  obtain ⟨w1, hw1, h⟩ := bV_some h
  refine ye_callS (As := [.int l1, .int 0, .int (S.1 0 6)]) (rest := []) 1 (Or.inl rfl) rfl rfl rfl (Nat.le_of_ble_eq_true rfl) ((m_X11_within (d := d + 0) (T := T) N S l1 0 (S.1 0 6) hw1) hp sz hM) ?_
  refine ye_if_ne rfl (fun h1 => ?_) (fun h1 => ?_)
  · replace h := yiT h1 h
    refine ye_aload rfl g0 ?_
    refine ye_iload rfl g1 ?_
    obtain ⟨S1, eS1, h⟩ := sq_some h
    refine yw_putI rfl hM fa0 rfl ⟨rfl, rfl⟩ (Nat.le_of_ble_eq_true rfl) rfl rfl (ys_11_6 ev T _ l1) (fun q => absurd q (by decide)) eS1 (fun y1 M1 => ?_)
    refine ye_p rfl rfl ?_
    exact ye_ret rfl rfl (rQ h M1)
  · replace h := yiN h1 h
    refine ye_p rfl rfl ?_
    exact ye_ret rfl rfl (rQ h hM)
def f_X11_end (N : Nat) (S : yS) (xl1 : Int32) : Option (Int32 × yS) := f_X11_end_0 N S xl1
theorem m_X11_end {F : xH} {ev : xEv} {prim : xRel} {d : Nat} {T : yT} {v : Int32} {S' : yS} (N : Nat) (S : yS) (xl1 : Int32) (a0 : Nat) (fa0 : yAt T 11 0 0 a0) (h : f_X11_end N S xl1 = some (v, S')) : ykQ [0, 1, 2, 3, 4, 5, 6, 7] F ev prim (d + 2) 145 T S [.ref a0, .int xl1] (some (.int v)) S' :=
  ykQ.of (pg_145 ev) mi_145 (Nat.le_of_ble_eq_true rfl) (fun hp sz hM => w_X11_end_0 (prim := prim) (d := d) N S xl1 hp _ a0 fa0 rfl rfl hM h)

def f_X11_row_0 (N : Nat) (S : yS) (l1 : Int32) : Option (Option Int32 × yS) := bV (f_X11_within N S l1 0 ((S.1 0 8) - 1)) fun w1 => if ¬ w1 = 0 then gA 32 l1 fun j1 => some (some (S.2.1 0 7 j1), S) else some (none, S)
set_option maxHeartbeats 4000000 in
set_option maxRecDepth 40000 in
theorem w_X11_row_0 {F : xH} {ev : xEv} {prim : xRel} {d sz : Nat} {T : yT} {v : Option Int32} {S' : yS} (N : Nat) (S : yS) (l1 : Int32) (hp : xH) (lv : xLv) (a0 : Nat) (fa0 : yAt T 11 0 0 a0) (g0 : xG lv 0 = some (.ref a0)) (g1 : xG lv 1 = some (.int l1)) (hM : cR [0, 1, 2, 3, 4, 5, 6, 7] F ev T S hp) (h : f_X11_row_0 N S l1 = some (v, S')) : yWE ev.2.1 (xstr ev) (xCalls ev xmi (xprog ev) prim (d + 1)) (pX11_row ev) (0, lv, [], hp, sz, 0) (ypT [0, 1, 2, 3, 4, 5, 6, 7] F ev T sz [14] (vI v) S') := by
  unfold f_X11_row_0 at h
  refine ye_iload rfl g1 ?_
  refine ye_p rfl rfl ?_
  refine ye_aload rfl g0 ?_
  refine ye_getf rfl (hM.obj fa0 ⟨rfl, rfl⟩) rfl ?_
  refine ye_p rfl rfl ?_
  refine ye_p rfl rfl ?_
  obtain ⟨w1, hw1, h⟩ := bV_some h
  refine ye_callS (As := [.int l1, .int 0, .int ((S.1 0 8) - 1)]) (rest := []) 1 (Or.inl rfl) rfl rfl rfl (Nat.le_of_ble_eq_true rfl) ((m_X11_within (d := d + 0) (T := T) N S l1 0 ((S.1 0 8) - 1) hw1) hp sz hM) ?_
  refine ye_if_ne rfl (fun h1 => ?_) (fun h1 => ?_)
  · replace h := yiT h1 h
    refine ye_aload rfl g0 ?_
    refine ye_getr rfl (hM.obj fa0 ⟨rfl, rfl⟩) rfl (fun cx1 ecx1 => ?_)
    have fcx1 := yAt.row fa0 ecx1
    refine ye_iload rfl g1 ?_
    obtain ⟨j1, ej1, ij1, h⟩ := gA_some h
    refine yj_ald rfl (hM.arr fcx1 yr_11_7) ij1 ej1 ?_
    exact ye_ret rfl rfl (rT h hM)
  · replace h := yiN h1 h
    exact ye_stop (rX h (by decide) hM)
def f_X11_row (N : Nat) (S : yS) (xl1 : Int32) : Option (Option Int32 × yS) := f_X11_row_0 N S xl1
theorem m_X11_row {F : xH} {ev : xEv} {prim : xRel} {d : Nat} {T : yT} {v : Option Int32} {S' : yS} (N : Nat) (S : yS) (xl1 : Int32) (a0 : Nat) (fa0 : yAt T 11 0 0 a0) (h : f_X11_row N S xl1 = some (v, S')) : ∀ (hp : xH) (sz : Nat), cR [0, 1, 2, 3, 4, 5, 6, 7] F ev T S hp → yWE ev.2.1 (xstr ev) (xCalls ev xmi (xprog ev) prim (d + 1)) (pX11_row ev) (0, lv_args 0 [.ref a0, .int xl1], [], hp, sz, 0) (ypT [0, 1, 2, 3, 4, 5, 6, 7] F ev T sz [14] (vI v) S') :=
  fun hp sz hM => w_X11_row_0 (prim := prim) (d := d) N S xl1 hp _ a0 fa0 rfl rfl hM h
