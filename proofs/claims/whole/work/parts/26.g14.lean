
def f_X10_startAct_183 (N : Nat) (S : yS) (p1 : Nat) (p2 : Nat) (p3 : Nat) (l4 : Int32) (t1 : Int32) (t2 : Int32) : Option (Int32 × yS) := bS (f_X8r_put N S t1 t2) fun w1 S1 => bS (f_X8r_put N S1 102 (S1.1 p2 3)) fun w2 S2 => bV (f_X11_roundUp N S2 (S2.1 p3 2) (S2.1 p2 0)) fun w3 => bS (f_X8r_put N S2 103 w3) fun w4 S3 => bV (f_X3_goal N S3 p3 l4) fun w5 => bS (f_X10_putCommonLetters N S3 p2 p1 w5) fun w6 S4 => bV (f_X8r_inForce N S4 0 (S4.1 2 13)) fun w7 => bS (f_X8r_run N S4 w7 87) fun w8 S5 => some (w8, S5)
set_option maxHeartbeats 4000000 in
set_option maxRecDepth 40000 in
theorem w_X10_startAct_183 {F : xH} {ev : xEv} {prim : xRel} {d sz : Nat} {T : yT} {v : Int32} {S' : yS} (N : Nat) (S : yS) (p1 : Nat) (p2 : Nat) (p3 : Nat) (l4 : Int32) (t1 : Int32) (t2 : Int32) (hp : xH) (lv : xLv) (a0 : Nat) (a1 : Nat) (a2 : Nat) (a3 : Nat) (b0 : Nat) (fa0 : yAt T 10 2 0 a0) (fa1 : yAt T 1 p1 0 a1) (fa2 : yAt T 6 p2 0 a2) (fa3 : yAt T 3 p3 0 a3) (fb0 : yAt T 14 4 0 b0) (g0 : xG lv 0 = some (.ref a0)) (g1 : xG lv 1 = some (.ref a1)) (g2 : xG lv 2 = some (.ref a2)) (g3 : xG lv 3 = some (.ref a3)) (g4 : xG lv 4 = some (.int l4)) (hM : cR [0, 1, 2, 3, 4, 5, 6, 7] F ev T S hp) (h : f_X10_startAct_183 N S p1 p2 p3 l4 t1 t2 = some (v, S')) : yWE ev.2.1 (xstr ev) (xCalls ev xmi (xprog ev) prim (d + 3)) (pX10_startAct ev) (183, lv, [.int t2, .int t1, .ref b0], hp, sz, 0) (ypQ [0, 1, 2, 3, 4, 5, 6, 7] F ev T sz (some (.int v)) S') := by
  unfold f_X10_startAct_183 at h
  obtain ⟨w1, S1, hw1, h⟩ := bS_some h
  obtain ⟨y1, cy1, M1⟩ := (m_X8r_put (d := d + 2) (T := T) N S t1 t2 b0 fb0 hw1) hp sz hM
  refine ye_callV (As := [.int t1, .int t2]) (rest := []) 0 (Or.inl rfl) rfl rfl rfl (Nat.le_of_ble_eq_true rfl) (hM.obj fb0 ⟨rfl, rfl⟩) cy1 ?_
  refine ye_aload rfl g0 ?_
  refine ye_getr rfl (M1.obj fa0 ⟨rfl, rfl⟩) rfl (fun cx1 ecx1 => ?_)
  have fcx1 := M1.root 14 0 (by decide) rfl ecx1
  refine ye_p rfl rfl ?_
  refine ye_aload rfl g2 ?_
  refine ye_getf rfl (M1.obj fa2 ⟨rfl, rfl⟩) rfl ?_
  obtain ⟨w2, S2, hw2, h⟩ := bS_some h
  obtain ⟨y2, cy2, M2⟩ := (m_X8r_put (d := d + 2) (T := T) N S1 102 (S1.1 p2 3) cx1 fcx1 hw2) y1 sz M1
  refine ye_callV (As := [.int 102, .int (S1.1 p2 3)]) (rest := []) 0 (Or.inl rfl) rfl rfl rfl (Nat.le_of_ble_eq_true rfl) (M1.obj fcx1 ⟨rfl, rfl⟩) cy2 ?_
  refine ye_aload rfl g0 ?_
  refine ye_getr rfl (M2.obj fa0 ⟨rfl, rfl⟩) rfl (fun cx2 ecx2 => ?_)
  have fcx2 := M2.root 14 0 (by decide) rfl ecx2
  refine ye_p rfl rfl ?_
  refine ye_aload rfl g3 ?_
  refine ye_getf rfl (M2.obj fa3 ⟨rfl, rfl⟩) rfl ?_
  refine ye_aload rfl g2 ?_
  refine ye_getf rfl (M2.obj fa2 ⟨rfl, rfl⟩) rfl ?_
  obtain ⟨w3, hw3, h⟩ := bV_some h
  refine ye_callS (As := [.int (S2.1 p3 2), .int (S2.1 p2 0)]) (rest := [.int 103, .ref cx2]) 3 (Or.inr rfl) rfl rfl rfl (Nat.le_of_ble_eq_true rfl) ((m_X11_roundUp (d := d + 2) (T := T) N S2 (S2.1 p3 2) (S2.1 p2 0) hw3) y2 sz M2) ?_
  obtain ⟨w4, S3, hw4, h⟩ := bS_some h
  obtain ⟨y3, cy3, M3⟩ := (m_X8r_put (d := d + 2) (T := T) N S2 103 w3 cx2 fcx2 hw4) y2 sz M2
  refine ye_callV (As := [.int 103, .int w3]) (rest := []) 0 (Or.inl rfl) rfl rfl rfl (Nat.le_of_ble_eq_true rfl) (M2.obj fcx2 ⟨rfl, rfl⟩) cy3 ?_
  refine ye_aload rfl g0 ?_
  refine ye_aload rfl g2 ?_
  refine ye_aload rfl g1 ?_
  refine ye_aload rfl g3 ?_
  refine ye_iload rfl g4 ?_
  obtain ⟨w5, hw5, h⟩ := bV_some h
  refine ye_callV (As := [.int l4]) (rest := [.ref a1, .ref a2, .ref a0]) 0 (Or.inl rfl) rfl rfl rfl (Nat.le_of_ble_eq_true rfl) (M3.obj fa3 ⟨rfl, rfl⟩) ((m_X3_goal (d := d + 2) (T := T) N S3 p3 l4 a3 fa3 hw5) y3 sz M3) ?_
  obtain ⟨w6, S4, hw6, h⟩ := bS_some h
  obtain ⟨y4, cy4, M4⟩ := (m_X10_putCommonLetters (d := d + 1) (T := T) N S3 p2 p1 w5 a0 a2 a1 fa0 fa2 fa1 hw6) y3 sz M3
  refine ye_callV (As := [.ref a2, .ref a1, .int w5]) (rest := []) 0 (Or.inl rfl) rfl rfl rfl (Nat.le_of_ble_eq_true rfl) (M3.obj fa0 ⟨rfl, rfl⟩) cy4 ?_
  refine ye_aload rfl g0 ?_
  refine ye_getr rfl (M4.obj fa0 ⟨rfl, rfl⟩) rfl (fun cx3 ecx3 => ?_)
  have fcx3 := M4.root 14 0 (by decide) rfl ecx3
  refine ye_aload rfl g0 ?_
  refine ye_getr rfl (M4.obj fa0 ⟨rfl, rfl⟩) rfl (fun cx4 ecx4 => ?_)
  have fcx4 := M4.root 14 0 (by decide) rfl ecx4
  refine ye_p rfl rfl ?_
  refine ye_aload rfl g0 ?_
  refine ye_getf rfl (M4.obj fa0 ⟨rfl, rfl⟩) rfl ?_
  obtain ⟨w7, hw7, h⟩ := bV_some h
  refine ye_callV (As := [.int 0, .int (S4.1 2 13)]) (rest := [.ref cx3]) 0 (Or.inl rfl) rfl rfl rfl (Nat.le_of_ble_eq_true rfl) (M4.obj fcx4 ⟨rfl, rfl⟩) ((m_X8r_inForce (d := d + 2) (T := T) N S4 0 (S4.1 2 13) cx4 fcx4 hw7) y4 sz M4) ?_
  refine ye_p rfl rfl ?_
  obtain ⟨w8, S5, hw8, h⟩ := bS_some h
  obtain ⟨y5, cy5, M5⟩ := (m_X8r_run (d := d + 0) (T := T) N S4 w7 87 cx3 fcx3 hw8) y4 sz M4
  refine ye_callV (As := [.int w7, .int 87]) (rest := []) 0 (Or.inl rfl) rfl rfl rfl (Nat.le_of_ble_eq_true rfl) (M4.obj fcx3 ⟨rfl, rfl⟩) cy5 ?_
  exact ye_ret rfl rfl (rQ h M5)

def f_X10_startAct_148 (N : Nat) (S : yS) (p1 : Nat) (p2 : Nat) (p3 : Nat) (l4 : Int32) (l5 : Int32) (l6 : Int32) (t1 : Int32) (t2 : Int32) : Option (Int32 × yS) := bS (f_X8r_put N S t1 t2) fun w1 S1 => if l6 = 0 then gA 120 l5 fun j1 => f_X10_startAct_183 N S1 p1 p2 p3 l4 97 ((S1.1 2 13) - (S1.2.1 3 2 j1)) else f_X10_startAct_183 N S1 p1 p2 p3 l4 97 999
set_option maxHeartbeats 4000000 in
set_option maxRecDepth 40000 in
theorem w_X10_startAct_148 {F : xH} {ev : xEv} {prim : xRel} {d sz : Nat} {T : yT} {v : Int32} {S' : yS} (N : Nat) (S : yS) (p1 : Nat) (p2 : Nat) (p3 : Nat) (l4 : Int32) (l5 : Int32) (l6 : Int32) (t1 : Int32) (t2 : Int32) (hp : xH) (lv : xLv) (a0 : Nat) (a1 : Nat) (a2 : Nat) (a3 : Nat) (b0 : Nat) (fa0 : yAt T 10 2 0 a0) (fa1 : yAt T 1 p1 0 a1) (fa2 : yAt T 6 p2 0 a2) (fa3 : yAt T 3 p3 0 a3) (fb0 : yAt T 14 4 0 b0) (g0 : xG lv 0 = some (.ref a0)) (g1 : xG lv 1 = some (.ref a1)) (g2 : xG lv 2 = some (.ref a2)) (g3 : xG lv 3 = some (.ref a3)) (g4 : xG lv 4 = some (.int l4)) (g5 : xG lv 5 = some (.int l5)) (g6 : xG lv 6 = some (.int l6)) (hM : cR [0, 1, 2, 3, 4, 5, 6, 7] F ev T S hp) (h : f_X10_startAct_148 N S p1 p2 p3 l4 l5 l6 t1 t2 = some (v, S')) : yWE ev.2.1 (xstr ev) (xCalls ev xmi (xprog ev) prim (d + 3)) (pX10_startAct ev) (148, lv, [.int t2, .int t1, .ref b0], hp, sz, 0) (ypQ [0, 1, 2, 3, 4, 5, 6, 7] F ev T sz (some (.int v)) S') := by
  unfold f_X10_startAct_148 at h
  obtain ⟨w1, S1, hw1, h⟩ := bS_some h
  obtain ⟨y1, cy1, M1⟩ := (m_X8r_put (d := d + 2) (T := T) N S t1 t2 b0 fb0 hw1) hp sz hM
  refine ye_callV (As := [.int t1, .int t2]) (rest := []) 0 (Or.inl rfl) rfl rfl rfl (Nat.le_of_ble_eq_true rfl) (hM.obj fb0 ⟨rfl, rfl⟩) cy1 ?_
  refine ye_aload rfl g0 ?_
  refine ye_getr rfl (M1.obj fa0 ⟨rfl, rfl⟩) rfl (fun cx1 ecx1 => ?_)
  have fcx1 := M1.root 14 0 (by decide) rfl ecx1
  refine ye_p rfl rfl ?_
  refine ye_iload rfl g6 ?_
  refine ye_if_eq rfl (fun h1 => ?_) (fun h1 => ?_)
  · replace h := yiT h1 h
    refine ye_aload rfl g0 ?_
    refine ye_getf rfl (M1.obj fa0 ⟨rfl, rfl⟩) rfl ?_
    refine ye_aload rfl g0 ?_
    refine ye_getr rfl (M1.obj fa0 ⟨rfl, rfl⟩) rfl (fun cx2 ecx2 => ?_)
    have fcx2 := M1.root 9 0 (by decide) rfl ecx2
    refine ye_getr rfl (M1.obj fcx2 ⟨rfl, rfl⟩) rfl (fun cx3 ecx3 => ?_)
    have fcx3 := yAt.row fcx2 ecx3
    refine ye_iload rfl g5 ?_
    obtain ⟨j1, ej1, ij1, h⟩ := gA_some h
    refine yj_ald rfl (M1.arr fcx3 yr_9_2) ij1 ej1 ?_
    refine ye_p rfl rfl ?_
    exact w_X10_startAct_183 (prim := prim) (d := d) N S1 p1 p2 p3 l4 97 ((S1.1 2 13) - (S1.2.1 3 2 j1)) y1 lv a0 a1 a2 a3 cx1 fa0 fa1 fa2 fa3 fcx1 g0 g1 g2 g3 g4 M1 h
  · replace h := yiN h1 h
    refine ye_p rfl rfl ?_
    refine ye_p rfl rfl ?_
    exact w_X10_startAct_183 (prim := prim) (d := d) N S1 p1 p2 p3 l4 97 999 y1 lv a0 a1 a2 a3 cx1 fa0 fa1 fa2 fa3 fcx1 g0 g1 g2 g3 g4 M1 h

def f_X10_startAct_126 (N : Nat) (S : yS) (p1 : Nat) (p2 : Nat) (p3 : Nat) (l4 : Int32) (l5 : Int32) (l6 : Int32) (l7 : Int32) (t1 : Int32) (t2 : Int32) : Option (Int32 × yS) := bS (f_X8r_put N S t1 t2) fun w1 S1 => if l4 = 0 then f_X10_startAct_148 N S1 p1 p2 p3 l4 l5 l6 119 (-l7) else f_X10_startAct_148 N S1 p1 p2 p3 l4 l5 l6 119 l7
set_option maxHeartbeats 4000000 in
set_option maxRecDepth 40000 in
theorem w_X10_startAct_126 {F : xH} {ev : xEv} {prim : xRel} {d sz : Nat} {T : yT} {v : Int32} {S' : yS} (N : Nat) (S : yS) (p1 : Nat) (p2 : Nat) (p3 : Nat) (l4 : Int32) (l5 : Int32) (l6 : Int32) (l7 : Int32) (t1 : Int32) (t2 : Int32) (hp : xH) (lv : xLv) (a0 : Nat) (a1 : Nat) (a2 : Nat) (a3 : Nat) (b0 : Nat) (fa0 : yAt T 10 2 0 a0) (fa1 : yAt T 1 p1 0 a1) (fa2 : yAt T 6 p2 0 a2) (fa3 : yAt T 3 p3 0 a3) (fb0 : yAt T 14 4 0 b0) (g0 : xG lv 0 = some (.ref a0)) (g1 : xG lv 1 = some (.ref a1)) (g2 : xG lv 2 = some (.ref a2)) (g3 : xG lv 3 = some (.ref a3)) (g4 : xG lv 4 = some (.int l4)) (g5 : xG lv 5 = some (.int l5)) (g6 : xG lv 6 = some (.int l6)) (g7 : xG lv 7 = some (.int l7)) (hM : cR [0, 1, 2, 3, 4, 5, 6, 7] F ev T S hp) (h : f_X10_startAct_126 N S p1 p2 p3 l4 l5 l6 l7 t1 t2 = some (v, S')) : yWE ev.2.1 (xstr ev) (xCalls ev xmi (xprog ev) prim (d + 3)) (pX10_startAct ev) (126, lv, [.int t2, .int t1, .ref b0], hp, sz, 0) (ypQ [0, 1, 2, 3, 4, 5, 6, 7] F ev T sz (some (.int v)) S') := by
  unfold f_X10_startAct_126 at h
  obtain ⟨w1, S1, hw1, h⟩ := bS_some h
  obtain ⟨y1, cy1, M1⟩ := (m_X8r_put (d := d + 2) (T := T) N S t1 t2 b0 fb0 hw1) hp sz hM
  refine ye_callV (As := [.int t1, .int t2]) (rest := []) 0 (Or.inl rfl) rfl rfl rfl (Nat.le_of_ble_eq_true rfl) (hM.obj fb0 ⟨rfl, rfl⟩) cy1 ?_
  refine ye_aload rfl g0 ?_
  refine ye_getr rfl (M1.obj fa0 ⟨rfl, rfl⟩) rfl (fun cx1 ecx1 => ?_)
  have fcx1 := M1.root 14 0 (by decide) rfl ecx1
  refine ye_p rfl rfl ?_
  refine ye_iload rfl g4 ?_
  refine ye_if_eq rfl (fun h1 => ?_) (fun h1 => ?_)
  · replace h := yiT h1 h
    refine ye_iload rfl g7 ?_
    refine ye_p rfl rfl ?_
    exact w_X10_startAct_148 (prim := prim) (d := d) N S1 p1 p2 p3 l4 l5 l6 119 (-l7) y1 lv a0 a1 a2 a3 cx1 fa0 fa1 fa2 fa3 fcx1 g0 g1 g2 g3 g4 g5 g6 M1 h
  · replace h := yiN h1 h
    refine ye_iload rfl g7 ?_
    refine ye_p rfl rfl ?_
    exact w_X10_startAct_148 (prim := prim) (d := d) N S1 p1 p2 p3 l4 l5 l6 119 l7 y1 lv a0 a1 a2 a3 cx1 fa0 fa1 fa2 fa3 fcx1 g0 g1 g2 g3 g4 g5 g6 M1 h

def f_X10_startAct_94 (N : Nat) (S : yS) (p1 : Nat) (p2 : Nat) (p3 : Nat) (l4 : Int32) (l5 : Int32) (l6 : Int32) (t0 : Int32) : Option (Int32 × yS) := if l6 = 0 then gA 120 l5 fun j1 => f_X10_startAct_126 N S p1 p2 p3 l4 l5 l6 t0 99 ((S.2.1 3 3 j1) - (S.1 p3 3)) else f_X10_startAct_126 N S p1 p2 p3 l4 l5 l6 t0 99 0
set_option maxHeartbeats 4000000 in
set_option maxRecDepth 40000 in
theorem w_X10_startAct_94 {F : xH} {ev : xEv} {prim : xRel} {d sz : Nat} {T : yT} {v : Int32} {S' : yS} (N : Nat) (S : yS) (p1 : Nat) (p2 : Nat) (p3 : Nat) (l4 : Int32) (l5 : Int32) (l6 : Int32) (t0 : Int32) (hp : xH) (lv : xLv) (a0 : Nat) (a1 : Nat) (a2 : Nat) (a3 : Nat) (fa0 : yAt T 10 2 0 a0) (fa1 : yAt T 1 p1 0 a1) (fa2 : yAt T 6 p2 0 a2) (fa3 : yAt T 3 p3 0 a3) (g0 : xG lv 0 = some (.ref a0)) (g1 : xG lv 1 = some (.ref a1)) (g2 : xG lv 2 = some (.ref a2)) (g3 : xG lv 3 = some (.ref a3)) (g4 : xG lv 4 = some (.int l4)) (g5 : xG lv 5 = some (.int l5)) (g6 : xG lv 6 = some (.int l6)) (hM : cR [0, 1, 2, 3, 4, 5, 6, 7] F ev T S hp) (h : f_X10_startAct_94 N S p1 p2 p3 l4 l5 l6 t0 = some (v, S')) : yWE ev.2.1 (xstr ev) (xCalls ev xmi (xprog ev) prim (d + 3)) (pX10_startAct ev) (94, lv, [.int t0], hp, sz, 0) (ypQ [0, 1, 2, 3, 4, 5, 6, 7] F ev T sz (some (.int v)) S') := by
  unfold f_X10_startAct_94 at h
  refine ye_p rfl rfl ?_
  have g0_z1 := xG_o1 (i := 7) (v := .int t0) g0 rfl
  have g1_z1 := xG_o1 (i := 7) (v := .int t0) g1 rfl
  have g2_z1 := xG_o1 (i := 7) (v := .int t0) g2 rfl
  have g3_z1 := xG_o1 (i := 7) (v := .int t0) g3 rfl
  have g4_z1 := xG_o1 (i := 7) (v := .int t0) g4 rfl
  have g5_z1 := xG_o1 (i := 7) (v := .int t0) g5 rfl
  have g6_z1 := xG_o1 (i := 7) (v := .int t0) g6 rfl
  have g7_z1 := xG_same lv 7 (.int t0)
  generalize xSt1 lv 7 (.int t0) = lvz1 at g0_z1 g1_z1 g2_z1 g3_z1 g4_z1 g5_z1 g6_z1 g7_z1 ⊢
  refine ye_aload rfl g0_z1 ?_
  refine ye_getr rfl (hM.obj fa0 ⟨rfl, rfl⟩) rfl (fun cx1 ecx1 => ?_)
  have fcx1 := hM.root 14 0 (by decide) rfl ecx1
  refine ye_p rfl rfl ?_
  refine ye_iload rfl g6_z1 ?_
  refine ye_if_eq rfl (fun h1 => ?_) (fun h1 => ?_)
  · replace h := yiT h1 h
    refine ye_aload rfl g0_z1 ?_
    refine ye_getr rfl (hM.obj fa0 ⟨rfl, rfl⟩) rfl (fun cx2 ecx2 => ?_)
    have fcx2 := hM.root 9 0 (by decide) rfl ecx2
    refine ye_getr rfl (hM.obj fcx2 ⟨rfl, rfl⟩) rfl (fun cx3 ecx3 => ?_)
    have fcx3 := yAt.row fcx2 ecx3
    refine ye_iload rfl g5_z1 ?_
    obtain ⟨j1, ej1, ij1, h⟩ := gA_some h
    refine yj_ald rfl (hM.arr fcx3 yr_9_3) ij1 ej1 ?_
    refine ye_aload rfl g3_z1 ?_
    refine ye_getf rfl (hM.obj fa3 ⟨rfl, rfl⟩) rfl ?_
    refine ye_p rfl rfl ?_
    exact w_X10_startAct_126 (prim := prim) (d := d) N S p1 p2 p3 l4 l5 l6 t0 99 ((S.2.1 3 3 j1) - (S.1 p3 3)) hp lvz1 a0 a1 a2 a3 cx1 fa0 fa1 fa2 fa3 fcx1 g0_z1 g1_z1 g2_z1 g3_z1 g4_z1 g5_z1 g6_z1 g7_z1 hM h
  · replace h := yiN h1 h
    refine ye_p rfl rfl ?_
    refine ye_p rfl rfl ?_
    exact w_X10_startAct_126 (prim := prim) (d := d) N S p1 p2 p3 l4 l5 l6 t0 99 0 hp lvz1 a0 a1 a2 a3 cx1 fa0 fa1 fa2 fa3 fcx1 g0_z1 g1_z1 g2_z1 g3_z1 g4_z1 g5_z1 g6_z1 g7_z1 hM h

def f_X10_startAct_73 (N : Nat) (S : yS) (p1 : Nat) (p2 : Nat) (p3 : Nat) (l4 : Int32) (l5 : Int32) (t0 : Int32) : Option (Int32 × yS) := if t0 = 0 then gA 120 l5 fun j1 => f_X10_startAct_94 N S p1 p2 p3 l4 l5 t0 (S.2.1 3 4 j1) else f_X10_startAct_94 N S p1 p2 p3 l4 l5 t0 0
set_option maxHeartbeats 4000000 in
set_option maxRecDepth 40000 in
theorem w_X10_startAct_73 {F : xH} {ev : xEv} {prim : xRel} {d sz : Nat} {T : yT} {v : Int32} {S' : yS} (N : Nat) (S : yS) (p1 : Nat) (p2 : Nat) (p3 : Nat) (l4 : Int32) (l5 : Int32) (t0 : Int32) (hp : xH) (lv : xLv) (a0 : Nat) (a1 : Nat) (a2 : Nat) (a3 : Nat) (fa0 : yAt T 10 2 0 a0) (fa1 : yAt T 1 p1 0 a1) (fa2 : yAt T 6 p2 0 a2) (fa3 : yAt T 3 p3 0 a3) (g0 : xG lv 0 = some (.ref a0)) (g1 : xG lv 1 = some (.ref a1)) (g2 : xG lv 2 = some (.ref a2)) (g3 : xG lv 3 = some (.ref a3)) (g4 : xG lv 4 = some (.int l4)) (g5 : xG lv 5 = some (.int l5)) (hM : cR [0, 1, 2, 3, 4, 5, 6, 7] F ev T S hp) (h : f_X10_startAct_73 N S p1 p2 p3 l4 l5 t0 = some (v, S')) : yWE ev.2.1 (xstr ev) (xCalls ev xmi (xprog ev) prim (d + 3)) (pX10_startAct ev) (73, lv, [.int t0], hp, sz, 0) (ypQ [0, 1, 2, 3, 4, 5, 6, 7] F ev T sz (some (.int v)) S') := by
  unfold f_X10_startAct_73 at h
  refine ye_p rfl rfl ?_
  have g0_z1 := xG_o1 (i := 6) (v := .int t0) g0 rfl
  have g1_z1 := xG_o1 (i := 6) (v := .int t0) g1 rfl
  have g2_z1 := xG_o1 (i := 6) (v := .int t0) g2 rfl
  have g3_z1 := xG_o1 (i := 6) (v := .int t0) g3 rfl
  have g4_z1 := xG_o1 (i := 6) (v := .int t0) g4 rfl
  have g5_z1 := xG_o1 (i := 6) (v := .int t0) g5 rfl
  have g6_z1 := xG_same lv 6 (.int t0)
  generalize xSt1 lv 6 (.int t0) = lvz1 at g0_z1 g1_z1 g2_z1 g3_z1 g4_z1 g5_z1 g6_z1 ⊢
  refine ye_iload rfl g6_z1 ?_
  refine ye_if_eq rfl (fun h1 => ?_) (fun h1 => ?_)
  · replace h := yiT h1 h
    refine ye_aload rfl g0_z1 ?_
    refine ye_getr rfl (hM.obj fa0 ⟨rfl, rfl⟩) rfl (fun cx1 ecx1 => ?_)
    have fcx1 := hM.root 9 0 (by decide) rfl ecx1
    refine ye_getr rfl (hM.obj fcx1 ⟨rfl, rfl⟩) rfl (fun cx2 ecx2 => ?_)
    have fcx2 := yAt.row fcx1 ecx2
    refine ye_iload rfl g5_z1 ?_
    obtain ⟨j1, ej1, ij1, h⟩ := gA_some h
    refine yj_ald rfl (hM.arr fcx2 yr_9_4) ij1 ej1 ?_
    exact w_X10_startAct_94 (prim := prim) (d := d) N S p1 p2 p3 l4 l5 t0 (S.2.1 3 4 j1) hp lvz1 a0 a1 a2 a3 fa0 fa1 fa2 fa3 g0_z1 g1_z1 g2_z1 g3_z1 g4_z1 g5_z1 g6_z1 hM h
  · replace h := yiN h1 h
    refine ye_p rfl rfl ?_
    refine ye_p rfl rfl ?_
    exact w_X10_startAct_94 (prim := prim) (d := d) N S p1 p2 p3 l4 l5 t0 0 hp lvz1 a0 a1 a2 a3 fa0 fa1 fa2 fa3 g0_z1 g1_z1 g2_z1 g3_z1 g4_z1 g5_z1 g6_z1 hM h

def f_X10_startAct_39 (N : Nat) (S : yS) (p1 : Nat) (p2 : Nat) (p3 : Nat) (t0 : Int32) : Option (Int32 × yS) := bV (f_X9_latest N S (S.1 p2 8) (S.1 p1 2) (S.1 2 13)) fun w1 => if ¬ w1 = ((-1)) then f_X10_startAct_73 N S p1 p2 p3 t0 w1 0 else f_X10_startAct_73 N S p1 p2 p3 t0 w1 1
set_option maxHeartbeats 4000000 in
set_option maxRecDepth 40000 in
theorem w_X10_startAct_39 {F : xH} {ev : xEv} {prim : xRel} {d sz : Nat} {T : yT} {v : Int32} {S' : yS} (N : Nat) (S : yS) (p1 : Nat) (p2 : Nat) (p3 : Nat) (t0 : Int32) (hp : xH) (lv : xLv) (a0 : Nat) (a1 : Nat) (a2 : Nat) (a3 : Nat) (fa0 : yAt T 10 2 0 a0) (fa1 : yAt T 1 p1 0 a1) (fa2 : yAt T 6 p2 0 a2) (fa3 : yAt T 3 p3 0 a3) (g0 : xG lv 0 = some (.ref a0)) (g1 : xG lv 1 = some (.ref a1)) (g2 : xG lv 2 = some (.ref a2)) (g3 : xG lv 3 = some (.ref a3)) (hM : cR [0, 1, 2, 3, 4, 5, 6, 7] F ev T S hp) (h : f_X10_startAct_39 N S p1 p2 p3 t0 = some (v, S')) : yWE ev.2.1 (xstr ev) (xCalls ev xmi (xprog ev) prim (d + 3)) (pX10_startAct ev) (39, lv, [.int t0], hp, sz, 0) (ypQ [0, 1, 2, 3, 4, 5, 6, 7] F ev T sz (some (.int v)) S') := by
  unfold f_X10_startAct_39 at h
  refine ye_p rfl rfl ?_
  have g0_z1 := xG_o1 (i := 4) (v := .int t0) g0 rfl
  have g1_z1 := xG_o1 (i := 4) (v := .int t0) g1 rfl
  have g2_z1 := xG_o1 (i := 4) (v := .int t0) g2 rfl
  have g3_z1 := xG_o1 (i := 4) (v := .int t0) g3 rfl
  have g4_z1 := xG_same lv 4 (.int t0)
  generalize xSt1 lv 4 (.int t0) = lvz1 at g0_z1 g1_z1 g2_z1 g3_z1 g4_z1 ⊢
  refine ye_aload rfl g0_z1 ?_
  refine ye_getr rfl (hM.obj fa0 ⟨rfl, rfl⟩) rfl (fun cx1 ecx1 => ?_)
  have fcx1 := hM.root 9 0 (by decide) rfl ecx1
  refine ye_aload rfl g2_z1 ?_
  refine ye_getf rfl (hM.obj fa2 ⟨rfl, rfl⟩) rfl ?_
  refine ye_aload rfl g1_z1 ?_
  refine ye_getf rfl (hM.obj fa1 ⟨rfl, rfl⟩) rfl ?_
  refine ye_aload rfl g0_z1 ?_
  refine ye_getf rfl (hM.obj fa0 ⟨rfl, rfl⟩) rfl ?_
  obtain ⟨w1, hw1, h⟩ := bV_some h
  refine ye_callV (As := [.int (S.1 p2 8), .int (S.1 p1 2), .int (S.1 2 13)]) (rest := []) 0 (Or.inl rfl) rfl rfl rfl (Nat.le_of_ble_eq_true rfl) (hM.obj fcx1 ⟨rfl, rfl⟩) ((m_X9_latest (d := d + 2) (T := T) N S (S.1 p2 8) (S.1 p1 2) (S.1 2 13) cx1 fcx1 hw1) hp sz hM) ?_
  refine ye_p rfl rfl ?_
  have g0_z2 := xG_o1 (i := 5) (v := .int w1) g0_z1 rfl
  have g1_z2 := xG_o1 (i := 5) (v := .int w1) g1_z1 rfl
  have g2_z2 := xG_o1 (i := 5) (v := .int w1) g2_z1 rfl
  have g3_z2 := xG_o1 (i := 5) (v := .int w1) g3_z1 rfl
  have g4_z2 := xG_o1 (i := 5) (v := .int w1) g4_z1 rfl
  have g5_z2 := xG_same lvz1 5 (.int w1)
  generalize xSt1 lvz1 5 (.int w1) = lvz2 at g0_z2 g1_z2 g2_z2 g3_z2 g4_z2 g5_z2 ⊢
  refine ye_iload rfl g5_z2 ?_
  refine ye_p rfl rfl ?_
  refine ye_icmp_ne rfl (fun h1 => ?_) (fun h1 => ?_)
  · replace h := yiT h1 h
    refine ye_p rfl rfl ?_
    exact w_X10_startAct_73 (prim := prim) (d := d) N S p1 p2 p3 t0 w1 0 hp lvz2 a0 a1 a2 a3 fa0 fa1 fa2 fa3 g0_z2 g1_z2 g2_z2 g3_z2 g4_z2 g5_z2 hM h
  · replace h := yiN h1 h
    refine ye_p rfl rfl ?_
    refine ye_p rfl rfl ?_
    exact w_X10_startAct_73 (prim := prim) (d := d) N S p1 p2 p3 t0 w1 1 hp lvz2 a0 a1 a2 a3 fa0 fa1 fa2 fa3 g0_z2 g1_z2 g2_z2 g3_z2 g4_z2 g5_z2 hM h

def f_X10_startAct_0 (N : Nat) (S : yS) (p1 : Nat) : Option (Int32 × yS) := gR (S.2.1 2 4) 8 (S.1 p1 0) fun j1 => gR (S.2.1 1 4) 12 (S.1 p1 2) fun j2 => if ¬ (S.1 ((128 + j1)) 8) = (S.1 ((64 + j2)) 0) then f_X10_startAct_39 N S p1 ((128 + j1)) ((64 + j2)) 0 else f_X10_startAct_39 N S p1 ((128 + j1)) ((64 + j2)) 1
set_option maxHeartbeats 4000000 in
set_option maxRecDepth 40000 in
theorem w_X10_startAct_0 {F : xH} {ev : xEv} {prim : xRel} {d sz : Nat} {T : yT} {v : Int32} {S' : yS} (N : Nat) (S : yS) (p1 : Nat) (hp : xH) (lv : xLv) (a0 : Nat) (a1 : Nat) (fa0 : yAt T 10 2 0 a0) (fa1 : yAt T 1 p1 0 a1) (g0 : xG lv 0 = some (.ref a0)) (g1 : xG lv 1 = some (.ref a1)) (hM : cR [0, 1, 2, 3, 4, 5, 6, 7] F ev T S hp) (h : f_X10_startAct_0 N S p1 = some (v, S')) : yWE ev.2.1 (xstr ev) (xCalls ev xmi (xprog ev) prim (d + 3)) (pX10_startAct ev) (0, lv, [], hp, sz, 0) (ypQ [0, 1, 2, 3, 4, 5, 6, 7] F ev T sz (some (.int v)) S') := by
  unfold f_X10_startAct_0 at h
  refine ye_aload rfl g0 ?_
  refine ye_getr rfl (hM.obj fa0 ⟨rfl, rfl⟩) rfl (fun cx1 ecx1 => ?_)
  have fcx1 := yAt.row fa0 ecx1
  refine ye_aload rfl g1 ?_
  refine ye_getf rfl (hM.obj fa1 ⟨rfl, rfl⟩) rfl ?_
  obtain ⟨j1, ej1, ij1, rj1, h⟩ := gR_some h
  refine ye_aaldR (t := 5) rfl (hM.arr fcx1 yr_10_4) ij1 ej1 rj1 (fun cx2 ecx2 => ?_)
  have fcx2 : yAt T 6 (128 + j1) 0 cx2 := ⟨hM.refd fcx1 yr_10_4 (by decide) rj1, oc_128 (by have := vp_lt ij1; omega), ecx2⟩
  refine ye_p rfl rfl ?_
  have g0_z1 := xG_o1 (i := 2) (v := .ref cx2) g0 rfl
  have g1_z1 := xG_o1 (i := 2) (v := .ref cx2) g1 rfl
  have g2_z1 := xG_same lv 2 (.ref cx2)
  generalize xSt1 lv 2 (.ref cx2) = lvz1 at g0_z1 g1_z1 g2_z1 ⊢
  refine ye_aload rfl g0_z1 ?_
  refine ye_getr rfl (hM.obj fa0 ⟨rfl, rfl⟩) rfl (fun cx3 ecx3 => ?_)
  have fcx3 := hM.root 2 0 (by decide) rfl ecx3
  refine ye_getr rfl (hM.obj fcx3 ⟨rfl, rfl⟩) rfl (fun cx4 ecx4 => ?_)
  have fcx4 := yAt.row fcx3 ecx4
  refine ye_aload rfl g1_z1 ?_
  refine ye_getf rfl (hM.obj fa1 ⟨rfl, rfl⟩) rfl ?_
  obtain ⟨j2, ej2, ij2, rj2, h⟩ := gR_some h
  refine ye_aaldR (t := 4) rfl (hM.arr fcx4 yr_2_4) ij2 ej2 rj2 (fun cx5 ecx5 => ?_)
  have fcx5 : yAt T 3 (64 + j2) 0 cx5 := ⟨hM.refd fcx4 yr_2_4 (by decide) rj2, oc_64 (by have := vp_lt ij2; omega), ecx5⟩
  refine ye_p rfl rfl ?_
  have g0_z2 := xG_o1 (i := 3) (v := .ref cx5) g0_z1 rfl
  have g1_z2 := xG_o1 (i := 3) (v := .ref cx5) g1_z1 rfl
  have g2_z2 := xG_o1 (i := 3) (v := .ref cx5) g2_z1 rfl
  have g3_z2 := xG_same lvz1 3 (.ref cx5)
  generalize xSt1 lvz1 3 (.ref cx5) = lvz2 at g0_z2 g1_z2 g2_z2 g3_z2 ⊢
  refine ye_aload rfl g2_z2 ?_
  refine ye_getf rfl (hM.obj fcx2 ⟨rfl, rfl⟩) rfl ?_
  refine ye_aload rfl g3_z2 ?_
  refine ye_getf rfl (hM.obj fcx5 ⟨rfl, rfl⟩) rfl ?_
  refine ye_icmp_ne rfl (fun h1 => ?_) (fun h1 => ?_)
  · replace h := yiT h1 h
    refine ye_p rfl rfl ?_
    exact w_X10_startAct_39 (prim := prim) (d := d) N S p1 ((128 + j1)) ((64 + j2)) 0 hp lvz2 a0 a1 cx2 cx5 fa0 fa1 fcx2 fcx5 g0_z2 g1_z2 g2_z2 g3_z2 hM h
  · replace h := yiN h1 h
    refine ye_p rfl rfl ?_
    refine ye_p rfl rfl ?_
    exact w_X10_startAct_39 (prim := prim) (d := d) N S p1 ((128 + j1)) ((64 + j2)) 1 hp lvz2 a0 a1 cx2 cx5 fa0 fa1 fcx2 fcx5 g0_z2 g1_z2 g2_z2 g3_z2 hM h
def f_X10_startAct (N : Nat) (S : yS) (xp1 : Nat) : Option (Int32 × yS) := f_X10_startAct_0 N S xp1
theorem m_X10_startAct {F : xH} {ev : xEv} {prim : xRel} {d : Nat} {T : yT} {v : Int32} {S' : yS} (N : Nat) (S : yS) (xp1 : Nat) (a0 : Nat) (a1 : Nat) (fa0 : yAt T 10 2 0 a0) (fa1 : yAt T 1 xp1 0 a1) (h : f_X10_startAct N S xp1 = some (v, S')) : ykQ [0, 1, 2, 3, 4, 5, 6, 7] F ev prim (d + 4) 104 T S [.ref a0, .ref a1] (some (.int v)) S' :=
  ykQ.of (pg_104 ev) mi_104 (Nat.le_of_ble_eq_true rfl) (fun hp sz hM => w_X10_startAct_0 (prim := prim) (d := d) N S xp1 hp _ a0 a1 fa0 fa1 rfl rfl hM h)

def f_X10_start_0 (N : Nat) (S : yS) (l1 : Int32) : Option (Int32 × yS) := gR (S.2.1 2 11) 24 l1 fun j1 => gR (S.2.1 2 4) 8 (S.1 ((512 + j1)) 0) fun j2 => gR (S.2.1 2 6) 8 (S.1 ((512 + j1)) 1) fun j3 => gR (S.2.1 1 4) 12 (S.1 ((512 + j1)) 2) fun j4 => bS (f_X10_takeBags N S (S.1 ((512 + j1)) 0) ((64 + j4))) fun w1 S1 => bS (f_X1_begin N S1 ((512 + j1)) (S1.1 2 13) (S.1 ((128 + j2)) 8)) fun w2 S2 => bS (f_X6_takeOff N S2 ((128 + j2)) l1 ((512 + j1)) ((64 + j4))) fun w3 S3 => sq (yI S3 ((256 + j3)) 0 ((-1))) fun S4 => sq (yI S4 ((256 + j3)) 1 (S4.1 ((512 + j1)) 0)) fun S5 => some (0, S5)
set_option maxHeartbeats 4000000 in
set_option maxRecDepth 40000 in
theorem w_X10_start_0 {F : xH} {ev : xEv} {prim : xRel} {d sz : Nat} {T : yT} {v : Int32} {S' : yS} (N : Nat) (S : yS) (l1 : Int32) (hp : xH) (lv : xLv) (a0 : Nat) (fa0 : yAt T 10 2 0 a0) (g0 : xG lv 0 = some (.ref a0)) (g1 : xG lv 1 = some (.int l1)) (hM : cR [0, 1, 2, 3, 4, 5, 6, 7] F ev T S hp) (h : f_X10_start_0 N S l1 = some (v, S')) : yWE ev.2.1 (xstr ev) (xCalls ev xmi (xprog ev) prim (d + 3)) (pX10_start ev) (0, lv, [], hp, sz, 0) (ypQ [0, 1, 2, 3, 4, 5, 6, 7] F ev T sz (none) S') := by
  unfold f_X10_start_0 at h
  refine ye_aload rfl g0 ?_
  refine ye_getr rfl (hM.obj fa0 ⟨rfl, rfl⟩) rfl (fun cx1 ecx1 => ?_)
  have fcx1 := yAt.row fa0 ecx1
  refine ye_iload rfl g1 ?_
  obtain ⟨j1, ej1, ij1, rj1, h⟩ := gR_some h
  refine ye_aaldR (t := 8) rfl (hM.arr fcx1 yr_10_11) ij1 ej1 rj1 (fun cx2 ecx2 => ?_)
  have fcx2 : yAt T 1 (512 + j1) 0 cx2 := ⟨hM.refd fcx1 yr_10_11 (by decide) rj1, oc_512 (by have := vp_lt ij1; omega), ecx2⟩
  refine ye_p rfl rfl ?_
  have g0_z1 := xG_o1 (i := 2) (v := .ref cx2) g0 rfl
  have g1_z1 := xG_o1 (i := 2) (v := .ref cx2) g1 rfl
  have g2_z1 := xG_same lv 2 (.ref cx2)
  generalize xSt1 lv 2 (.ref cx2) = lvz1 at g0_z1 g1_z1 g2_z1 ⊢
  refine ye_aload rfl g0_z1 ?_
  refine ye_getr rfl (hM.obj fa0 ⟨rfl, rfl⟩) rfl (fun cx3 ecx3 => ?_)
  have fcx3 := yAt.row fa0 ecx3
  refine ye_aload rfl g2_z1 ?_
  refine ye_getf rfl (hM.obj fcx2 ⟨rfl, rfl⟩) rfl ?_
  obtain ⟨j2, ej2, ij2, rj2, h⟩ := gR_some h
  refine ye_aaldR (t := 5) rfl (hM.arr fcx3 yr_10_4) ij2 ej2 rj2 (fun cx4 ecx4 => ?_)
  have fcx4 : yAt T 6 (128 + j2) 0 cx4 := ⟨hM.refd fcx3 yr_10_4 (by decide) rj2, oc_128 (by have := vp_lt ij2; omega), ecx4⟩
  refine ye_p rfl rfl ?_
  have g0_z2 := xG_o1 (i := 3) (v := .ref cx4) g0_z1 rfl
  have g1_z2 := xG_o1 (i := 3) (v := .ref cx4) g1_z1 rfl
  have g2_z2 := xG_o1 (i := 3) (v := .ref cx4) g2_z1 rfl
  have g3_z2 := xG_same lvz1 3 (.ref cx4)
  generalize xSt1 lvz1 3 (.ref cx4) = lvz2 at g0_z2 g1_z2 g2_z2 g3_z2 ⊢
  refine ye_aload rfl g0_z2 ?_
  refine ye_getr rfl (hM.obj fa0 ⟨rfl, rfl⟩) rfl (fun cx5 ecx5 => ?_)
  have fcx5 := yAt.row fa0 ecx5
  refine ye_aload rfl g2_z2 ?_
  refine ye_getf rfl (hM.obj fcx2 ⟨rfl, rfl⟩) rfl ?_
  obtain ⟨j3, ej3, ij3, rj3, h⟩ := gR_some h
  refine ye_aaldR (t := 6) rfl (hM.arr fcx5 yr_10_6) ij3 ej3 rj3 (fun cx6 ecx6 => ?_)
  have fcx6 : yAt T 5 (256 + j3) 0 cx6 := ⟨hM.refd fcx5 yr_10_6 (by decide) rj3, oc_256 (by have := vp_lt ij3; omega), ecx6⟩
  refine ye_p rfl rfl ?_
  have g0_z3 := xG_o1 (i := 4) (v := .ref cx6) g0_z2 rfl
  have g1_z3 := xG_o1 (i := 4) (v := .ref cx6) g1_z2 rfl
  have g2_z3 := xG_o1 (i := 4) (v := .ref cx6) g2_z2 rfl
  have g3_z3 := xG_o1 (i := 4) (v := .ref cx6) g3_z2 rfl
  have g4_z3 := xG_same lvz2 4 (.ref cx6)
  generalize xSt1 lvz2 4 (.ref cx6) = lvz3 at g0_z3 g1_z3 g2_z3 g3_z3 g4_z3 ⊢
  refine ye_aload rfl g0_z3 ?_
  refine ye_getr rfl (hM.obj fa0 ⟨rfl, rfl⟩) rfl (fun cx7 ecx7 => ?_)
  have fcx7 := hM.root 2 0 (by decide) rfl ecx7
  refine ye_getr rfl (hM.obj fcx7 ⟨rfl, rfl⟩) rfl (fun cx8 ecx8 => ?_)
  have fcx8 := yAt.row fcx7 ecx8
  refine ye_aload rfl g2_z3 ?_
  refine ye_getf rfl (hM.obj fcx2 ⟨rfl, rfl⟩) rfl ?_
  obtain ⟨j4, ej4, ij4, rj4, h⟩ := gR_some h
  refine ye_aaldR (t := 4) rfl (hM.arr fcx8 yr_2_4) ij4 ej4 rj4 (fun cx9 ecx9 => ?_)
  have fcx9 : yAt T 3 (64 + j4) 0 cx9 := ⟨hM.refd fcx8 yr_2_4 (by decide) rj4, oc_64 (by have := vp_lt ij4; omega), ecx9⟩
  refine ye_p rfl rfl ?_
  have g0_z4 := xG_o1 (i := 5) (v := .ref cx9) g0_z3 rfl
  have g1_z4 := xG_o1 (i := 5) (v := .ref cx9) g1_z3 rfl
  have g2_z4 := xG_o1 (i := 5) (v := .ref cx9) g2_z3 rfl
  have g3_z4 := xG_o1 (i := 5) (v := .ref cx9) g3_z3 rfl
  have g4_z4 := xG_o1 (i := 5) (v := .ref cx9) g4_z3 rfl
  have g5_z4 := xG_same lvz3 5 (.ref cx9)
  generalize xSt1 lvz3 5 (.ref cx9) = lvz4 at g0_z4 g1_z4 g2_z4 g3_z4 g4_z4 g5_z4 ⊢
  refine ye_aload rfl g3_z4 ?_
  refine ye_getf rfl (hM.obj fcx4 ⟨rfl, rfl⟩) rfl ?_
  refine ye_p rfl rfl ?_
  have g0_z5 := xG_o1 (i := 6) (v := .int (S.1 ((128 + j2)) 8)) g0_z4 rfl
  have g1_z5 := xG_o1 (i := 6) (v := .int (S.1 ((128 + j2)) 8)) g1_z4 rfl
  have g2_z5 := xG_o1 (i := 6) (v := .int (S.1 ((128 + j2)) 8)) g2_z4 rfl
  have g3_z5 := xG_o1 (i := 6) (v := .int (S.1 ((128 + j2)) 8)) g3_z4 rfl
  have g4_z5 := xG_o1 (i := 6) (v := .int (S.1 ((128 + j2)) 8)) g4_z4 rfl
  have g5_z5 := xG_o1 (i := 6) (v := .int (S.1 ((128 + j2)) 8)) g5_z4 rfl
  have g6_z5 := xG_same lvz4 6 (.int (S.1 ((128 + j2)) 8))
  generalize xSt1 lvz4 6 (.int (S.1 ((128 + j2)) 8)) = lvz5 at g0_z5 g1_z5 g2_z5 g3_z5 g4_z5 g5_z5 g6_z5 ⊢
  refine ye_aload rfl g0_z5 ?_
  refine ye_aload rfl g2_z5 ?_
  refine ye_getf rfl (hM.obj fcx2 ⟨rfl, rfl⟩) rfl ?_
  refine ye_aload rfl g5_z5 ?_
  obtain ⟨w1, S1, hw1, h⟩ := bS_some h
  obtain ⟨y1, cy1, M1⟩ := (m_X10_takeBags (d := d + 0) (T := T) N S (S.1 ((512 + j1)) 0) ((64 + j4)) a0 cx9 fa0 fcx9 hw1) hp sz hM
  refine ye_callV (As := [.int (S.1 ((512 + j1)) 0), .ref cx9]) (rest := []) 0 (Or.inl rfl) rfl rfl rfl (Nat.le_of_ble_eq_true rfl) (hM.obj fa0 ⟨rfl, rfl⟩) cy1 ?_
  refine ye_aload rfl g2_z5 ?_
  refine ye_aload rfl g0_z5 ?_
  refine ye_getf rfl (M1.obj fa0 ⟨rfl, rfl⟩) rfl ?_
  refine ye_iload rfl g6_z5 ?_
  obtain ⟨w2, S2, hw2, h⟩ := bS_some h
  obtain ⟨y2, cy2, M2⟩ := (m_X1_begin (d := d + 2) (T := T) N S1 ((512 + j1)) (S1.1 2 13) (S.1 ((128 + j2)) 8) cx2 fcx2 hw2) y1 sz M1
  refine ye_callV (As := [.int (S1.1 2 13), .int (S.1 ((128 + j2)) 8)]) (rest := []) 0 (Or.inl rfl) rfl rfl rfl (Nat.le_of_ble_eq_true rfl) (M1.obj fcx2 ⟨rfl, rfl⟩) cy2 ?_
  refine ye_aload rfl g3_z5 ?_
  refine ye_iload rfl g1_z5 ?_
  refine ye_aload rfl g2_z5 ?_
  refine ye_aload rfl g5_z5 ?_
  obtain ⟨w3, S3, hw3, h⟩ := bS_some h
  obtain ⟨y3, cy3, M3⟩ := (m_X6_takeOff (d := d + 2) (T := T) N S2 ((128 + j2)) l1 ((512 + j1)) ((64 + j4)) cx4 cx2 cx9 fcx4 fcx2 fcx9 hw3) y2 sz M2
  refine ye_callV (As := [.int l1, .ref cx2, .ref cx9]) (rest := []) 0 (Or.inl rfl) rfl rfl rfl (Nat.le_of_ble_eq_true rfl) (M2.obj fcx4 ⟨rfl, rfl⟩) cy3 ?_
  refine ye_aload rfl g4_z5 ?_
  refine ye_p rfl rfl ?_
  obtain ⟨S4, eS4, h⟩ := sq_some h
  refine yw_putI rfl M3 fcx6 rfl ⟨rfl, rfl⟩ (Nat.le_of_ble_eq_true rfl) rfl rfl (ys_5_0 ev T _ ((-1))) (fun q => absurd q (by decide)) eS4 (fun y4 M4 => ?_)
  refine ye_aload rfl g4_z5 ?_
  refine ye_aload rfl g2_z5 ?_
  refine ye_getf rfl (M4.obj fcx2 ⟨rfl, rfl⟩) rfl ?_
  obtain ⟨S5, eS5, h⟩ := sq_some h
  refine yw_putI rfl M4 fcx6 rfl ⟨rfl, rfl⟩ (Nat.le_of_ble_eq_true rfl) rfl rfl (ys_5_1 ev T _ (S4.1 ((512 + j1)) 0)) (fun q => absurd q (by decide)) eS5 (fun y5 M5 => ?_)
  exact ye_ret rfl rfl (rQV h M5)
def f_X10_start (N : Nat) (S : yS) (xl1 : Int32) : Option (Int32 × yS) := f_X10_start_0 N S xl1
theorem m_X10_start {F : xH} {ev : xEv} {prim : xRel} {d : Nat} {T : yT} {v : Int32} {S' : yS} (N : Nat) (S : yS) (xl1 : Int32) (a0 : Nat) (fa0 : yAt T 10 2 0 a0) (h : f_X10_start N S xl1 = some (v, S')) : ykQ [0, 1, 2, 3, 4, 5, 6, 7] F ev prim (d + 4) 106 T S [.ref a0, .int xl1] (none) S' :=
  ykQ.of (pg_106 ev) mi_106 (Nat.le_of_ble_eq_true rfl) (fun hp sz hM => w_X10_start_0 (prim := prim) (d := d) N S xl1 hp _ a0 fa0 rfl rfl hM h)

def f_X10_aloftAct_0 (N : Nat) (S : yS) (p1 : Nat) : Option (Int32 × yS) := gR (S.2.1 1 4) 12 (S.1 p1 9) fun j1 => bV (f_X2_cloudAt N S (S.1 p1 9) (S.1 2 13)) fun w1 => bS (f_X8r_put N S 99 (w1 - (S.1 ((64 + j1)) 3))) fun w2 S1 => bV (f_X10_windFor N S1 p1) fun w3 => bS (f_X8r_put N S1 119 w3) fun w4 S2 => bS (f_X8r_put N S2 97 0) fun w5 S3 => bS (f_X8r_put N S3 102 (S3.1 p1 15)) fun w6 S4 => bV (f_X3_toGo N S4 ((64 + j1)) (S4.1 p1 10) (S4.1 p1 11)) fun w7 => bV (f_X11_roundUp N S4 w7 (S4.1 p1 0)) fun w8 => bS (f_X8r_put N S4 103 w8) fun w9 S5 => gR (S5.2.1 2 11) 24 (S5.1 p1 17) fun j2 => bV (f_X3_goal N S5 ((64 + j1)) (S5.1 p1 11)) fun w10 => bS (f_X10_putCommonLetters N S5 p1 ((512 + j2)) w10) fun w11 S6 => bV (f_X8r_inForce N S6 1 (S6.1 2 13)) fun w12 => bS (f_X8r_run N S6 w12 71) fun w13 S7 => some (w13, S7)
set_option maxHeartbeats 4000000 in
set_option maxRecDepth 40000 in
theorem w_X10_aloftAct_0 {F : xH} {ev : xEv} {prim : xRel} {d sz : Nat} {T : yT} {v : Int32} {S' : yS} (N : Nat) (S : yS) (p1 : Nat) (hp : xH) (lv : xLv) (a0 : Nat) (a1 : Nat) (fa0 : yAt T 10 2 0 a0) (fa1 : yAt T 6 p1 0 a1) (g0 : xG lv 0 = some (.ref a0)) (g1 : xG lv 1 = some (.ref a1)) (hM : cR [0, 1, 2, 3, 4, 5, 6, 7] F ev T S hp) (h : f_X10_aloftAct_0 N S p1 = some (v, S')) : yWE ev.2.1 (xstr ev) (xCalls ev xmi (xprog ev) prim (d + 3)) (pX10_aloftAct ev) (0, lv, [], hp, sz, 0) (ypQ [0, 1, 2, 3, 4, 5, 6, 7] F ev T sz (some (.int v)) S') := by
  unfold f_X10_aloftAct_0 at h
  refine ye_aload rfl g0 ?_
  refine ye_getr rfl (hM.obj fa0 ⟨rfl, rfl⟩) rfl (fun cx1 ecx1 => ?_)
  have fcx1 := hM.root 2 0 (by decide) rfl ecx1
  refine ye_getr rfl (hM.obj fcx1 ⟨rfl, rfl⟩) rfl (fun cx2 ecx2 => ?_)
  have fcx2 := yAt.row fcx1 ecx2
  refine ye_aload rfl g1 ?_
  refine ye_getf rfl (hM.obj fa1 ⟨rfl, rfl⟩) rfl ?_
  obtain ⟨j1, ej1, ij1, rj1, h⟩ := gR_some h
  refine ye_aaldR (t := 4) rfl (hM.arr fcx2 yr_2_4) ij1 ej1 rj1 (fun cx3 ecx3 => ?_)
  have fcx3 : yAt T 3 (64 + j1) 0 cx3 := ⟨hM.refd fcx2 yr_2_4 (by decide) rj1, oc_64 (by have := vp_lt ij1; omega), ecx3⟩
  refine ye_p rfl rfl ?_
  have g0_z1 := xG_o1 (i := 2) (v := .ref cx3) g0 rfl
  have g1_z1 := xG_o1 (i := 2) (v := .ref cx3) g1 rfl
  have g2_z1 := xG_same lv 2 (.ref cx3)
  generalize xSt1 lv 2 (.ref cx3) = lvz1 at g0_z1 g1_z1 g2_z1 ⊢
  refine ye_aload rfl g0_z1 ?_
  refine ye_getr rfl (hM.obj fa0 ⟨rfl, rfl⟩) rfl (fun cx4 ecx4 => ?_)
  have fcx4 := hM.root 14 0 (by decide) rfl ecx4
  refine ye_p rfl rfl ?_
  refine ye_aload rfl g0_z1 ?_
  refine ye_getr rfl (hM.obj fa0 ⟨rfl, rfl⟩) rfl (fun cx5 ecx5 => ?_)
  have fcx5 := hM.root 2 0 (by decide) rfl ecx5
  refine ye_aload rfl g1_z1 ?_
  refine ye_getf rfl (hM.obj fa1 ⟨rfl, rfl⟩) rfl ?_
  refine ye_aload rfl g0_z1 ?_
  refine ye_getf rfl (hM.obj fa0 ⟨rfl, rfl⟩) rfl ?_
  obtain ⟨w1, hw1, h⟩ := bV_some h
  refine ye_callV (As := [.int (S.1 p1 9), .int (S.1 2 13)]) (rest := [.int 99, .ref cx4]) 0 (Or.inl rfl) rfl rfl rfl (Nat.le_of_ble_eq_true rfl) (hM.obj fcx5 ⟨rfl, rfl⟩) ((m_X2_cloudAt (d := d + 1) (T := T) N S (S.1 p1 9) (S.1 2 13) cx5 fcx5 hw1) hp sz hM) ?_
  refine ye_aload rfl g2_z1 ?_
  refine ye_getf rfl (hM.obj fcx3 ⟨rfl, rfl⟩) rfl ?_
  refine ye_p rfl rfl ?_
  obtain ⟨w2, S1, hw2, h⟩ := bS_some h
  obtain ⟨y1, cy1, M1⟩ := (m_X8r_put (d := d + 2) (T := T) N S 99 (w1 - (S.1 ((64 + j1)) 3)) cx4 fcx4 hw2) hp sz hM
  refine ye_callV (As := [.int 99, .int (w1 - (S.1 ((64 + j1)) 3))]) (rest := []) 0 (Or.inl rfl) rfl rfl rfl (Nat.le_of_ble_eq_true rfl) (hM.obj fcx4 ⟨rfl, rfl⟩) cy1 ?_
  refine ye_aload rfl g0_z1 ?_
  refine ye_getr rfl (M1.obj fa0 ⟨rfl, rfl⟩) rfl (fun cx6 ecx6 => ?_)
  have fcx6 := M1.root 14 0 (by decide) rfl ecx6
  refine ye_p rfl rfl ?_
  refine ye_aload rfl g0_z1 ?_
  refine ye_aload rfl g1_z1 ?_
  obtain ⟨w3, hw3, h⟩ := bV_some h
  refine ye_callV (As := [.ref a1]) (rest := [.int 119, .ref cx6]) 0 (Or.inl rfl) rfl rfl rfl (Nat.le_of_ble_eq_true rfl) (M1.obj fa0 ⟨rfl, rfl⟩) ((m_X10_windFor (d := d + 0) (T := T) N S1 p1 a0 a1 fa0 fa1 hw3) y1 sz M1) ?_
  obtain ⟨w4, S2, hw4, h⟩ := bS_some h
  obtain ⟨y2, cy2, M2⟩ := (m_X8r_put (d := d + 2) (T := T) N S1 119 w3 cx6 fcx6 hw4) y1 sz M1
  refine ye_callV (As := [.int 119, .int w3]) (rest := []) 0 (Or.inl rfl) rfl rfl rfl (Nat.le_of_ble_eq_true rfl) (M1.obj fcx6 ⟨rfl, rfl⟩) cy2 ?_
  refine ye_aload rfl g0_z1 ?_
  refine ye_getr rfl (M2.obj fa0 ⟨rfl, rfl⟩) rfl (fun cx7 ecx7 => ?_)
  have fcx7 := M2.root 14 0 (by decide) rfl ecx7
  refine ye_p rfl rfl ?_
  refine ye_p rfl rfl ?_
  obtain ⟨w5, S3, hw5, h⟩ := bS_some h
  obtain ⟨y3, cy3, M3⟩ := (m_X8r_put (d := d + 2) (T := T) N S2 97 0 cx7 fcx7 hw5) y2 sz M2
  refine ye_callV (As := [.int 97, .int 0]) (rest := []) 0 (Or.inl rfl) rfl rfl rfl (Nat.le_of_ble_eq_true rfl) (M2.obj fcx7 ⟨rfl, rfl⟩) cy3 ?_
  refine ye_aload rfl g0_z1 ?_
  refine ye_getr rfl (M3.obj fa0 ⟨rfl, rfl⟩) rfl (fun cx8 ecx8 => ?_)
  have fcx8 := M3.root 14 0 (by decide) rfl ecx8
  refine ye_p rfl rfl ?_
  refine ye_aload rfl g1_z1 ?_
  refine ye_getf rfl (M3.obj fa1 ⟨rfl, rfl⟩) rfl ?_
  obtain ⟨w6, S4, hw6, h⟩ := bS_some h
  obtain ⟨y4, cy4, M4⟩ := (m_X8r_put (d := d + 2) (T := T) N S3 102 (S3.1 p1 15) cx8 fcx8 hw6) y3 sz M3
  refine ye_callV (As := [.int 102, .int (S3.1 p1 15)]) (rest := []) 0 (Or.inl rfl) rfl rfl rfl (Nat.le_of_ble_eq_true rfl) (M3.obj fcx8 ⟨rfl, rfl⟩) cy4 ?_
  refine ye_aload rfl g0_z1 ?_
  refine ye_getr rfl (M4.obj fa0 ⟨rfl, rfl⟩) rfl (fun cx9 ecx9 => ?_)
  have fcx9 := M4.root 14 0 (by decide) rfl ecx9
  refine ye_p rfl rfl ?_
  refine ye_aload rfl g2_z1 ?_
  refine ye_aload rfl g1_z1 ?_
  refine ye_getf rfl (M4.obj fa1 ⟨rfl, rfl⟩) rfl ?_
  refine ye_aload rfl g1_z1 ?_
  refine ye_getf rfl (M4.obj fa1 ⟨rfl, rfl⟩) rfl ?_
  obtain ⟨w7, hw7, h⟩ := bV_some h
  refine ye_callV (As := [.int (S4.1 p1 10), .int (S4.1 p1 11)]) (rest := [.int 103, .ref cx9]) 0 (Or.inl rfl) rfl rfl rfl (Nat.le_of_ble_eq_true rfl) (M4.obj fcx3 ⟨rfl, rfl⟩) ((m_X3_toGo (d := d + 2) (T := T) N S4 ((64 + j1)) (S4.1 p1 10) (S4.1 p1 11) cx3 fcx3 hw7) y4 sz M4) ?_
  refine ye_aload rfl g1_z1 ?_
  refine ye_getf rfl (M4.obj fa1 ⟨rfl, rfl⟩) rfl ?_
  obtain ⟨w8, hw8, h⟩ := bV_some h
  refine ye_callS (As := [.int w7, .int (S4.1 p1 0)]) (rest := [.int 103, .ref cx9]) 3 (Or.inr rfl) rfl rfl rfl (Nat.le_of_ble_eq_true rfl) ((m_X11_roundUp (d := d + 2) (T := T) N S4 w7 (S4.1 p1 0) hw8) y4 sz M4) ?_
  obtain ⟨w9, S5, hw9, h⟩ := bS_some h
  obtain ⟨y5, cy5, M5⟩ := (m_X8r_put (d := d + 2) (T := T) N S4 103 w8 cx9 fcx9 hw9) y4 sz M4
  refine ye_callV (As := [.int 103, .int w8]) (rest := []) 0 (Or.inl rfl) rfl rfl rfl (Nat.le_of_ble_eq_true rfl) (M4.obj fcx9 ⟨rfl, rfl⟩) cy5 ?_
  refine ye_aload rfl g0_z1 ?_
  refine ye_aload rfl g1_z1 ?_
  refine ye_aload rfl g0_z1 ?_
  refine ye_getr rfl (M5.obj fa0 ⟨rfl, rfl⟩) rfl (fun cx10 ecx10 => ?_)
  have fcx10 := yAt.row fa0 ecx10
  refine ye_aload rfl g1_z1 ?_
  refine ye_getf rfl (M5.obj fa1 ⟨rfl, rfl⟩) rfl ?_
  obtain ⟨j2, ej2, ij2, rj2, h⟩ := gR_some h
  refine ye_aaldR (t := 8) rfl (M5.arr fcx10 yr_10_11) ij2 ej2 rj2 (fun cx11 ecx11 => ?_)
  have fcx11 : yAt T 1 (512 + j2) 0 cx11 := ⟨M5.refd fcx10 yr_10_11 (by decide) rj2, oc_512 (by have := vp_lt ij2; omega), ecx11⟩
  refine ye_aload rfl g2_z1 ?_
  refine ye_aload rfl g1_z1 ?_
  refine ye_getf rfl (M5.obj fa1 ⟨rfl, rfl⟩) rfl ?_
  obtain ⟨w10, hw10, h⟩ := bV_some h
  refine ye_callV (As := [.int (S5.1 p1 11)]) (rest := [.ref cx11, .ref a1, .ref a0]) 0 (Or.inl rfl) rfl rfl rfl (Nat.le_of_ble_eq_true rfl) (M5.obj fcx3 ⟨rfl, rfl⟩) ((m_X3_goal (d := d + 2) (T := T) N S5 ((64 + j1)) (S5.1 p1 11) cx3 fcx3 hw10) y5 sz M5) ?_
  obtain ⟨w11, S6, hw11, h⟩ := bS_some h
  obtain ⟨y6, cy6, M6⟩ := (m_X10_putCommonLetters (d := d + 1) (T := T) N S5 p1 ((512 + j2)) w10 a0 a1 cx11 fa0 fa1 fcx11 hw11) y5 sz M5
  refine ye_callV (As := [.ref a1, .ref cx11, .int w10]) (rest := []) 0 (Or.inl rfl) rfl rfl rfl (Nat.le_of_ble_eq_true rfl) (M5.obj fa0 ⟨rfl, rfl⟩) cy6 ?_
  refine ye_aload rfl g0_z1 ?_
  refine ye_getr rfl (M6.obj fa0 ⟨rfl, rfl⟩) rfl (fun cx12 ecx12 => ?_)
  have fcx12 := M6.root 14 0 (by decide) rfl ecx12
  refine ye_aload rfl g0_z1 ?_
  refine ye_getr rfl (M6.obj fa0 ⟨rfl, rfl⟩) rfl (fun cx13 ecx13 => ?_)
  have fcx13 := M6.root 14 0 (by decide) rfl ecx13
  refine ye_p rfl rfl ?_
  refine ye_aload rfl g0_z1 ?_
  refine ye_getf rfl (M6.obj fa0 ⟨rfl, rfl⟩) rfl ?_
  obtain ⟨w12, hw12, h⟩ := bV_some h
  refine ye_callV (As := [.int 1, .int (S6.1 2 13)]) (rest := [.ref cx12]) 0 (Or.inl rfl) rfl rfl rfl (Nat.le_of_ble_eq_true rfl) (M6.obj fcx13 ⟨rfl, rfl⟩) ((m_X8r_inForce (d := d + 2) (T := T) N S6 1 (S6.1 2 13) cx13 fcx13 hw12) y6 sz M6) ?_
  refine ye_p rfl rfl ?_
  obtain ⟨w13, S7, hw13, h⟩ := bS_some h
  obtain ⟨y7, cy7, M7⟩ := (m_X8r_run (d := d + 0) (T := T) N S6 w12 71 cx12 fcx12 hw13) y6 sz M6
  refine ye_callV (As := [.int w12, .int 71]) (rest := []) 0 (Or.inl rfl) rfl rfl rfl (Nat.le_of_ble_eq_true rfl) (M6.obj fcx12 ⟨rfl, rfl⟩) cy7 ?_
  exact ye_ret rfl rfl (rQ h M7)
def f_X10_aloftAct (N : Nat) (S : yS) (xp1 : Nat) : Option (Int32 × yS) := f_X10_aloftAct_0 N S xp1
theorem m_X10_aloftAct {F : xH} {ev : xEv} {prim : xRel} {d : Nat} {T : yT} {v : Int32} {S' : yS} (N : Nat) (S : yS) (xp1 : Nat) (a0 : Nat) (a1 : Nat) (fa0 : yAt T 10 2 0 a0) (fa1 : yAt T 6 xp1 0 a1) (h : f_X10_aloftAct N S xp1 = some (v, S')) : ykQ [0, 1, 2, 3, 4, 5, 6, 7] F ev prim (d + 4) 110 T S [.ref a0, .ref a1] (some (.int v)) S' :=
  ykQ.of (pg_110 ev) mi_110 (Nat.le_of_ble_eq_true rfl) (fun hp sz hM => w_X10_aloftAct_0 (prim := prim) (d := d) N S xp1 hp _ a0 a1 fa0 fa1 rfl rfl hM h)

def f_X10_payBy_57 (N : Nat) (S : yS) (l1 : Int32) (p2 : Nat) (t1 : Int32) (t2 : Int32) : Option (Int32 × yS) := bS (f_X8l_put N S t1 t2) fun w1 S1 => bS (f_X8l_put N S1 115 (S1.1 p2 3)) fun w2 S2 => bV (f_X0_late N S2 p2) fun w3 => bS (f_X8l_put N S2 116 w3) fun w4 S3 => bS (f_X8l_put N S3 100 ((S3.1 p2 8) / 96)) fun w5 S4 => bS (f_X8l_run N S4 l1 0) fun w6 S5 => some (if 0 < w6 then w6 else 0, S5)
set_option maxHeartbeats 4000000 in
set_option maxRecDepth 40000 in
theorem w_X10_payBy_57 {F : xH} {ev : xEv} {prim : xRel} {d sz : Nat} {T : yT} {v : Int32} {S' : yS} (N : Nat) (S : yS) (l1 : Int32) (p2 : Nat) (t1 : Int32) (t2 : Int32) (hp : xH) (lv : xLv) (a0 : Nat) (a2 : Nat) (b0 : Nat) (fa0 : yAt T 10 2 0 a0) (fa2 : yAt T 0 p2 0 a2) (fb0 : yAt T 8 5 0 b0) (g0 : xG lv 0 = some (.ref a0)) (g1 : xG lv 1 = some (.int l1)) (g2 : xG lv 2 = some (.ref a2)) (hM : cR [0, 1, 2, 3, 4, 5, 6, 7] F ev T S hp) (h : f_X10_payBy_57 N S l1 p2 t1 t2 = some (v, S')) : yWE ev.2.1 (xstr ev) (xCalls ev xmi (xprog ev) prim (d + 3)) (pX10_payBy ev) (57, lv, [.int t2, .int t1, .ref b0], hp, sz, 0) (ypQ [0, 1, 2, 3, 4, 5, 6, 7] F ev T sz (some (.int v)) S') := by
  unfold f_X10_payBy_57 at h
  obtain ⟨w1, S1, hw1, h⟩ := bS_some h
  obtain ⟨y1, cy1, M1⟩ := (m_X8l_put (d := d + 2) (T := T) N S t1 t2 b0 fb0 hw1) hp sz hM
  refine ye_callV (As := [.int t1, .int t2]) (rest := []) 0 (Or.inl rfl) rfl rfl rfl (Nat.le_of_ble_eq_true rfl) (hM.obj fb0 ⟨rfl, rfl⟩) cy1 ?_
  refine ye_aload rfl g0 ?_
  refine ye_getr rfl (M1.obj fa0 ⟨rfl, rfl⟩) rfl (fun cx1 ecx1 => ?_)
  have fcx1 := M1.root 8 0 (by decide) rfl ecx1
  refine ye_p rfl rfl ?_
  refine ye_aload rfl g2 ?_
  refine ye_getf rfl (M1.obj fa2 ⟨rfl, rfl⟩) rfl ?_
  obtain ⟨w2, S2, hw2, h⟩ := bS_some h
  obtain ⟨y2, cy2, M2⟩ := (m_X8l_put (d := d + 2) (T := T) N S1 115 (S1.1 p2 3) cx1 fcx1 hw2) y1 sz M1
  refine ye_callV (As := [.int 115, .int (S1.1 p2 3)]) (rest := []) 0 (Or.inl rfl) rfl rfl rfl (Nat.le_of_ble_eq_true rfl) (M1.obj fcx1 ⟨rfl, rfl⟩) cy2 ?_
  refine ye_aload rfl g0 ?_
  refine ye_getr rfl (M2.obj fa0 ⟨rfl, rfl⟩) rfl (fun cx2 ecx2 => ?_)
  have fcx2 := M2.root 8 0 (by decide) rfl ecx2
  refine ye_p rfl rfl ?_
  refine ye_aload rfl g2 ?_
  obtain ⟨w3, hw3, h⟩ := bV_some h
  refine ye_callV (As := []) (rest := [.int 116, .ref cx2]) 0 (Or.inl rfl) rfl rfl rfl (Nat.le_of_ble_eq_true rfl) (M2.obj fa2 ⟨rfl, rfl⟩) ((m_X0_late (d := d + 2) (T := T) N S2 p2 a2 fa2 hw3) y2 sz M2) ?_
  obtain ⟨w4, S3, hw4, h⟩ := bS_some h
  obtain ⟨y3, cy3, M3⟩ := (m_X8l_put (d := d + 2) (T := T) N S2 116 w3 cx2 fcx2 hw4) y2 sz M2
  refine ye_callV (As := [.int 116, .int w3]) (rest := []) 0 (Or.inl rfl) rfl rfl rfl (Nat.le_of_ble_eq_true rfl) (M2.obj fcx2 ⟨rfl, rfl⟩) cy3 ?_
  refine ye_aload rfl g0 ?_
  refine ye_getr rfl (M3.obj fa0 ⟨rfl, rfl⟩) rfl (fun cx3 ecx3 => ?_)
  have fcx3 := M3.root 8 0 (by decide) rfl ecx3
  refine ye_p rfl rfl ?_
  refine ye_aload rfl g2 ?_
  refine ye_getf rfl (M3.obj fa2 ⟨rfl, rfl⟩) rfl ?_
  refine ye_p rfl rfl ?_
  refine ye_div rfl (by decide) ?_
  obtain ⟨w5, S4, hw5, h⟩ := bS_some h
  obtain ⟨y4, cy4, M4⟩ := (m_X8l_put (d := d + 2) (T := T) N S3 100 ((S3.1 p2 8) / 96) cx3 fcx3 hw5) y3 sz M3
  refine ye_callV (As := [.int 100, .int ((S3.1 p2 8) / 96)]) (rest := []) 0 (Or.inl rfl) rfl rfl rfl (Nat.le_of_ble_eq_true rfl) (M3.obj fcx3 ⟨rfl, rfl⟩) cy4 ?_
  refine ye_p rfl rfl ?_
  refine ye_aload rfl g0 ?_
  refine ye_getr rfl (M4.obj fa0 ⟨rfl, rfl⟩) rfl (fun cx4 ecx4 => ?_)
  have fcx4 := M4.root 8 0 (by decide) rfl ecx4
  refine ye_iload rfl g1 ?_
  refine ye_p rfl rfl ?_
  obtain ⟨w6, S5, hw6, h⟩ := bS_some h
  obtain ⟨y5, cy5, M5⟩ := (m_X8l_run (d := d + 0) (T := T) N S4 l1 0 cx4 fcx4 hw6) y4 sz M4
  refine ye_callV (As := [.int l1, .int 0]) (rest := [.int 0]) 0 (Or.inl rfl) rfl rfl rfl (Nat.le_of_ble_eq_true rfl) (M4.obj fcx4 ⟨rfl, rfl⟩) cy5 ?_
  refine ye_p rfl rfl ?_
  exact ye_ret rfl rfl (rQ h M5)

def f_X10_payBy_0 (N : Nat) (S : yS) (l1 : Int32) (p2 : Nat) : Option (Int32 × yS) := if ¬ (S.1 p2 8) = ((-1)) then bV (f_X2_milesBetween N S (S.1 p2 0) (S.1 p2 1)) fun w1 => bS (f_X8l_put N S 119 (S.1 p2 2)) fun w2 S1 => if w1 < 1000000 then f_X10_payBy_57 N S1 l1 p2 109 w1 else f_X10_payBy_57 N S1 l1 p2 109 0 else some (0, S)
set_option maxHeartbeats 4000000 in
set_option maxRecDepth 40000 in
theorem w_X10_payBy_0 {F : xH} {ev : xEv} {prim : xRel} {d sz : Nat} {T : yT} {v : Int32} {S' : yS} (N : Nat) (S : yS) (l1 : Int32) (p2 : Nat) (hp : xH) (lv : xLv) (a0 : Nat) (a2 : Nat) (fa0 : yAt T 10 2 0 a0) (fa2 : yAt T 0 p2 0 a2) (g0 : xG lv 0 = some (.ref a0)) (g1 : xG lv 1 = some (.int l1)) (g2 : xG lv 2 = some (.ref a2)) (hM : cR [0, 1, 2, 3, 4, 5, 6, 7] F ev T S hp) (h : f_X10_payBy_0 N S l1 p2 = some (v, S')) : yWE ev.2.1 (xstr ev) (xCalls ev xmi (xprog ev) prim (d + 3)) (pX10_payBy ev) (0, lv, [], hp, sz, 0) (ypQ [0, 1, 2, 3, 4, 5, 6, 7] F ev T sz (some (.int v)) S') := by
  unfold f_X10_payBy_0 at h
  refine ye_aload rfl g2 ?_
  refine ye_getf rfl (hM.obj fa2 ⟨rfl, rfl⟩) rfl ?_
  refine ye_p rfl rfl ?_
  refine ye_icmp_ne rfl (fun h1 => ?_) (fun h1 => ?_)
  · replace h := yiT h1 h
    refine ye_aload rfl g0 ?_
    refine ye_getr rfl (hM.obj fa0 ⟨rfl, rfl⟩) rfl (fun cx1 ecx1 => ?_)
    have fcx1 := hM.root 2 0 (by decide) rfl ecx1
    refine ye_aload rfl g2 ?_
    refine ye_getf rfl (hM.obj fa2 ⟨rfl, rfl⟩) rfl ?_
    refine ye_aload rfl g2 ?_
    refine ye_getf rfl (hM.obj fa2 ⟨rfl, rfl⟩) rfl ?_
    obtain ⟨w1, hw1, h⟩ := bV_some h
    refine ye_callV (As := [.int (S.1 p2 0), .int (S.1 p2 1)]) (rest := []) 0 (Or.inl rfl) rfl rfl rfl (Nat.le_of_ble_eq_true rfl) (hM.obj fcx1 ⟨rfl, rfl⟩) ((m_X2_milesBetween (d := d + 2) (T := T) N S (S.1 p2 0) (S.1 p2 1) cx1 fcx1 hw1) hp sz hM) ?_
    refine ye_p rfl rfl ?_
    have g0_z1 := xG_o1 (i := 3) (v := .int w1) g0 rfl
    have g1_z1 := xG_o1 (i := 3) (v := .int w1) g1 rfl
    have g2_z1 := xG_o1 (i := 3) (v := .int w1) g2 rfl
    have g3_z1 := xG_same lv 3 (.int w1)
    generalize xSt1 lv 3 (.int w1) = lvz1 at g0_z1 g1_z1 g2_z1 g3_z1 ⊢
    refine ye_aload rfl g0_z1 ?_
    refine ye_getr rfl (hM.obj fa0 ⟨rfl, rfl⟩) rfl (fun cx2 ecx2 => ?_)
    have fcx2 := hM.root 8 0 (by decide) rfl ecx2
    refine ye_p rfl rfl ?_
    refine ye_aload rfl g2_z1 ?_
    refine ye_getf rfl (hM.obj fa2 ⟨rfl, rfl⟩) rfl ?_
    obtain ⟨w2, S1, hw2, h⟩ := bS_some h
    obtain ⟨y1, cy1, M1⟩ := (m_X8l_put (d := d + 2) (T := T) N S 119 (S.1 p2 2) cx2 fcx2 hw2) hp sz hM
    refine ye_callV (As := [.int 119, .int (S.1 p2 2)]) (rest := []) 0 (Or.inl rfl) rfl rfl rfl (Nat.le_of_ble_eq_true rfl) (hM.obj fcx2 ⟨rfl, rfl⟩) cy1 ?_
    refine ye_aload rfl g0_z1 ?_
    refine ye_getr rfl (M1.obj fa0 ⟨rfl, rfl⟩) rfl (fun cx3 ecx3 => ?_)
    have fcx3 := M1.root 8 0 (by decide) rfl ecx3
    refine ye_p rfl rfl ?_
    refine ye_iload rfl g3_z1 ?_
    refine ye_p rfl rfl ?_
    refine ye_icmp_lt rfl (fun h2 => ?_) (fun h2 => ?_)
    · replace h := yiT h2 h
      refine ye_iload rfl g3_z1 ?_
      exact w_X10_payBy_57 (prim := prim) (d := d) N S1 l1 p2 109 w1 y1 lvz1 a0 a2 cx3 fa0 fa2 fcx3 g0_z1 g1_z1 g2_z1 M1 h
    · replace h := yiN h2 h
      refine ye_p rfl rfl ?_
      refine ye_p rfl rfl ?_
      exact w_X10_payBy_57 (prim := prim) (d := d) N S1 l1 p2 109 0 y1 lvz1 a0 a2 cx3 fa0 fa2 fcx3 g0_z1 g1_z1 g2_z1 M1 h
  · replace h := yiN h1 h
    refine ye_p rfl rfl ?_
    exact ye_ret rfl rfl (rQ h hM)
def f_X10_payBy (N : Nat) (S : yS) (xl1 : Int32) (xp2 : Nat) : Option (Int32 × yS) := f_X10_payBy_0 N S xl1 xp2
theorem m_X10_payBy {F : xH} {ev : xEv} {prim : xRel} {d : Nat} {T : yT} {v : Int32} {S' : yS} (N : Nat) (S : yS) (xl1 : Int32) (xp2 : Nat) (a0 : Nat) (a2 : Nat) (fa0 : yAt T 10 2 0 a0) (fa2 : yAt T 0 xp2 0 a2) (h : f_X10_payBy N S xl1 xp2 = some (v, S')) : ykQ [0, 1, 2, 3, 4, 5, 6, 7] F ev prim (d + 4) 122 T S [.ref a0, .int xl1, .ref a2] (some (.int v)) S' :=
  ykQ.of (pg_122 ev) mi_122 (Nat.le_of_ble_eq_true rfl) (fun hp sz hM => w_X10_payBy_0 (prim := prim) (d := d) N S xl1 xp2 hp _ a0 a2 fa0 fa2 rfl rfl rfl hM h)

def f_X11_lamp_0 (N : Nat) (S : yS) (l1 : Int32) (l2 : Int32) : Option (Int32 × yS) := bV (f_X11_isField N S l1) fun w1 => if ¬ w1 = 0 then gA 8 l1 fun j1 => sq (yA S 1 1 (upd (S.2.1 1 1) j1 (vp_nar .boolean l2))) fun S1 => some (1, S1) else some (0, S)
set_option maxHeartbeats 4000000 in
set_option maxRecDepth 40000 in
theorem w_X11_lamp_0 {F : xH} {ev : xEv} {prim : xRel} {d sz : Nat} {T : yT} {v : Int32} {S' : yS} (N : Nat) (S : yS) (l1 : Int32) (l2 : Int32) (hp : xH) (lv : xLv) (a0 : Nat) (fa0 : yAt T 11 0 0 a0) (g0 : xG lv 0 = some (.ref a0)) (g1 : xG lv 1 = some (.int l1)) (g2 : xG lv 2 = some (.int l2)) (hM : cR [0, 1, 2, 3, 4, 5, 6, 7] F ev T S hp) (h : f_X11_lamp_0 N S l1 l2 = some (v, S')) : yWE ev.2.1 (xstr ev) (xCalls ev xmi (xprog ev) prim (d + 2)) (pX11_lamp ev) (0, lv, [], hp, sz, 0) (ypQ [0, 1, 2, 3, 4, 5, 6, 7] F ev T sz (some (.int v)) S') := by
  unfold f_X11_lamp_0 at h
  refine ye_aload rfl g0 ?_
  refine ye_iload rfl g1 ?_
  obtain ⟨w1, hw1, h⟩ := bV_some h
  refine ye_callV (As := [.int l1]) (rest := []) 0 (Or.inl rfl) rfl rfl rfl (Nat.le_of_ble_eq_true rfl) (hM.obj fa0 ⟨rfl, rfl⟩) ((m_X11_isField (d := d + 0) (T := T) N S l1 a0 fa0 hw1) hp sz hM) ?_
  refine ye_if_ne rfl (fun h1 => ?_) (fun h1 => ?_)
  · replace h := yiT h1 h
    refine ye_aload rfl g0 ?_
    refine ye_getr rfl (hM.obj fa0 ⟨rfl, rfl⟩) rfl (fun cx1 ecx1 => ?_)
    have fcx1 := hM.root 2 0 (by decide) rfl ecx1
    refine ye_getr rfl (hM.obj fcx1 ⟨rfl, rfl⟩) rfl (fun cx2 ecx2 => ?_)
    have fcx2 := yAt.row fcx1 ecx2
    refine ye_iload rfl g1 ?_
    refine ye_iload rfl g2 ?_
    obtain ⟨j1, ej1, ij1, h⟩ := gA_some h
    obtain ⟨S1, eS1, h⟩ := sq_some h
    refine yw_ast rfl hM fcx2 yr_2_1 (by decide) ij1 ej1 eS1 (fun y1 M1 => ?_)
    refine ye_p rfl rfl ?_
    exact ye_ret rfl rfl (rQ h M1)
  · replace h := yiN h1 h
    refine ye_p rfl rfl ?_
    exact ye_ret rfl rfl (rQ h hM)
def f_X11_lamp (N : Nat) (S : yS) (xl1 : Int32) (xl2 : Int32) : Option (Int32 × yS) := f_X11_lamp_0 N S xl1 xl2
theorem m_X11_lamp {F : xH} {ev : xEv} {prim : xRel} {d : Nat} {T : yT} {v : Int32} {S' : yS} (N : Nat) (S : yS) (xl1 : Int32) (xl2 : Int32) (a0 : Nat) (fa0 : yAt T 11 0 0 a0) (h : f_X11_lamp N S xl1 xl2 = some (v, S')) : ykQ [0, 1, 2, 3, 4, 5, 6, 7] F ev prim (d + 3) 129 T S [.ref a0, .int xl1, .int xl2] (some (.int v)) S' :=
  ykQ.of (pg_129 ev) mi_129 (Nat.le_of_ble_eq_true rfl) (fun hp sz hM => w_X11_lamp_0 (prim := prim) (d := d) N S xl1 xl2 hp _ a0 fa0 rfl rfl rfl hM h)

def f_X11_ground_17 (N : Nat) (S : yS) : Option (Int32 × yS) := some ((-1), S)
set_option maxHeartbeats 4000000 in
set_option maxRecDepth 40000 in
theorem w_X11_ground_17 {F : xH} {ev : xEv} {prim : xRel} {d sz : Nat} {T : yT} {v : Int32} {S' : yS} (N : Nat) (S : yS) (hp : xH) (lv : xLv) (hM : cR [0, 1, 2, 3, 4, 5, 6, 7] F ev T S hp) (h : f_X11_ground_17 N S = some (v, S')) : yWE ev.2.1 (xstr ev) (xCalls ev xmi (xprog ev) prim (d + 2)) (pX11_ground ev) (17, lv, [], hp, sz, 0) (ypQ [0, 1, 2, 3, 4, 5, 6, 7] F ev T sz (some (.int v)) S') := by
  unfold f_X11_ground_17 at h
  refine ye_p rfl rfl ?_
  exact ye_ret rfl rfl (rQ h hM)

def f_X11_ground_54 (N : Nat) (S : yS) : Option (Int32 × yS) := some ((-1), S)
set_option maxHeartbeats 4000000 in
set_option maxRecDepth 40000 in
theorem w_X11_ground_54 {F : xH} {ev : xEv} {prim : xRel} {d sz : Nat} {T : yT} {v : Int32} {S' : yS} (N : Nat) (S : yS) (hp : xH) (lv : xLv) (hM : cR [0, 1, 2, 3, 4, 5, 6, 7] F ev T S hp) (h : f_X11_ground_54 N S = some (v, S')) : yWE ev.2.1 (xstr ev) (xCalls ev xmi (xprog ev) prim (d + 2)) (pX11_ground ev) (54, lv, [], hp, sz, 0) (ypQ [0, 1, 2, 3, 4, 5, 6, 7] F ev T sz (some (.int v)) S') := by
  unfold f_X11_ground_54 at h
  refine ye_p rfl rfl ?_
  exact ye_ret rfl rfl (rQ h hM)

def f_X11_ground_0 (N : Nat) (S : yS) (l1 : Int32) (l2 : Int32) (l3 : Int32) : Option (Int32 × yS) := bV (f_X11_isLeg N S l1) fun w1 => if w1 = 0 then f_X11_ground_17 N S else bV (f_X11_within N S l3 0 3) fun w2 => if ¬ w2 = 0 then gR (S.2.1 1 4) 12 l1 fun j1 => bV (f_X11_within N S l2 1 ((S.1 ((64 + j1)) 2) - 1)) fun w3 => if w3 = 0 then f_X11_ground_54 N S else if (S.1 ((64 + j1)) 4) < 4 then bS (f_X3_addGround N S ((64 + j1)) l2 l3) fun w4 S1 => some (w4, S1) else f_X11_ground_54 N S else f_X11_ground_17 N S
set_option maxHeartbeats 4000000 in
set_option maxRecDepth 40000 in
theorem w_X11_ground_0 {F : xH} {ev : xEv} {prim : xRel} {d sz : Nat} {T : yT} {v : Int32} {S' : yS} (N : Nat) (S : yS) (l1 : Int32) (l2 : Int32) (l3 : Int32) (hp : xH) (lv : xLv) (a0 : Nat) (fa0 : yAt T 11 0 0 a0) (g0 : xG lv 0 = some (.ref a0)) (g1 : xG lv 1 = some (.int l1)) (g2 : xG lv 2 = some (.int l2)) (g3 : xG lv 3 = some (.int l3)) (hM : cR [0, 1, 2, 3, 4, 5, 6, 7] F ev T S hp) (h : f_X11_ground_0 N S l1 l2 l3 = some (v, S')) : yWE ev.2.1 (xstr ev) (xCalls ev xmi (xprog ev) prim (d + 2)) (pX11_ground ev) (0, lv, [], hp, sz, 0) (ypQ [0, 1, 2, 3, 4, 5, 6, 7] F ev T sz (some (.int v)) S') := by
  unfold f_X11_ground_0 at h
  refine ye_aload rfl g0 ?_
  refine ye_iload rfl g1 ?_
  obtain ⟨w1, hw1, h⟩ := bV_some h
  refine ye_callV (As := [.int l1]) (rest := []) 0 (Or.inl rfl) rfl rfl rfl (Nat.le_of_ble_eq_true rfl) (hM.obj fa0 ⟨rfl, rfl⟩) ((m_X11_isLeg (d := d + 0) (T := T) N S l1 a0 fa0 hw1) hp sz hM) ?_
  refine ye_if_eq rfl (fun h1 => ?_) (fun h1 => ?_)
  · replace h := yiT h1 h
    exact w_X11_ground_17 (prim := prim) (d := d) N S hp lv hM h
  · replace h := yiN h1 h
    refine ye_iload rfl g3 ?_
    refine ye_p rfl rfl ?_
    refine ye_p rfl rfl ?_
    obtain ⟨w2, hw2, h⟩ := bV_some h
    refine ye_callS (As := [.int l3, .int 0, .int 3]) (rest := []) 1 (Or.inl rfl) rfl rfl rfl (Nat.le_of_ble_eq_true rfl) ((m_X11_within (d := d + 1) (T := T) N S l3 0 3 hw2) hp sz hM) ?_
    refine ye_if_ne rfl (fun h2 => ?_) (fun h2 => ?_)
    · replace h := yiT h2 h
      refine ye_aload rfl g0 ?_
      refine ye_getr rfl (hM.obj fa0 ⟨rfl, rfl⟩) rfl (fun cx1 ecx1 => ?_)
      have fcx1 := hM.root 2 0 (by decide) rfl ecx1
      refine ye_getr rfl (hM.obj fcx1 ⟨rfl, rfl⟩) rfl (fun cx2 ecx2 => ?_)
      have fcx2 := yAt.row fcx1 ecx2
      refine ye_iload rfl g1 ?_
      obtain ⟨j1, ej1, ij1, rj1, h⟩ := gR_some h
      refine ye_aaldR (t := 4) rfl (hM.arr fcx2 yr_2_4) ij1 ej1 rj1 (fun cx3 ecx3 => ?_)
      have fcx3 : yAt T 3 (64 + j1) 0 cx3 := ⟨hM.refd fcx2 yr_2_4 (by decide) rj1, oc_64 (by have := vp_lt ij1; omega), ecx3⟩
      refine ye_p rfl rfl ?_
      have g2_z1 := xG_o1 (i := 4) (v := .ref cx3) g2 rfl
      have g3_z1 := xG_o1 (i := 4) (v := .ref cx3) g3 rfl
      have g4_z1 := xG_same lv 4 (.ref cx3)
      generalize xSt1 lv 4 (.ref cx3) = lvz1 at g2_z1 g3_z1 g4_z1 ⊢
      refine ye_iload rfl g2_z1 ?_
      refine ye_p rfl rfl ?_
      refine ye_aload rfl g4_z1 ?_
      refine ye_getf rfl (hM.obj fcx3 ⟨rfl, rfl⟩) rfl ?_
      refine ye_p rfl rfl ?_
      refine ye_p rfl rfl ?_
      obtain ⟨w3, hw3, h⟩ := bV_some h
      refine ye_callS (As := [.int l2, .int 1, .int ((S.1 ((64 + j1)) 2) - 1)]) (rest := []) 1 (Or.inl rfl) rfl rfl rfl (Nat.le_of_ble_eq_true rfl) ((m_X11_within (d := d + 1) (T := T) N S l2 1 ((S.1 ((64 + j1)) 2) - 1) hw3) hp sz hM) ?_
      refine ye_if_eq rfl (fun h3 => ?_) (fun h3 => ?_)
      · replace h := yiT h3 h
        exact w_X11_ground_54 (prim := prim) (d := d) N S hp lvz1 hM h
      · replace h := yiN h3 h
        refine ye_aload rfl g4_z1 ?_
        refine ye_getf rfl (hM.obj fcx3 ⟨rfl, rfl⟩) rfl ?_
        refine ye_p rfl rfl ?_
        refine ye_icmp_lt rfl (fun h4 => ?_) (fun h4 => ?_)
        · replace h := yiT h4 h
          refine ye_aload rfl g4_z1 ?_
          refine ye_iload rfl g2_z1 ?_
          refine ye_iload rfl g3_z1 ?_
          obtain ⟨w4, S1, hw4, h⟩ := bS_some h
          obtain ⟨y1, cy1, M1⟩ := (m_X3_addGround (d := d + 1) (T := T) N S ((64 + j1)) l2 l3 cx3 fcx3 hw4) hp sz hM
          refine ye_callV (As := [.int l2, .int l3]) (rest := []) 0 (Or.inl rfl) rfl rfl rfl (Nat.le_of_ble_eq_true rfl) (hM.obj fcx3 ⟨rfl, rfl⟩) cy1 ?_
          exact ye_ret rfl rfl (rQ h M1)
        · replace h := yiN h4 h
          exact w_X11_ground_54 (prim := prim) (d := d) N S hp lvz1 hM h
    · replace h := yiN h2 h
      exact w_X11_ground_17 (prim := prim) (d := d) N S hp lv hM h
def f_X11_ground (N : Nat) (S : yS) (xl1 : Int32) (xl2 : Int32) (xl3 : Int32) : Option (Int32 × yS) := f_X11_ground_0 N S xl1 xl2 xl3
theorem m_X11_ground {F : xH} {ev : xEv} {prim : xRel} {d : Nat} {T : yT} {v : Int32} {S' : yS} (N : Nat) (S : yS) (xl1 : Int32) (xl2 : Int32) (xl3 : Int32) (a0 : Nat) (fa0 : yAt T 11 0 0 a0) (h : f_X11_ground N S xl1 xl2 xl3 = some (v, S')) : ykQ [0, 1, 2, 3, 4, 5, 6, 7] F ev prim (d + 3) 131 T S [.ref a0, .int xl1, .int xl2, .int xl3] (some (.int v)) S' :=
  ykQ.of (pg_131 ev) mi_131 (Nat.le_of_ble_eq_true rfl) (fun hp sz hM => w_X11_ground_0 (prim := prim) (d := d) N S xl1 xl2 xl3 hp _ a0 fa0 rfl rfl rfl rfl hM h)

def f_X11_far_16 (N : Nat) (S : yS) : Option Int32 := some ((-1))
set_option maxHeartbeats 4000000 in
set_option maxRecDepth 40000 in
theorem w_X11_far_16 {F : xH} {ev : xEv} {prim : xRel} {d sz : Nat} {T : yT} {v : Int32} {hp : xH} (N : Nat) (S : yS) (lv : xLv) (hM : cR [0, 1, 2, 3, 4, 5, 6, 7] F ev T S hp) (h : f_X11_far_16 N S = some v) : yWE ev.2.1 (xstr ev) (xCalls ev xmi (xprog ev) prim (d + 2)) (pX11_far ev) (16, lv, [], hp, sz, 0) (ypP hp sz (.int v)) := by
  unfold f_X11_far_16 at h
  refine ye_p rfl rfl ?_
  exact ye_ret rfl rfl (rP h)

def f_X11_far_39 (N : Nat) (S : yS) (t0 : Int32) : Option Int32 := some t0
set_option maxHeartbeats 4000000 in
set_option maxRecDepth 40000 in
theorem w_X11_far_39 {F : xH} {ev : xEv} {prim : xRel} {d sz : Nat} {T : yT} {v : Int32} {hp : xH} (N : Nat) (S : yS) (t0 : Int32) (lv : xLv) (hM : cR [0, 1, 2, 3, 4, 5, 6, 7] F ev T S hp) (h : f_X11_far_39 N S t0 = some v) : yWE ev.2.1 (xstr ev) (xCalls ev xmi (xprog ev) prim (d + 2)) (pX11_far ev) (39, lv, [.int t0], hp, sz, 0) (ypP hp sz (.int v)) := by
  unfold f_X11_far_39 at h
  exact ye_ret rfl rfl (rP h)

def f_X11_far_0 (N : Nat) (S : yS) (l1 : Int32) (l2 : Int32) : Option Int32 := bV (f_X11_isField N S l1) fun w1 => if w1 = 0 then f_X11_far_16 N S else bV (f_X11_isField N S l2) fun w2 => if ¬ w2 = 0 then bV (f_X2_milesBetween N S l1 l2) fun w3 => if w3 < 1000000 then f_X11_far_39 N S w3 else f_X11_far_39 N S ((-1)) else f_X11_far_16 N S
set_option maxHeartbeats 4000000 in
set_option maxRecDepth 40000 in
theorem w_X11_far_0 {F : xH} {ev : xEv} {prim : xRel} {d sz : Nat} {T : yT} {v : Int32} {hp : xH} (N : Nat) (S : yS) (l1 : Int32) (l2 : Int32) (lv : xLv) (a0 : Nat) (fa0 : yAt T 11 0 0 a0) (g0 : xG lv 0 = some (.ref a0)) (g1 : xG lv 1 = some (.int l1)) (g2 : xG lv 2 = some (.int l2)) (hM : cR [0, 1, 2, 3, 4, 5, 6, 7] F ev T S hp) (h : f_X11_far_0 N S l1 l2 = some v) : yWE ev.2.1 (xstr ev) (xCalls ev xmi (xprog ev) prim (d + 2)) (pX11_far ev) (0, lv, [], hp, sz, 0) (ypP hp sz (.int v)) := by
  unfold f_X11_far_0 at h
  refine ye_aload rfl g0 ?_
  refine ye_iload rfl g1 ?_
  obtain ⟨w1, hw1, h⟩ := bV_some h
  refine ye_callV (As := [.int l1]) (rest := []) 0 (Or.inl rfl) rfl rfl rfl (Nat.le_of_ble_eq_true rfl) (hM.obj fa0 ⟨rfl, rfl⟩) ((m_X11_isField (d := d + 0) (T := T) N S l1 a0 fa0 hw1) hp sz hM) ?_
  refine ye_if_eq rfl (fun h1 => ?_) (fun h1 => ?_)
  · replace h := yiT h1 h
    exact w_X11_far_16 (prim := prim) (d := d) N S lv hM h
  · replace h := yiN h1 h
    refine ye_aload rfl g0 ?_
    refine ye_iload rfl g2 ?_
    obtain ⟨w2, hw2, h⟩ := bV_some h
    refine ye_callV (As := [.int l2]) (rest := []) 0 (Or.inl rfl) rfl rfl rfl (Nat.le_of_ble_eq_true rfl) (hM.obj fa0 ⟨rfl, rfl⟩) ((m_X11_isField (d := d + 0) (T := T) N S l2 a0 fa0 hw2) hp sz hM) ?_
    refine ye_if_ne rfl (fun h2 => ?_) (fun h2 => ?_)
    · replace h := yiT h2 h
      refine ye_aload rfl g0 ?_
      refine ye_getr rfl (hM.obj fa0 ⟨rfl, rfl⟩) rfl (fun cx1 ecx1 => ?_)
      have fcx1 := hM.root 2 0 (by decide) rfl ecx1
      refine ye_iload rfl g1 ?_
      refine ye_iload rfl g2 ?_
      obtain ⟨w3, hw3, h⟩ := bV_some h
      refine ye_callV (As := [.int l1, .int l2]) (rest := []) 0 (Or.inl rfl) rfl rfl rfl (Nat.le_of_ble_eq_true rfl) (hM.obj fcx1 ⟨rfl, rfl⟩) ((m_X2_milesBetween (d := d + 1) (T := T) N S l1 l2 cx1 fcx1 hw3) hp sz hM) ?_
      refine ye_p rfl rfl ?_
      have g3_z1 := xG_same lv 3 (.int w3)
      generalize xSt1 lv 3 (.int w3) = lvz1 at g3_z1 ⊢
      refine ye_iload rfl g3_z1 ?_
      refine ye_p rfl rfl ?_
      refine ye_icmp_lt rfl (fun h3 => ?_) (fun h3 => ?_)
      · replace h := yiT h3 h
        refine ye_iload rfl g3_z1 ?_
        exact w_X11_far_39 (prim := prim) (d := d) N S w3 lvz1 hM h
      · replace h := yiN h3 h
        refine ye_p rfl rfl ?_
        refine ye_p rfl rfl ?_
        exact w_X11_far_39 (prim := prim) (d := d) N S ((-1)) lvz1 hM h
    · replace h := yiN h2 h
      exact w_X11_far_16 (prim := prim) (d := d) N S lv hM h
def f_X11_far (N : Nat) (S : yS) (xl1 : Int32) (xl2 : Int32) : Option Int32 := f_X11_far_0 N S xl1 xl2
theorem m_X11_far {F : xH} {ev : xEv} {prim : xRel} {d : Nat} {T : yT} {v : Int32} (N : Nat) (S : yS) (xl1 : Int32) (xl2 : Int32) (a0 : Nat) (fa0 : yAt T 11 0 0 a0) (h : f_X11_far N S xl1 xl2 = some v) : ykP [0, 1, 2, 3, 4, 5, 6, 7] F ev prim (d + 3) 132 T S [.ref a0, .int xl1, .int xl2] (.int v) :=
  ykP.of (pg_132 ev) mi_132 (Nat.le_of_ble_eq_true rfl) (fun hp sz hM => w_X11_far_0 (prim := prim) (d := d) N S xl1 xl2 _ a0 fa0 rfl rfl rfl hM h)

def f_X11_weather_36 (N : Nat) (S : yS) : Option (Int32 × yS) := some ((-1), S)
set_option maxHeartbeats 4000000 in
set_option maxRecDepth 40000 in
theorem w_X11_weather_36 {F : xH} {ev : xEv} {prim : xRel} {d sz : Nat} {T : yT} {v : Int32} {S' : yS} (N : Nat) (S : yS) (hp : xH) (lv : xLv) (hM : cR [0, 1, 2, 3, 4, 5, 6, 7] F ev T S hp) (h : f_X11_weather_36 N S = some (v, S')) : yWE ev.2.1 (xstr ev) (xCalls ev xmi (xprog ev) prim (d + 2)) (pX11_weather ev) (36, lv, [], hp, sz, 0) (ypQ [0, 1, 2, 3, 4, 5, 6, 7] F ev T sz (some (.int v)) S') := by
  unfold f_X11_weather_36 at h
  refine ye_p rfl rfl ?_
  exact ye_ret rfl rfl (rQ h hM)

def f_X11_weather_0 (N : Nat) (S : yS) (l1 : Int32) (l2 : Int32) (l3 : Int32) (l4 : Int32) : Option (Int32 × yS) := bV (f_X11_isLeg N S l1) fun w1 => if w1 = 0 then f_X11_weather_36 N S else bV (f_X11_isQuarter N S l2) fun w2 => if w2 = 0 then f_X11_weather_36 N S else bV (f_X11_isWeather N S l3 l4) fun w3 => if w3 = 0 then f_X11_weather_36 N S else if (S.1 1 6) < 60 then bS (f_X2_tell N S l1 l2 l3 l4) fun w4 S1 => some (w4, S1) else f_X11_weather_36 N S
set_option maxHeartbeats 4000000 in
set_option maxRecDepth 40000 in
theorem w_X11_weather_0 {F : xH} {ev : xEv} {prim : xRel} {d sz : Nat} {T : yT} {v : Int32} {S' : yS} (N : Nat) (S : yS) (l1 : Int32) (l2 : Int32) (l3 : Int32) (l4 : Int32) (hp : xH) (lv : xLv) (a0 : Nat) (fa0 : yAt T 11 0 0 a0) (g0 : xG lv 0 = some (.ref a0)) (g1 : xG lv 1 = some (.int l1)) (g2 : xG lv 2 = some (.int l2)) (g3 : xG lv 3 = some (.int l3)) (g4 : xG lv 4 = some (.int l4)) (hM : cR [0, 1, 2, 3, 4, 5, 6, 7] F ev T S hp) (h : f_X11_weather_0 N S l1 l2 l3 l4 = some (v, S')) : yWE ev.2.1 (xstr ev) (xCalls ev xmi (xprog ev) prim (d + 2)) (pX11_weather ev) (0, lv, [], hp, sz, 0) (ypQ [0, 1, 2, 3, 4, 5, 6, 7] F ev T sz (some (.int v)) S') := by
  unfold f_X11_weather_0 at h
  refine ye_aload rfl g0 ?_
  refine ye_iload rfl g1 ?_
  obtain ⟨w1, hw1, h⟩ := bV_some h
  refine ye_callV (As := [.int l1]) (rest := []) 0 (Or.inl rfl) rfl rfl rfl (Nat.le_of_ble_eq_true rfl) (hM.obj fa0 ⟨rfl, rfl⟩) ((m_X11_isLeg (d := d + 0) (T := T) N S l1 a0 fa0 hw1) hp sz hM) ?_
  refine ye_if_eq rfl (fun h1 => ?_) (fun h1 => ?_)
  · replace h := yiT h1 h
    exact w_X11_weather_36 (prim := prim) (d := d) N S hp lv hM h
  · replace h := yiN h1 h
    refine ye_iload rfl g2 ?_
    obtain ⟨w2, hw2, h⟩ := bV_some h
    refine ye_callS (As := [.int l2]) (rest := []) 1 (Or.inl rfl) rfl rfl rfl (Nat.le_of_ble_eq_true rfl) ((m_X11_isQuarter (d := d + 0) (T := T) N S l2 hw2) hp sz hM) ?_
    refine ye_if_eq rfl (fun h2 => ?_) (fun h2 => ?_)
    · replace h := yiT h2 h
      exact w_X11_weather_36 (prim := prim) (d := d) N S hp lv hM h
    · replace h := yiN h2 h
      refine ye_iload rfl g3 ?_
      refine ye_iload rfl g4 ?_
      obtain ⟨w3, hw3, h⟩ := bV_some h
      refine ye_callS (As := [.int l3, .int l4]) (rest := []) 1 (Or.inl rfl) rfl rfl rfl (Nat.le_of_ble_eq_true rfl) ((m_X11_isWeather (d := d + 0) (T := T) N S l3 l4 hw3) hp sz hM) ?_
      refine ye_if_eq rfl (fun h3 => ?_) (fun h3 => ?_)
      · replace h := yiT h3 h
        exact w_X11_weather_36 (prim := prim) (d := d) N S hp lv hM h
      · replace h := yiN h3 h
        refine ye_aload rfl g0 ?_
        refine ye_getr rfl (hM.obj fa0 ⟨rfl, rfl⟩) rfl (fun cx1 ecx1 => ?_)
        have fcx1 := hM.root 2 0 (by decide) rfl ecx1
        refine ye_getf rfl (hM.obj fcx1 ⟨rfl, rfl⟩) rfl ?_
        refine ye_p rfl rfl ?_
        refine ye_icmp_lt rfl (fun h4 => ?_) (fun h4 => ?_)
        · replace h := yiT h4 h
          refine ye_aload rfl g0 ?_
          refine ye_getr rfl (hM.obj fa0 ⟨rfl, rfl⟩) rfl (fun cx2 ecx2 => ?_)
          have fcx2 := hM.root 2 0 (by decide) rfl ecx2
          refine ye_iload rfl g1 ?_
          refine ye_iload rfl g2 ?_
          refine ye_iload rfl g3 ?_
          refine ye_iload rfl g4 ?_
          obtain ⟨w4, S1, hw4, h⟩ := bS_some h
          obtain ⟨y1, cy1, M1⟩ := (m_X2_tell (d := d + 1) (T := T) N S l1 l2 l3 l4 cx2 fcx2 hw4) hp sz hM
          refine ye_callV (As := [.int l1, .int l2, .int l3, .int l4]) (rest := []) 0 (Or.inl rfl) rfl rfl rfl (Nat.le_of_ble_eq_true rfl) (hM.obj fcx2 ⟨rfl, rfl⟩) cy1 ?_
          exact ye_ret rfl rfl (rQ h M1)
        · replace h := yiN h4 h
          exact w_X11_weather_36 (prim := prim) (d := d) N S hp lv hM h
def f_X11_weather (N : Nat) (S : yS) (xl1 : Int32) (xl2 : Int32) (xl3 : Int32) (xl4 : Int32) : Option (Int32 × yS) := f_X11_weather_0 N S xl1 xl2 xl3 xl4
theorem m_X11_weather {F : xH} {ev : xEv} {prim : xRel} {d : Nat} {T : yT} {v : Int32} {S' : yS} (N : Nat) (S : yS) (xl1 : Int32) (xl2 : Int32) (xl3 : Int32) (xl4 : Int32) (a0 : Nat) (fa0 : yAt T 11 0 0 a0) (h : f_X11_weather N S xl1 xl2 xl3 xl4 = some (v, S')) : ykQ [0, 1, 2, 3, 4, 5, 6, 7] F ev prim (d + 3) 133 T S [.ref a0, .int xl1, .int xl2, .int xl3, .int xl4] (some (.int v)) S' :=
  ykQ.of (pg_133 ev) mi_133 (Nat.le_of_ble_eq_true rfl) (fun hp sz hM => w_X11_weather_0 (prim := prim) (d := d) N S xl1 xl2 xl3 xl4 hp _ a0 fa0 rfl rfl rfl rfl rfl hM h)

def f_X11_sky_24 (N : Nat) (S : yS) : Option (Option Int32 × yS) := some (none, S)
set_option maxHeartbeats 4000000 in
set_option maxRecDepth 40000 in
theorem w_X11_sky_24 {F : xH} {ev : xEv} {prim : xRel} {d sz : Nat} {T : yT} {v : Option Int32} {S' : yS} (N : Nat) (S : yS) (hp : xH) (lv : xLv) (hM : cR [0, 1, 2, 3, 4, 5, 6, 7] F ev T S hp) (h : f_X11_sky_24 N S = some (v, S')) : yWE ev.2.1 (xstr ev) (xCalls ev xmi (xprog ev) prim (d + 2)) (pX11_sky ev) (24, lv, [], hp, sz, 0) (ypT [0, 1, 2, 3, 4, 5, 6, 7] F ev T sz [24] (vI v) S') := by
  unfold f_X11_sky_24 at h
  exact ye_stop (rX h (by decide) hM)

def f_X11_sky_59 (N : Nat) (S : yS) (t0 : Int32) : Option (Option Int32 × yS) := some (some t0, S)
set_option maxHeartbeats 4000000 in
set_option maxRecDepth 40000 in
theorem w_X11_sky_59 {F : xH} {ev : xEv} {prim : xRel} {d sz : Nat} {T : yT} {v : Option Int32} {S' : yS} (N : Nat) (S : yS) (t0 : Int32) (hp : xH) (lv : xLv) (hM : cR [0, 1, 2, 3, 4, 5, 6, 7] F ev T S hp) (h : f_X11_sky_59 N S t0 = some (v, S')) : yWE ev.2.1 (xstr ev) (xCalls ev xmi (xprog ev) prim (d + 2)) (pX11_sky ev) (59, lv, [.int t0], hp, sz, 0) (ypT [0, 1, 2, 3, 4, 5, 6, 7] F ev T sz [24] (vI v) S') := by
  unfold f_X11_sky_59 at h
  exact ye_ret rfl rfl (rT h hM)

def f_X11_sky_0 (N : Nat) (S : yS) (l1 : Int32) (l2 : Int32) (l3 : Int32) : Option (Option Int32 × yS) := bV (f_X11_isLeg N S l1) fun w1 => if w1 = 0 then f_X11_sky_24 N S else bV (f_X11_isQuarter N S l2) fun w2 => if w2 = 0 then f_X11_sky_24 N S else bV (f_X11_within N S l3 0 1) fun w3 => if ¬ w3 = 0 then if ¬ l3 = 0 then bV (f_X2_windAt N S l1 l2) fun w4 => f_X11_sky_59 N S w4 else bV (f_X2_cloudAt N S l1 l2) fun w5 => f_X11_sky_59 N S w5 else f_X11_sky_24 N S
set_option maxHeartbeats 4000000 in
set_option maxRecDepth 40000 in
theorem w_X11_sky_0 {F : xH} {ev : xEv} {prim : xRel} {d sz : Nat} {T : yT} {v : Option Int32} {S' : yS} (N : Nat) (S : yS) (l1 : Int32) (l2 : Int32) (l3 : Int32) (hp : xH) (lv : xLv) (a0 : Nat) (fa0 : yAt T 11 0 0 a0) (g0 : xG lv 0 = some (.ref a0)) (g1 : xG lv 1 = some (.int l1)) (g2 : xG lv 2 = some (.int l2)) (g3 : xG lv 3 = some (.int l3)) (hM : cR [0, 1, 2, 3, 4, 5, 6, 7] F ev T S hp) (h : f_X11_sky_0 N S l1 l2 l3 = some (v, S')) : yWE ev.2.1 (xstr ev) (xCalls ev xmi (xprog ev) prim (d + 2)) (pX11_sky ev) (0, lv, [], hp, sz, 0) (ypT [0, 1, 2, 3, 4, 5, 6, 7] F ev T sz [24] (vI v) S') := by
  unfold f_X11_sky_0 at h
  refine ye_aload rfl g0 ?_
  refine ye_iload rfl g1 ?_
  obtain ⟨w1, hw1, h⟩ := bV_some h
  refine ye_callV (As := [.int l1]) (rest := []) 0 (Or.inl rfl) rfl rfl rfl (Nat.le_of_ble_eq_true rfl) (hM.obj fa0 ⟨rfl, rfl⟩) ((m_X11_isLeg (d := d + 0) (T := T) N S l1 a0 fa0 hw1) hp sz hM) ?_
  refine ye_if_eq rfl (fun h1 => ?_) (fun h1 => ?_)
  · replace h := yiT h1 h
    exact w_X11_sky_24 (prim := prim) (d := d) N S hp lv hM h
  · replace h := yiN h1 h
    refine ye_iload rfl g2 ?_
    obtain ⟨w2, hw2, h⟩ := bV_some h
    refine ye_callS (As := [.int l2]) (rest := []) 1 (Or.inl rfl) rfl rfl rfl (Nat.le_of_ble_eq_true rfl) ((m_X11_isQuarter (d := d + 0) (T := T) N S l2 hw2) hp sz hM) ?_
    refine ye_if_eq rfl (fun h2 => ?_) (fun h2 => ?_)
    · replace h := yiT h2 h
      exact w_X11_sky_24 (prim := prim) (d := d) N S hp lv hM h
    · replace h := yiN h2 h
      refine ye_iload rfl g3 ?_
      refine ye_p rfl rfl ?_
      refine ye_p rfl rfl ?_
      obtain ⟨w3, hw3, h⟩ := bV_some h
      refine ye_callS (As := [.int l3, .int 0, .int 1]) (rest := []) 1 (Or.inl rfl) rfl rfl rfl (Nat.le_of_ble_eq_true rfl) ((m_X11_within (d := d + 1) (T := T) N S l3 0 1 hw3) hp sz hM) ?_
      refine ye_if_ne rfl (fun h3 => ?_) (fun h3 => ?_)
      · replace h := yiT h3 h
        refine ye_iload rfl g3 ?_
        refine ye_if_ne rfl (fun h4 => ?_) (fun h4 => ?_)
        · replace h := yiT h4 h
          refine ye_aload rfl g0 ?_
          refine ye_getr rfl (hM.obj fa0 ⟨rfl, rfl⟩) rfl (fun cx1 ecx1 => ?_)
          have fcx1 := hM.root 2 0 (by decide) rfl ecx1
          refine ye_iload rfl g1 ?_
          refine ye_iload rfl g2 ?_
          obtain ⟨w4, hw4, h⟩ := bV_some h
          refine ye_callV (As := [.int l1, .int l2]) (rest := []) 0 (Or.inl rfl) rfl rfl rfl (Nat.le_of_ble_eq_true rfl) (hM.obj fcx1 ⟨rfl, rfl⟩) ((m_X2_windAt (d := d + 0) (T := T) N S l1 l2 cx1 fcx1 hw4) hp sz hM) ?_
          exact w_X11_sky_59 (prim := prim) (d := d) N S w4 hp lv hM h
        · replace h := yiN h4 h
          refine ye_aload rfl g0 ?_
          refine ye_getr rfl (hM.obj fa0 ⟨rfl, rfl⟩) rfl (fun cx2 ecx2 => ?_)
          have fcx2 := hM.root 2 0 (by decide) rfl ecx2
          refine ye_iload rfl g1 ?_
          refine ye_iload rfl g2 ?_
          obtain ⟨w5, hw5, h⟩ := bV_some h
          refine ye_callV (As := [.int l1, .int l2]) (rest := []) 0 (Or.inl rfl) rfl rfl rfl (Nat.le_of_ble_eq_true rfl) (hM.obj fcx2 ⟨rfl, rfl⟩) ((m_X2_cloudAt (d := d + 0) (T := T) N S l1 l2 cx2 fcx2 hw5) hp sz hM) ?_
          refine ye_p rfl rfl ?_
          exact w_X11_sky_59 (prim := prim) (d := d) N S w5 hp lv hM h
      · replace h := yiN h3 h
        exact w_X11_sky_24 (prim := prim) (d := d) N S hp lv hM h
def f_X11_sky (N : Nat) (S : yS) (xl1 : Int32) (xl2 : Int32) (xl3 : Int32) : Option (Option Int32 × yS) := f_X11_sky_0 N S xl1 xl2 xl3
theorem m_X11_sky {F : xH} {ev : xEv} {prim : xRel} {d : Nat} {T : yT} {v : Option Int32} {S' : yS} (N : Nat) (S : yS) (xl1 : Int32) (xl2 : Int32) (xl3 : Int32) (a0 : Nat) (fa0 : yAt T 11 0 0 a0) (h : f_X11_sky N S xl1 xl2 xl3 = some (v, S')) : ∀ (hp : xH) (sz : Nat), cR [0, 1, 2, 3, 4, 5, 6, 7] F ev T S hp → yWE ev.2.1 (xstr ev) (xCalls ev xmi (xprog ev) prim (d + 2)) (pX11_sky ev) (0, lv_args 0 [.ref a0, .int xl1, .int xl2, .int xl3], [], hp, sz, 0) (ypT [0, 1, 2, 3, 4, 5, 6, 7] F ev T sz [24] (vI v) S') :=
  fun hp sz hM => w_X11_sky_0 (prim := prim) (d := d) N S xl1 xl2 xl3 hp _ a0 fa0 rfl rfl rfl rfl hM h

def f_X11_word_41 (N : Nat) (S : yS) : Option (Int32 × yS) := some ((-1), S)
set_option maxHeartbeats 4000000 in
set_option maxRecDepth 40000 in
theorem w_X11_word_41 {F : xH} {ev : xEv} {prim : xRel} {d sz : Nat} {T : yT} {v : Int32} {S' : yS} (N : Nat) (S : yS) (hp : xH) (lv : xLv) (hM : cR [0, 1, 2, 3, 4, 5, 6, 7] F ev T S hp) (h : f_X11_word_41 N S = some (v, S')) : yWE ev.2.1 (xstr ev) (xCalls ev xmi (xprog ev) prim (d + 2)) (pX11_word ev) (41, lv, [], hp, sz, 0) (ypQ [0, 1, 2, 3, 4, 5, 6, 7] F ev T sz (some (.int v)) S') := by
  unfold f_X11_word_41 at h
  refine ye_p rfl rfl ?_
  exact ye_ret rfl rfl (rQ h hM)

def f_X11_word_0 (N : Nat) (S : yS) (l1 : Int32) (l2 : Int32) (l3 : Int32) (l4 : Int32) (l5 : Int32) : Option (Int32 × yS) := bV (f_X11_isField N S l1) fun w1 => if w1 = 0 then f_X11_word_41 N S else bV (f_X11_isLeg N S l2) fun w2 => if w2 = 0 then f_X11_word_41 N S else bV (f_X11_within N S l3 0 (S.1 2 13)) fun w3 => if w3 = 0 then f_X11_word_41 N S else bV (f_X11_isWeather N S l4 l5) fun w4 => if ¬ w4 = 0 then if (S.1 3 1) < 120 then bS (f_X9_come N S l1 (S.1 2 13) l2 l3 l4 l5) fun w5 S1 => some (S1.1 3 1, S1) else some ((-1), S) else f_X11_word_41 N S
set_option maxHeartbeats 4000000 in
set_option maxRecDepth 40000 in
theorem w_X11_word_0 {F : xH} {ev : xEv} {prim : xRel} {d sz : Nat} {T : yT} {v : Int32} {S' : yS} (N : Nat) (S : yS) (l1 : Int32) (l2 : Int32) (l3 : Int32) (l4 : Int32) (l5 : Int32) (hp : xH) (lv : xLv) (a0 : Nat) (fa0 : yAt T 11 0 0 a0) (g0 : xG lv 0 = some (.ref a0)) (g1 : xG lv 1 = some (.int l1)) (g2 : xG lv 2 = some (.int l2)) (g3 : xG lv 3 = some (.int l3)) (g4 : xG lv 4 = some (.int l4)) (g5 : xG lv 5 = some (.int l5)) (hM : cR [0, 1, 2, 3, 4, 5, 6, 7] F ev T S hp) (h : f_X11_word_0 N S l1 l2 l3 l4 l5 = some (v, S')) : yWE ev.2.1 (xstr ev) (xCalls ev xmi (xprog ev) prim (d + 2)) (pX11_word ev) (0, lv, [], hp, sz, 0) (ypQ [0, 1, 2, 3, 4, 5, 6, 7] F ev T sz (some (.int v)) S') := by
  unfold f_X11_word_0 at h
  refine ye_aload rfl g0 ?_
  refine ye_iload rfl g1 ?_
  obtain ⟨w1, hw1, h⟩ := bV_some h
  refine ye_callV (As := [.int l1]) (rest := []) 0 (Or.inl rfl) rfl rfl rfl (Nat.le_of_ble_eq_true rfl) (hM.obj fa0 ⟨rfl, rfl⟩) ((m_X11_isField (d := d + 0) (T := T) N S l1 a0 fa0 hw1) hp sz hM) ?_
  refine ye_if_eq rfl (fun h1 => ?_) (fun h1 => ?_)
  · replace h := yiT h1 h
    exact w_X11_word_41 (prim := prim) (d := d) N S hp lv hM h
  · replace h := yiN h1 h
    refine ye_aload rfl g0 ?_
    refine ye_iload rfl g2 ?_
    obtain ⟨w2, hw2, h⟩ := bV_some h
    refine ye_callV (As := [.int l2]) (rest := []) 0 (Or.inl rfl) rfl rfl rfl (Nat.le_of_ble_eq_true rfl) (hM.obj fa0 ⟨rfl, rfl⟩) ((m_X11_isLeg (d := d + 0) (T := T) N S l2 a0 fa0 hw2) hp sz hM) ?_
    refine ye_if_eq rfl (fun h2 => ?_) (fun h2 => ?_)
    · replace h := yiT h2 h
      exact w_X11_word_41 (prim := prim) (d := d) N S hp lv hM h
    · replace h := yiN h2 h
      refine ye_iload rfl g3 ?_
      refine ye_p rfl rfl ?_
      refine ye_aload rfl g0 ?_
      refine ye_getr rfl (hM.obj fa0 ⟨rfl, rfl⟩) rfl (fun cx1 ecx1 => ?_)
      have fcx1 := hM.root 10 0 (by decide) rfl ecx1
      refine ye_getf rfl (hM.obj fcx1 ⟨rfl, rfl⟩) rfl ?_
      obtain ⟨w3, hw3, h⟩ := bV_some h
      refine ye_callS (As := [.int l3, .int 0, .int (S.1 2 13)]) (rest := []) 1 (Or.inl rfl) rfl rfl rfl (Nat.le_of_ble_eq_true rfl) ((m_X11_within (d := d + 1) (T := T) N S l3 0 (S.1 2 13) hw3) hp sz hM) ?_
      refine ye_if_eq rfl (fun h3 => ?_) (fun h3 => ?_)
      · replace h := yiT h3 h
        exact w_X11_word_41 (prim := prim) (d := d) N S hp lv hM h
      · replace h := yiN h3 h
        refine ye_iload rfl g4 ?_
        refine ye_iload rfl g5 ?_
        obtain ⟨w4, hw4, h⟩ := bV_some h
        refine ye_callS (As := [.int l4, .int l5]) (rest := []) 1 (Or.inl rfl) rfl rfl rfl (Nat.le_of_ble_eq_true rfl) ((m_X11_isWeather (d := d + 0) (T := T) N S l4 l5 hw4) hp sz hM) ?_
        refine ye_if_ne rfl (fun h4 => ?_) (fun h4 => ?_)
        · replace h := yiT h4 h
          refine ye_aload rfl g0 ?_
          refine ye_getr rfl (hM.obj fa0 ⟨rfl, rfl⟩) rfl (fun cx2 ecx2 => ?_)
          have fcx2 := hM.root 10 0 (by decide) rfl ecx2
          refine ye_getr rfl (hM.obj fcx2 ⟨rfl, rfl⟩) rfl (fun cx3 ecx3 => ?_)
          have fcx3 := hM.root 9 0 (by decide) rfl ecx3
          refine ye_getf rfl (hM.obj fcx3 ⟨rfl, rfl⟩) rfl ?_
          refine ye_p rfl rfl ?_
          refine ye_icmp_lt rfl (fun h5 => ?_) (fun h5 => ?_)
          · replace h := yiT h5 h
            refine ye_aload rfl g0 ?_
            refine ye_getr rfl (hM.obj fa0 ⟨rfl, rfl⟩) rfl (fun cx4 ecx4 => ?_)
            have fcx4 := hM.root 10 0 (by decide) rfl ecx4
            refine ye_getr rfl (hM.obj fcx4 ⟨rfl, rfl⟩) rfl (fun cx5 ecx5 => ?_)
            have fcx5 := hM.root 9 0 (by decide) rfl ecx5
            refine ye_iload rfl g1 ?_
            refine ye_aload rfl g0 ?_
            refine ye_getr rfl (hM.obj fa0 ⟨rfl, rfl⟩) rfl (fun cx6 ecx6 => ?_)
            have fcx6 := hM.root 10 0 (by decide) rfl ecx6
            refine ye_getf rfl (hM.obj fcx6 ⟨rfl, rfl⟩) rfl ?_
            refine ye_iload rfl g2 ?_
            refine ye_iload rfl g3 ?_
            refine ye_iload rfl g4 ?_
            refine ye_iload rfl g5 ?_
            obtain ⟨w5, S1, hw5, h⟩ := bS_some h
            obtain ⟨y1, cy1, M1⟩ := (m_X9_come (d := d + 1) (T := T) N S l1 (S.1 2 13) l2 l3 l4 l5 cx5 fcx5 hw5) hp sz hM
            refine ye_callV (As := [.int l1, .int (S.1 2 13), .int l2, .int l3, .int l4, .int l5]) (rest := []) 0 (Or.inl rfl) rfl rfl rfl (Nat.le_of_ble_eq_true rfl) (hM.obj fcx5 ⟨rfl, rfl⟩) cy1 ?_
            refine ye_aload rfl g0 ?_
            refine ye_getr rfl (M1.obj fa0 ⟨rfl, rfl⟩) rfl (fun cx7 ecx7 => ?_)
            have fcx7 := M1.root 10 0 (by decide) rfl ecx7
            refine ye_getr rfl (M1.obj fcx7 ⟨rfl, rfl⟩) rfl (fun cx8 ecx8 => ?_)
            have fcx8 := M1.root 9 0 (by decide) rfl ecx8
            refine ye_getf rfl (M1.obj fcx8 ⟨rfl, rfl⟩) rfl ?_
            exact ye_ret rfl rfl (rQ h M1)
          · replace h := yiN h5 h
            refine ye_p rfl rfl ?_
            exact ye_ret rfl rfl (rQ h hM)
        · replace h := yiN h4 h
          exact w_X11_word_41 (prim := prim) (d := d) N S hp lv hM h
def f_X11_word (N : Nat) (S : yS) (xl1 : Int32) (xl2 : Int32) (xl3 : Int32) (xl4 : Int32) (xl5 : Int32) : Option (Int32 × yS) := f_X11_word_0 N S xl1 xl2 xl3 xl4 xl5
theorem m_X11_word {F : xH} {ev : xEv} {prim : xRel} {d : Nat} {T : yT} {v : Int32} {S' : yS} (N : Nat) (S : yS) (xl1 : Int32) (xl2 : Int32) (xl3 : Int32) (xl4 : Int32) (xl5 : Int32) (a0 : Nat) (fa0 : yAt T 11 0 0 a0) (h : f_X11_word N S xl1 xl2 xl3 xl4 xl5 = some (v, S')) : ykQ [0, 1, 2, 3, 4, 5, 6, 7] F ev prim (d + 3) 135 T S [.ref a0, .int xl1, .int xl2, .int xl3, .int xl4, .int xl5] (some (.int v)) S' :=
  ykQ.of (pg_135 ev) mi_135 (Nat.le_of_ble_eq_true rfl) (fun hp sz hM => w_X11_word_0 (prim := prim) (d := d) N S xl1 xl2 xl3 xl4 xl5 hp _ a0 fa0 rfl rfl rfl rfl rfl rfl hM h)

def f_X11_heard_33 (N : Nat) (S : yS) : Option (Option Int32 × yS) := some (none, S)
set_option maxHeartbeats 4000000 in
set_option maxRecDepth 40000 in
theorem w_X11_heard_33 {F : xH} {ev : xEv} {prim : xRel} {d sz : Nat} {T : yT} {v : Option Int32} {S' : yS} (N : Nat) (S : yS) (hp : xH) (lv : xLv) (hM : cR [0, 1, 2, 3, 4, 5, 6, 7] F ev T S hp) (h : f_X11_heard_33 N S = some (v, S')) : yWE ev.2.1 (xstr ev) (xCalls ev xmi (xprog ev) prim (d + 2)) (pX11_heard ev) (33, lv, [], hp, sz, 0) (ypT [0, 1, 2, 3, 4, 5, 6, 7] F ev T sz [33, 64] (vI v) S') := by
  unfold f_X11_heard_33 at h
  exact ye_stop (rX h (by decide) hM)

def f_X11_heard_0 (N : Nat) (S : yS) (l1 : Int32) (l2 : Int32) (l3 : Int32) (l4 : Int32) : Option (Option Int32 × yS) := bV (f_X11_isField N S l1) fun w1 => if w1 = 0 then f_X11_heard_33 N S else bV (f_X11_isLeg N S l2) fun w2 => if w2 = 0 then f_X11_heard_33 N S else bV (f_X11_isQuarter N S l3) fun w3 => if w3 = 0 then f_X11_heard_33 N S else bV (f_X11_within N S l4 0 2) fun w4 => if ¬ w4 = 0 then bV (f_X9_latest N S l1 l2 l3) fun w5 => if ¬ w5 = ((-1)) then if l4 = 0 then gA 120 w5 fun j1 => some (some (S.2.1 3 2 j1), S) else if l4 = 1 then gA 120 w5 fun j2 => some (some (S.2.1 3 3 j2), S) else gA 120 w5 fun j3 => some (some (S.2.1 3 4 j3), S) else some (none, S) else f_X11_heard_33 N S
set_option maxHeartbeats 4000000 in
set_option maxRecDepth 40000 in
theorem w_X11_heard_0 {F : xH} {ev : xEv} {prim : xRel} {d sz : Nat} {T : yT} {v : Option Int32} {S' : yS} (N : Nat) (S : yS) (l1 : Int32) (l2 : Int32) (l3 : Int32) (l4 : Int32) (hp : xH) (lv : xLv) (a0 : Nat) (fa0 : yAt T 11 0 0 a0) (g0 : xG lv 0 = some (.ref a0)) (g1 : xG lv 1 = some (.int l1)) (g2 : xG lv 2 = some (.int l2)) (g3 : xG lv 3 = some (.int l3)) (g4 : xG lv 4 = some (.int l4)) (hM : cR [0, 1, 2, 3, 4, 5, 6, 7] F ev T S hp) (h : f_X11_heard_0 N S l1 l2 l3 l4 = some (v, S')) : yWE ev.2.1 (xstr ev) (xCalls ev xmi (xprog ev) prim (d + 2)) (pX11_heard ev) (0, lv, [], hp, sz, 0) (ypT [0, 1, 2, 3, 4, 5, 6, 7] F ev T sz [33, 64] (vI v) S') := by
  unfold f_X11_heard_0 at h
  refine ye_aload rfl g0 ?_
  refine ye_iload rfl g1 ?_
  obtain ⟨w1, hw1, h⟩ := bV_some h
  refine ye_callV (As := [.int l1]) (rest := []) 0 (Or.inl rfl) rfl rfl rfl (Nat.le_of_ble_eq_true rfl) (hM.obj fa0 ⟨rfl, rfl⟩) ((m_X11_isField (d := d + 0) (T := T) N S l1 a0 fa0 hw1) hp sz hM) ?_
  refine ye_if_eq rfl (fun h1 => ?_) (fun h1 => ?_)
  · replace h := yiT h1 h
    exact w_X11_heard_33 (prim := prim) (d := d) N S hp lv hM h
  · replace h := yiN h1 h
    refine ye_aload rfl g0 ?_
    refine ye_iload rfl g2 ?_
    obtain ⟨w2, hw2, h⟩ := bV_some h
    refine ye_callV (As := [.int l2]) (rest := []) 0 (Or.inl rfl) rfl rfl rfl (Nat.le_of_ble_eq_true rfl) (hM.obj fa0 ⟨rfl, rfl⟩) ((m_X11_isLeg (d := d + 0) (T := T) N S l2 a0 fa0 hw2) hp sz hM) ?_
    refine ye_if_eq rfl (fun h2 => ?_) (fun h2 => ?_)
    · replace h := yiT h2 h
      exact w_X11_heard_33 (prim := prim) (d := d) N S hp lv hM h
    · replace h := yiN h2 h
      refine ye_iload rfl g3 ?_
      obtain ⟨w3, hw3, h⟩ := bV_some h
      refine ye_callS (As := [.int l3]) (rest := []) 1 (Or.inl rfl) rfl rfl rfl (Nat.le_of_ble_eq_true rfl) ((m_X11_isQuarter (d := d + 0) (T := T) N S l3 hw3) hp sz hM) ?_
      refine ye_if_eq rfl (fun h3 => ?_) (fun h3 => ?_)
      · replace h := yiT h3 h
        exact w_X11_heard_33 (prim := prim) (d := d) N S hp lv hM h
      · replace h := yiN h3 h
        refine ye_iload rfl g4 ?_
        refine ye_p rfl rfl ?_
        refine ye_p rfl rfl ?_
        obtain ⟨w4, hw4, h⟩ := bV_some h
        refine ye_callS (As := [.int l4, .int 0, .int 2]) (rest := []) 1 (Or.inl rfl) rfl rfl rfl (Nat.le_of_ble_eq_true rfl) ((m_X11_within (d := d + 1) (T := T) N S l4 0 2 hw4) hp sz hM) ?_
        refine ye_if_ne rfl (fun h4 => ?_) (fun h4 => ?_)
        · replace h := yiT h4 h
          refine ye_aload rfl g0 ?_
          refine ye_getr rfl (hM.obj fa0 ⟨rfl, rfl⟩) rfl (fun cx1 ecx1 => ?_)
          have fcx1 := hM.root 10 0 (by decide) rfl ecx1
          refine ye_getr rfl (hM.obj fcx1 ⟨rfl, rfl⟩) rfl (fun cx2 ecx2 => ?_)
          have fcx2 := hM.root 9 0 (by decide) rfl ecx2
          refine ye_iload rfl g1 ?_
          refine ye_iload rfl g2 ?_
          refine ye_iload rfl g3 ?_
          obtain ⟨w5, hw5, h⟩ := bV_some h
          refine ye_callV (As := [.int l1, .int l2, .int l3]) (rest := []) 0 (Or.inl rfl) rfl rfl rfl (Nat.le_of_ble_eq_true rfl) (hM.obj fcx2 ⟨rfl, rfl⟩) ((m_X9_latest (d := d + 1) (T := T) N S l1 l2 l3 cx2 fcx2 hw5) hp sz hM) ?_
          refine ye_p rfl rfl ?_
          have g0_z1 := xG_o1 (i := 5) (v := .int w5) g0 rfl
          have g4_z1 := xG_o1 (i := 5) (v := .int w5) g4 rfl
          have g5_z1 := xG_same lv 5 (.int w5)
          generalize xSt1 lv 5 (.int w5) = lvz1 at g0_z1 g4_z1 g5_z1 ⊢
          refine ye_iload rfl g5_z1 ?_
          refine ye_p rfl rfl ?_
          refine ye_icmp_ne rfl (fun h5 => ?_) (fun h5 => ?_)
          · replace h := yiT h5 h
            refine ye_iload rfl g4_z1 ?_
            by_cases h6 : l4 = 0
            · replace h := yiT h6 h
              refine ye_sw rfl (show _ = 104 from by rw [h6]; rfl) ?_
              refine ye_aload rfl g0_z1 ?_
              refine ye_getr rfl (hM.obj fa0 ⟨rfl, rfl⟩) rfl (fun cx3 ecx3 => ?_)
              have fcx3 := hM.root 10 0 (by decide) rfl ecx3
              refine ye_getr rfl (hM.obj fcx3 ⟨rfl, rfl⟩) rfl (fun cx4 ecx4 => ?_)
              have fcx4 := hM.root 9 0 (by decide) rfl ecx4
              refine ye_getr rfl (hM.obj fcx4 ⟨rfl, rfl⟩) rfl (fun cx5 ecx5 => ?_)
              have fcx5 := yAt.row fcx4 ecx5
              refine ye_iload rfl g5_z1 ?_
              obtain ⟨j1, ej1, ij1, h⟩ := gA_some h
              refine yj_ald rfl (hM.arr fcx5 yr_9_2) ij1 ej1 ?_
              exact ye_ret rfl rfl (rT h hM)
            · replace h := yiN h6 h
              by_cases h7 : l4 = 1
              · replace h := yiT h7 h
                refine ye_sw rfl (show _ = 118 from by rw [h7]; rfl) ?_
                refine ye_aload rfl g0_z1 ?_
                refine ye_getr rfl (hM.obj fa0 ⟨rfl, rfl⟩) rfl (fun cx6 ecx6 => ?_)
                have fcx6 := hM.root 10 0 (by decide) rfl ecx6
                refine ye_getr rfl (hM.obj fcx6 ⟨rfl, rfl⟩) rfl (fun cx7 ecx7 => ?_)
                have fcx7 := hM.root 9 0 (by decide) rfl ecx7
                refine ye_getr rfl (hM.obj fcx7 ⟨rfl, rfl⟩) rfl (fun cx8 ecx8 => ?_)
                have fcx8 := yAt.row fcx7 ecx8
                refine ye_iload rfl g5_z1 ?_
                obtain ⟨j2, ej2, ij2, h⟩ := gA_some h
                refine yj_ald rfl (hM.arr fcx8 yr_9_3) ij2 ej2 ?_
                exact ye_ret rfl rfl (rT h hM)
              · replace h := yiN h7 h
                refine ye_sw rfl (show _ = 132 from xlsw_neg h6 (by decide) (xlsw_neg h7 (by decide) (rfl))) ?_
                refine ye_aload rfl g0_z1 ?_
                refine ye_getr rfl (hM.obj fa0 ⟨rfl, rfl⟩) rfl (fun cx9 ecx9 => ?_)
                have fcx9 := hM.root 10 0 (by decide) rfl ecx9
                refine ye_getr rfl (hM.obj fcx9 ⟨rfl, rfl⟩) rfl (fun cx10 ecx10 => ?_)
                have fcx10 := hM.root 9 0 (by decide) rfl ecx10
                refine ye_getr rfl (hM.obj fcx10 ⟨rfl, rfl⟩) rfl (fun cx11 ecx11 => ?_)
                have fcx11 := yAt.row fcx10 ecx11
                refine ye_iload rfl g5_z1 ?_
                obtain ⟨j3, ej3, ij3, h⟩ := gA_some h
                refine yj_ald rfl (hM.arr fcx11 yr_9_4) ij3 ej3 ?_
                exact ye_ret rfl rfl (rT h hM)
          · replace h := yiN h5 h
            exact ye_stop (rX h (by decide) hM)
        · replace h := yiN h4 h
          exact w_X11_heard_33 (prim := prim) (d := d) N S hp lv hM h
def f_X11_heard (N : Nat) (S : yS) (xl1 : Int32) (xl2 : Int32) (xl3 : Int32) (xl4 : Int32) : Option (Option Int32 × yS) := f_X11_heard_0 N S xl1 xl2 xl3 xl4
theorem m_X11_heard {F : xH} {ev : xEv} {prim : xRel} {d : Nat} {T : yT} {v : Option Int32} {S' : yS} (N : Nat) (S : yS) (xl1 : Int32) (xl2 : Int32) (xl3 : Int32) (xl4 : Int32) (a0 : Nat) (fa0 : yAt T 11 0 0 a0) (h : f_X11_heard N S xl1 xl2 xl3 xl4 = some (v, S')) : ∀ (hp : xH) (sz : Nat), cR [0, 1, 2, 3, 4, 5, 6, 7] F ev T S hp → yWE ev.2.1 (xstr ev) (xCalls ev xmi (xprog ev) prim (d + 2)) (pX11_heard ev) (0, lv_args 0 [.ref a0, .int xl1, .int xl2, .int xl3, .int xl4], [], hp, sz, 0) (ypT [0, 1, 2, 3, 4, 5, 6, 7] F ev T sz [33, 64] (vI v) S') :=
  fun hp sz hM => w_X11_heard_0 (prim := prim) (d := d) N S xl1 xl2 xl3 xl4 hp _ a0 fa0 rfl rfl rfl rfl rfl hM h

def f_X11_engine_42 (N : Nat) (S : yS) : Option (Int32 × yS) := some (0, S)
set_option maxHeartbeats 4000000 in
set_option maxRecDepth 40000 in
theorem w_X11_engine_42 {F : xH} {ev : xEv} {prim : xRel} {d sz : Nat} {T : yT} {v : Int32} {S' : yS} (N : Nat) (S : yS) (hp : xH) (lv : xLv) (hM : cR [0, 1, 2, 3, 4, 5, 6, 7] F ev T S hp) (h : f_X11_engine_42 N S = some (v, S')) : yWE ev.2.1 (xstr ev) (xCalls ev xmi (xprog ev) prim (d + 2)) (pX11_engine ev) (42, lv, [], hp, sz, 0) (ypQ [0, 1, 2, 3, 4, 5, 6, 7] F ev T sz (some (.int v)) S') := by
  unfold f_X11_engine_42 at h
  refine ye_p rfl rfl ?_
  exact ye_ret rfl rfl (rQ h hM)

def f_X11_engine_0 (N : Nat) (S : yS) (l1 : Int32) (l2 : Int32) (l3 : Int32) (l4 : Int32) : Option (Int32 × yS) := bV (f_X11_isPlane N S l1) fun w1 => if w1 = 0 then f_X11_engine_42 N S else bV (f_X11_within N S l2 0 999) fun w2 => if w2 = 0 then f_X11_engine_42 N S else bV (f_X11_within N S l3 1 999) fun w3 => if w3 = 0 then f_X11_engine_42 N S else bV (f_X11_within N S l4 0 999) fun w4 => if ¬ w4 = 0 then gR (S.2.1 2 4) 8 l1 fun j1 => sq (yI S ((128 + j1)) 5 l2) fun S1 => sq (yI S1 ((128 + j1)) 6 l3) fun S2 => sq (yI S2 ((128 + j1)) 7 l4) fun S3 => some (1, S3) else f_X11_engine_42 N S
set_option maxHeartbeats 4000000 in
set_option maxRecDepth 40000 in
theorem w_X11_engine_0 {F : xH} {ev : xEv} {prim : xRel} {d sz : Nat} {T : yT} {v : Int32} {S' : yS} (N : Nat) (S : yS) (l1 : Int32) (l2 : Int32) (l3 : Int32) (l4 : Int32) (hp : xH) (lv : xLv) (a0 : Nat) (fa0 : yAt T 11 0 0 a0) (g0 : xG lv 0 = some (.ref a0)) (g1 : xG lv 1 = some (.int l1)) (g2 : xG lv 2 = some (.int l2)) (g3 : xG lv 3 = some (.int l3)) (g4 : xG lv 4 = some (.int l4)) (hM : cR [0, 1, 2, 3, 4, 5, 6, 7] F ev T S hp) (h : f_X11_engine_0 N S l1 l2 l3 l4 = some (v, S')) : yWE ev.2.1 (xstr ev) (xCalls ev xmi (xprog ev) prim (d + 2)) (pX11_engine ev) (0, lv, [], hp, sz, 0) (ypQ [0, 1, 2, 3, 4, 5, 6, 7] F ev T sz (some (.int v)) S') := by
  unfold f_X11_engine_0 at h
  refine ye_aload rfl g0 ?_
  refine ye_iload rfl g1 ?_
  obtain ⟨w1, hw1, h⟩ := bV_some h
  refine ye_callV (As := [.int l1]) (rest := []) 0 (Or.inl rfl) rfl rfl rfl (Nat.le_of_ble_eq_true rfl) (hM.obj fa0 ⟨rfl, rfl⟩) ((m_X11_isPlane (d := d + 0) (T := T) N S l1 a0 fa0 hw1) hp sz hM) ?_
  refine ye_if_eq rfl (fun h1 => ?_) (fun h1 => ?_)
  · replace h := yiT h1 h
    exact w_X11_engine_42 (prim := prim) (d := d) N S hp lv hM h
  · replace h := yiN h1 h
    refine ye_iload rfl g2 ?_
    refine ye_p rfl rfl ?_
    refine ye_p rfl rfl ?_
    obtain ⟨w2, hw2, h⟩ := bV_some h
    refine ye_callS (As := [.int l2, .int 0, .int 999]) (rest := []) 1 (Or.inl rfl) rfl rfl rfl (Nat.le_of_ble_eq_true rfl) ((m_X11_within (d := d + 1) (T := T) N S l2 0 999 hw2) hp sz hM) ?_
    refine ye_if_eq rfl (fun h2 => ?_) (fun h2 => ?_)
    · replace h := yiT h2 h
      exact w_X11_engine_42 (prim := prim) (d := d) N S hp lv hM h
    · replace h := yiN h2 h
      refine ye_iload rfl g3 ?_
      refine ye_p rfl rfl ?_
      refine ye_p rfl rfl ?_
      obtain ⟨w3, hw3, h⟩ := bV_some h
      refine ye_callS (As := [.int l3, .int 1, .int 999]) (rest := []) 1 (Or.inl rfl) rfl rfl rfl (Nat.le_of_ble_eq_true rfl) ((m_X11_within (d := d + 1) (T := T) N S l3 1 999 hw3) hp sz hM) ?_
      refine ye_if_eq rfl (fun h3 => ?_) (fun h3 => ?_)
      · replace h := yiT h3 h
        exact w_X11_engine_42 (prim := prim) (d := d) N S hp lv hM h
      · replace h := yiN h3 h
        refine ye_iload rfl g4 ?_
        refine ye_p rfl rfl ?_
        refine ye_p rfl rfl ?_
        obtain ⟨w4, hw4, h⟩ := bV_some h
        refine ye_callS (As := [.int l4, .int 0, .int 999]) (rest := []) 1 (Or.inl rfl) rfl rfl rfl (Nat.le_of_ble_eq_true rfl) ((m_X11_within (d := d + 1) (T := T) N S l4 0 999 hw4) hp sz hM) ?_
        refine ye_if_ne rfl (fun h4 => ?_) (fun h4 => ?_)
        · replace h := yiT h4 h
          refine ye_aload rfl g0 ?_
          refine ye_getr rfl (hM.obj fa0 ⟨rfl, rfl⟩) rfl (fun cx1 ecx1 => ?_)
          have fcx1 := hM.root 10 0 (by decide) rfl ecx1
          refine ye_getr rfl (hM.obj fcx1 ⟨rfl, rfl⟩) rfl (fun cx2 ecx2 => ?_)
          have fcx2 := yAt.row fcx1 ecx2
          refine ye_iload rfl g1 ?_
          obtain ⟨j1, ej1, ij1, rj1, h⟩ := gR_some h
          refine ye_aaldR (t := 5) rfl (hM.arr fcx2 yr_10_4) ij1 ej1 rj1 (fun cx3 ecx3 => ?_)
          have fcx3 : yAt T 6 (128 + j1) 0 cx3 := ⟨hM.refd fcx2 yr_10_4 (by decide) rj1, oc_128 (by have := vp_lt ij1; omega), ecx3⟩
          refine ye_p rfl rfl ?_
          have g2_z1 := xG_o1 (i := 5) (v := .ref cx3) g2 rfl
          have g3_z1 := xG_o1 (i := 5) (v := .ref cx3) g3 rfl
          have g4_z1 := xG_o1 (i := 5) (v := .ref cx3) g4 rfl
          have g5_z1 := xG_same lv 5 (.ref cx3)
          generalize xSt1 lv 5 (.ref cx3) = lvz1 at g2_z1 g3_z1 g4_z1 g5_z1 ⊢
          refine ye_aload rfl g5_z1 ?_
          refine ye_iload rfl g2_z1 ?_
          obtain ⟨S1, eS1, h⟩ := sq_some h
          refine yw_putI rfl hM fcx3 rfl ⟨rfl, rfl⟩ (Nat.le_of_ble_eq_true rfl) rfl rfl (ys_6_5 ev T _ l2) (fun q => absurd q (by decide)) eS1 (fun y1 M1 => ?_)
          refine ye_aload rfl g5_z1 ?_
          refine ye_iload rfl g3_z1 ?_
          obtain ⟨S2, eS2, h⟩ := sq_some h
          refine yw_putI rfl M1 fcx3 rfl ⟨rfl, rfl⟩ (Nat.le_of_ble_eq_true rfl) rfl rfl (ys_6_6 ev T _ l3) (fun q => absurd q (by decide)) eS2 (fun y2 M2 => ?_)
          refine ye_aload rfl g5_z1 ?_
          refine ye_iload rfl g4_z1 ?_
          obtain ⟨S3, eS3, h⟩ := sq_some h
          refine yw_putI rfl M2 fcx3 rfl ⟨rfl, rfl⟩ (Nat.le_of_ble_eq_true rfl) rfl rfl (ys_6_7 ev T _ l4) (fun q => absurd q (by decide)) eS3 (fun y3 M3 => ?_)
          refine ye_p rfl rfl ?_
          exact ye_ret rfl rfl (rQ h M3)
        · replace h := yiN h4 h
          exact w_X11_engine_42 (prim := prim) (d := d) N S hp lv hM h
def f_X11_engine (N : Nat) (S : yS) (xl1 : Int32) (xl2 : Int32) (xl3 : Int32) (xl4 : Int32) : Option (Int32 × yS) := f_X11_engine_0 N S xl1 xl2 xl3 xl4
theorem m_X11_engine {F : xH} {ev : xEv} {prim : xRel} {d : Nat} {T : yT} {v : Int32} {S' : yS} (N : Nat) (S : yS) (xl1 : Int32) (xl2 : Int32) (xl3 : Int32) (xl4 : Int32) (a0 : Nat) (fa0 : yAt T 11 0 0 a0) (h : f_X11_engine N S xl1 xl2 xl3 xl4 = some (v, S')) : ykQ [0, 1, 2, 3, 4, 5, 6, 7] F ev prim (d + 3) 138 T S [.ref a0, .int xl1, .int xl2, .int xl3, .int xl4] (some (.int v)) S' :=
  ykQ.of (pg_138 ev) mi_138 (Nat.le_of_ble_eq_true rfl) (fun hp sz hM => w_X11_engine_0 (prim := prim) (d := d) N S xl1 xl2 xl3 xl4 hp _ a0 fa0 rfl rfl rfl rfl rfl hM h)

def f_X11_learns_16 (N : Nat) (S : yS) : Option (Int32 × yS) := some (0, S)
set_option maxHeartbeats 4000000 in
set_option maxRecDepth 40000 in
theorem w_X11_learns_16 {F : xH} {ev : xEv} {prim : xRel} {d sz : Nat} {T : yT} {v : Int32} {S' : yS} (N : Nat) (S : yS) (hp : xH) (lv : xLv) (hM : cR [0, 1, 2, 3, 4, 5, 6, 7] F ev T S hp) (h : f_X11_learns_16 N S = some (v, S')) : yWE ev.2.1 (xstr ev) (xCalls ev xmi (xprog ev) prim (d + 2)) (pX11_learns ev) (16, lv, [], hp, sz, 0) (ypQ [0, 1, 2, 3, 4, 5, 6, 7] F ev T sz (some (.int v)) S') := by
  unfold f_X11_learns_16 at h
  refine ye_p rfl rfl ?_
  exact ye_ret rfl rfl (rQ h hM)

def f_X11_learns_0 (N : Nat) (S : yS) (l1 : Int32) (l2 : Int32) : Option (Int32 × yS) := bV (f_X11_isPilot N S l1) fun w1 => if w1 = 0 then f_X11_learns_16 N S else bV (f_X11_isLeg N S l2) fun w2 => if ¬ w2 = 0 then gR (S.2.1 2 6) 8 l1 fun j1 => sq (yI S ((256 + j1)) 3 ((S.1 ((256 + j1)) 3) ||| (1 <<< (l2 &&& 31)))) fun S1 => some (1, S1) else f_X11_learns_16 N S
set_option maxHeartbeats 4000000 in
set_option maxRecDepth 40000 in
theorem w_X11_learns_0 {F : xH} {ev : xEv} {prim : xRel} {d sz : Nat} {T : yT} {v : Int32} {S' : yS} (N : Nat) (S : yS) (l1 : Int32) (l2 : Int32) (hp : xH) (lv : xLv) (a0 : Nat) (fa0 : yAt T 11 0 0 a0) (g0 : xG lv 0 = some (.ref a0)) (g1 : xG lv 1 = some (.int l1)) (g2 : xG lv 2 = some (.int l2)) (hM : cR [0, 1, 2, 3, 4, 5, 6, 7] F ev T S hp) (h : f_X11_learns_0 N S l1 l2 = some (v, S')) : yWE ev.2.1 (xstr ev) (xCalls ev xmi (xprog ev) prim (d + 2)) (pX11_learns ev) (0, lv, [], hp, sz, 0) (ypQ [0, 1, 2, 3, 4, 5, 6, 7] F ev T sz (some (.int v)) S') := by
  unfold f_X11_learns_0 at h
  refine ye_aload rfl g0 ?_
  refine ye_iload rfl g1 ?_
  obtain ⟨w1, hw1, h⟩ := bV_some h
  refine ye_callV (As := [.int l1]) (rest := []) 0 (Or.inl rfl) rfl rfl rfl (Nat.le_of_ble_eq_true rfl) (hM.obj fa0 ⟨rfl, rfl⟩) ((m_X11_isPilot (d := d + 0) (T := T) N S l1 a0 fa0 hw1) hp sz hM) ?_
  refine ye_if_eq rfl (fun h1 => ?_) (fun h1 => ?_)
  · replace h := yiT h1 h
    exact w_X11_learns_16 (prim := prim) (d := d) N S hp lv hM h
  · replace h := yiN h1 h
    refine ye_aload rfl g0 ?_
    refine ye_iload rfl g2 ?_
    obtain ⟨w2, hw2, h⟩ := bV_some h
    refine ye_callV (As := [.int l2]) (rest := []) 0 (Or.inl rfl) rfl rfl rfl (Nat.le_of_ble_eq_true rfl) (hM.obj fa0 ⟨rfl, rfl⟩) ((m_X11_isLeg (d := d + 0) (T := T) N S l2 a0 fa0 hw2) hp sz hM) ?_
    refine ye_if_ne rfl (fun h2 => ?_) (fun h2 => ?_)
    · replace h := yiT h2 h
      refine ye_aload rfl g0 ?_
      refine ye_getr rfl (hM.obj fa0 ⟨rfl, rfl⟩) rfl (fun cx1 ecx1 => ?_)
      have fcx1 := hM.root 10 0 (by decide) rfl ecx1
      refine ye_getr rfl (hM.obj fcx1 ⟨rfl, rfl⟩) rfl (fun cx2 ecx2 => ?_)
      have fcx2 := yAt.row fcx1 ecx2
      refine ye_iload rfl g1 ?_
      obtain ⟨j1, ej1, ij1, rj1, h⟩ := gR_some h
      refine ye_aaldR (t := 6) rfl (hM.arr fcx2 yr_10_6) ij1 ej1 rj1 (fun cx3 ecx3 => ?_)
      have fcx3 : yAt T 5 (256 + j1) 0 cx3 := ⟨hM.refd fcx2 yr_10_6 (by decide) rj1, oc_256 (by have := vp_lt ij1; omega), ecx3⟩
      refine ye_p rfl rfl ?_
      refine ye_getf rfl (hM.obj fcx3 ⟨rfl, rfl⟩) rfl ?_
      refine ye_p rfl rfl ?_
      refine ye_iload rfl g2 ?_
      refine ye_p rfl rfl ?_
      refine ye_p rfl rfl ?_
      obtain ⟨S1, eS1, h⟩ := sq_some h
      refine yw_putI rfl hM fcx3 rfl ⟨rfl, rfl⟩ (Nat.le_of_ble_eq_true rfl) rfl rfl (ys_5_3 ev T _ ((S.1 ((256 + j1)) 3) ||| (1 <<< (l2 &&& 31)))) (fun q => absurd q (by decide)) eS1 (fun y1 M1 => ?_)
      refine ye_p rfl rfl ?_
      exact ye_ret rfl rfl (rQ h M1)
    · replace h := yiN h2 h
      exact w_X11_learns_16 (prim := prim) (d := d) N S hp lv hM h
def f_X11_learns (N : Nat) (S : yS) (xl1 : Int32) (xl2 : Int32) : Option (Int32 × yS) := f_X11_learns_0 N S xl1 xl2
theorem m_X11_learns {F : xH} {ev : xEv} {prim : xRel} {d : Nat} {T : yT} {v : Int32} {S' : yS} (N : Nat) (S : yS) (xl1 : Int32) (xl2 : Int32) (a0 : Nat) (fa0 : yAt T 11 0 0 a0) (h : f_X11_learns N S xl1 xl2 = some (v, S')) : ykQ [0, 1, 2, 3, 4, 5, 6, 7] F ev prim (d + 3) 140 T S [.ref a0, .int xl1, .int xl2] (some (.int v)) S' :=
  ykQ.of (pg_140 ev) mi_140 (Nat.le_of_ble_eq_true rfl) (fun hp sz hM => w_X11_learns_0 (prim := prim) (d := d) N S xl1 xl2 hp _ a0 fa0 rfl rfl rfl hM h)

def f_X11_train_24 (N : Nat) (S : yS) : Option (Int32 × yS) := some ((-1), S)
set_option maxHeartbeats 4000000 in
set_option maxRecDepth 40000 in
theorem w_X11_train_24 {F : xH} {ev : xEv} {prim : xRel} {d sz : Nat} {T : yT} {v : Int32} {S' : yS} (N : Nat) (S : yS) (hp : xH) (lv : xLv) (hM : cR [0, 1, 2, 3, 4, 5, 6, 7] F ev T S hp) (h : f_X11_train_24 N S = some (v, S')) : yWE ev.2.1 (xstr ev) (xCalls ev xmi (xprog ev) prim (d + 2)) (pX11_train ev) (24, lv, [], hp, sz, 0) (ypQ [0, 1, 2, 3, 4, 5, 6, 7] F ev T sz (some (.int v)) S') := by
  unfold f_X11_train_24 at h
  refine ye_p rfl rfl ?_
  exact ye_ret rfl rfl (rQ h hM)

def f_X11_train_0 (N : Nat) (S : yS) (l1 : Int32) : Option (Int32 × yS) := bV (f_X11_isBag N S l1) fun w1 => if w1 = 0 then f_X11_train_24 N S else gR (S.2.1 2 8) 30 l1 fun j1 => if ¬ (S.1 ((384 + j1)) 5) = ((-1)) then gR (S.2.1 2 8) 30 l1 fun j2 => bV (f_X2_milesBetween N S (S.1 ((384 + j2)) 5) (S.1 ((384 + j2)) 1)) fun w2 => bV (f_X11_roundUp N S w2 4) fun w3 => bS (f_X0_entrain N S ((384 + j2)) (S.1 2 13) ((S.1 2 13) + (if 1 < w3 then w3 else 1))) fun w4 S1 => some (S1.1 ((384 + j2)) 7, S1) else f_X11_train_24 N S
set_option maxHeartbeats 4000000 in
set_option maxRecDepth 40000 in
theorem w_X11_train_0 {F : xH} {ev : xEv} {prim : xRel} {d sz : Nat} {T : yT} {v : Int32} {S' : yS} (N : Nat) (S : yS) (l1 : Int32) (hp : xH) (lv : xLv) (a0 : Nat) (fa0 : yAt T 11 0 0 a0) (g0 : xG lv 0 = some (.ref a0)) (g1 : xG lv 1 = some (.int l1)) (hM : cR [0, 1, 2, 3, 4, 5, 6, 7] F ev T S hp) (h : f_X11_train_0 N S l1 = some (v, S')) : yWE ev.2.1 (xstr ev) (xCalls ev xmi (xprog ev) prim (d + 2)) (pX11_train ev) (0, lv, [], hp, sz, 0) (ypQ [0, 1, 2, 3, 4, 5, 6, 7] F ev T sz (some (.int v)) S') := by
  unfold f_X11_train_0 at h
  refine ye_aload rfl g0 ?_
  refine ye_iload rfl g1 ?_
  obtain ⟨w1, hw1, h⟩ := bV_some h
  refine ye_callV (As := [.int l1]) (rest := []) 0 (Or.inl rfl) rfl rfl rfl (Nat.le_of_ble_eq_true rfl) (hM.obj fa0 ⟨rfl, rfl⟩) ((m_X11_isBag (d := d + 0) (T := T) N S l1 a0 fa0 hw1) hp sz hM) ?_
  refine ye_if_eq rfl (fun h1 => ?_) (fun h1 => ?_)
  · replace h := yiT h1 h
    exact w_X11_train_24 (prim := prim) (d := d) N S hp lv hM h
  · replace h := yiN h1 h
    refine ye_aload rfl g0 ?_
    refine ye_getr rfl (hM.obj fa0 ⟨rfl, rfl⟩) rfl (fun cx1 ecx1 => ?_)
    have fcx1 := hM.root 10 0 (by decide) rfl ecx1
    refine ye_getr rfl (hM.obj fcx1 ⟨rfl, rfl⟩) rfl (fun cx2 ecx2 => ?_)
    have fcx2 := yAt.row fcx1 ecx2
    refine ye_iload rfl g1 ?_
    obtain ⟨j1, ej1, ij1, rj1, h⟩ := gR_some h
    refine ye_aaldR (t := 7) rfl (hM.arr fcx2 yr_10_8) ij1 ej1 rj1 (fun cx3 ecx3 => ?_)
    have fcx3 : yAt T 0 (384 + j1) 0 cx3 := ⟨hM.refd fcx2 yr_10_8 (by decide) rj1, oc_384 (by have := vp_lt ij1; omega), ecx3⟩
    refine ye_getf rfl (hM.obj fcx3 ⟨rfl, rfl⟩) rfl ?_
    refine ye_p rfl rfl ?_
    refine ye_icmp_ne rfl (fun h2 => ?_) (fun h2 => ?_)
    · replace h := yiT h2 h
      refine ye_aload rfl g0 ?_
      refine ye_getr rfl (hM.obj fa0 ⟨rfl, rfl⟩) rfl (fun cx4 ecx4 => ?_)
      have fcx4 := hM.root 10 0 (by decide) rfl ecx4
      refine ye_getr rfl (hM.obj fcx4 ⟨rfl, rfl⟩) rfl (fun cx5 ecx5 => ?_)
      have fcx5 := yAt.row fcx4 ecx5
      refine ye_iload rfl g1 ?_
      obtain ⟨j2, ej2, ij2, rj2, h⟩ := gR_some h
      refine ye_aaldR (t := 7) rfl (hM.arr fcx5 yr_10_8) ij2 ej2 rj2 (fun cx6 ecx6 => ?_)
      have fcx6 : yAt T 0 (384 + j2) 0 cx6 := ⟨hM.refd fcx5 yr_10_8 (by decide) rj2, oc_384 (by have := vp_lt ij2; omega), ecx6⟩
      refine ye_p rfl rfl ?_
      have g0_z1 := xG_o1 (i := 2) (v := .ref cx6) g0 rfl
      have g2_z1 := xG_same lv 2 (.ref cx6)
      generalize xSt1 lv 2 (.ref cx6) = lvz1 at g0_z1 g2_z1 ⊢
      refine ye_p rfl rfl ?_
      refine ye_aload rfl g0_z1 ?_
      refine ye_getr rfl (hM.obj fa0 ⟨rfl, rfl⟩) rfl (fun cx7 ecx7 => ?_)
      have fcx7 := hM.root 2 0 (by decide) rfl ecx7
      refine ye_aload rfl g2_z1 ?_
      refine ye_getf rfl (hM.obj fcx6 ⟨rfl, rfl⟩) rfl ?_
      refine ye_aload rfl g2_z1 ?_
      refine ye_getf rfl (hM.obj fcx6 ⟨rfl, rfl⟩) rfl ?_
      obtain ⟨w2, hw2, h⟩ := bV_some h
      refine ye_callV (As := [.int (S.1 ((384 + j2)) 5), .int (S.1 ((384 + j2)) 1)]) (rest := [.int 1]) 0 (Or.inl rfl) rfl rfl rfl (Nat.le_of_ble_eq_true rfl) (hM.obj fcx7 ⟨rfl, rfl⟩) ((m_X2_milesBetween (d := d + 1) (T := T) N S (S.1 ((384 + j2)) 5) (S.1 ((384 + j2)) 1) cx7 fcx7 hw2) hp sz hM) ?_
      refine ye_p rfl rfl ?_
      obtain ⟨w3, hw3, h⟩ := bV_some h
      refine ye_callS (As := [.int w2, .int 4]) (rest := [.int 1]) 1 (Or.inl rfl) rfl rfl rfl (Nat.le_of_ble_eq_true rfl) ((m_X11_roundUp (d := d + 1) (T := T) N S w2 4 hw3) hp sz hM) ?_
      refine ye_p rfl rfl ?_
      refine ye_p rfl rfl ?_
      have g0_z2 := xG_o1 (i := 3) (v := .int (if 1 < w3 then w3 else 1)) g0_z1 rfl
      have g2_z2 := xG_o1 (i := 3) (v := .int (if 1 < w3 then w3 else 1)) g2_z1 rfl
      have g3_z2 := xG_same lvz1 3 (.int (if 1 < w3 then w3 else 1))
      generalize xSt1 lvz1 3 (.int (if 1 < w3 then w3 else 1)) = lvz2 at g0_z2 g2_z2 g3_z2 ⊢
      refine ye_aload rfl g2_z2 ?_
      refine ye_aload rfl g0_z2 ?_
      refine ye_getr rfl (hM.obj fa0 ⟨rfl, rfl⟩) rfl (fun cx8 ecx8 => ?_)
      have fcx8 := hM.root 10 0 (by decide) rfl ecx8
      refine ye_getf rfl (hM.obj fcx8 ⟨rfl, rfl⟩) rfl ?_
      refine ye_aload rfl g0_z2 ?_
      refine ye_getr rfl (hM.obj fa0 ⟨rfl, rfl⟩) rfl (fun cx9 ecx9 => ?_)
      have fcx9 := hM.root 10 0 (by decide) rfl ecx9
      refine ye_getf rfl (hM.obj fcx9 ⟨rfl, rfl⟩) rfl ?_
      refine ye_iload rfl g3_z2 ?_
      refine ye_p rfl rfl ?_
      obtain ⟨w4, S1, hw4, h⟩ := bS_some h
      obtain ⟨y1, cy1, M1⟩ := (m_X0_entrain (d := d + 0) (T := T) N S ((384 + j2)) (S.1 2 13) ((S.1 2 13) + (if 1 < w3 then w3 else 1)) cx6 fcx6 hw4) hp sz hM
      refine ye_callV (As := [.int (S.1 2 13), .int ((S.1 2 13) + (if 1 < w3 then w3 else 1))]) (rest := []) 0 (Or.inl rfl) rfl rfl rfl (Nat.le_of_ble_eq_true rfl) (hM.obj fcx6 ⟨rfl, rfl⟩) cy1 ?_
      refine ye_aload rfl g2_z2 ?_
      refine ye_getf rfl (M1.obj fcx6 ⟨rfl, rfl⟩) rfl ?_
      exact ye_ret rfl rfl (rQ h M1)
    · replace h := yiN h2 h
      exact w_X11_train_24 (prim := prim) (d := d) N S hp lv hM h
def f_X11_train (N : Nat) (S : yS) (xl1 : Int32) : Option (Int32 × yS) := f_X11_train_0 N S xl1
theorem m_X11_train {F : xH} {ev : xEv} {prim : xRel} {d : Nat} {T : yT} {v : Int32} {S' : yS} (N : Nat) (S : yS) (xl1 : Int32) (a0 : Nat) (fa0 : yAt T 11 0 0 a0) (h : f_X11_train N S xl1 = some (v, S')) : ykQ [0, 1, 2, 3, 4, 5, 6, 7] F ev prim (d + 3) 142 T S [.ref a0, .int xl1] (some (.int v)) S' :=
  ykQ.of (pg_142 ev) mi_142 (Nat.le_of_ble_eq_true rfl) (fun hp sz hM => w_X11_train_0 (prim := prim) (d := d) N S xl1 hp _ a0 fa0 rfl rfl hM h)

def f_X11_mayForce_33 (N : Nat) (S : yS) (t0 : Int32) : Option Int32 := gP (t0 = 0 ∨ t0 = 1) (some t0)
set_option maxHeartbeats 4000000 in
set_option maxRecDepth 40000 in
theorem w_X11_mayForce_33 {F : xH} {ev : xEv} {prim : xRel} {d sz : Nat} {T : yT} {v : Int32} {hp : xH} (N : Nat) (S : yS) (t0 : Int32) (lv : xLv) (hM : cR [0, 1, 2, 3, 4, 5, 6, 7] F ev T S hp) (h : f_X11_mayForce_33 N S t0 = some v) : yWE ev.2.1 (xstr ev) (xCalls ev xmi (xprog ev) prim (d + 2)) (pX11_mayForce ev) (33, lv, [.int t0], hp, sz, 0) (ypP hp sz (.int v)) := by
  unfold f_X11_mayForce_33 at h
  obtain ⟨i1, h⟩ := gP_some h
  exact ye_ret rfl (if_pos (zb_nar i1)) (rP h)

def f_X11_mayForce_32 (N : Nat) (S : yS) : Option Int32 := f_X11_mayForce_33 N S 0
set_option maxHeartbeats 4000000 in
set_option maxRecDepth 40000 in
theorem w_X11_mayForce_32 {F : xH} {ev : xEv} {prim : xRel} {d sz : Nat} {T : yT} {v : Int32} {hp : xH} (N : Nat) (S : yS) (lv : xLv) (hM : cR [0, 1, 2, 3, 4, 5, 6, 7] F ev T S hp) (h : f_X11_mayForce_32 N S = some v) : yWE ev.2.1 (xstr ev) (xCalls ev xmi (xprog ev) prim (d + 2)) (pX11_mayForce ev) (32, lv, [], hp, sz, 0) (ypP hp sz (.int v)) := by
  unfold f_X11_mayForce_32 at h
  refine ye_p rfl rfl ?_
  exact w_X11_mayForce_33 (prim := prim) (d := d) N S 0 lv hM h

def f_X11_mayForce_68 (N : Nat) (S : yS) (t0 : Int32) : Option Int32 := gP (t0 = 0 ∨ t0 = 1) (some t0)
set_option maxHeartbeats 4000000 in
set_option maxRecDepth 40000 in
theorem w_X11_mayForce_68 {F : xH} {ev : xEv} {prim : xRel} {d sz : Nat} {T : yT} {v : Int32} {hp : xH} (N : Nat) (S : yS) (t0 : Int32) (lv : xLv) (hM : cR [0, 1, 2, 3, 4, 5, 6, 7] F ev T S hp) (h : f_X11_mayForce_68 N S t0 = some v) : yWE ev.2.1 (xstr ev) (xCalls ev xmi (xprog ev) prim (d + 2)) (pX11_mayForce ev) (68, lv, [.int t0], hp, sz, 0) (ypP hp sz (.int v)) := by
  unfold f_X11_mayForce_68 at h
  obtain ⟨i1, h⟩ := gP_some h
  exact ye_ret rfl (if_pos (zb_nar i1)) (rP h)

def f_X11_mayForce_67 (N : Nat) (S : yS) : Option Int32 := f_X11_mayForce_68 N S 0
set_option maxHeartbeats 4000000 in
set_option maxRecDepth 40000 in
theorem w_X11_mayForce_67 {F : xH} {ev : xEv} {prim : xRel} {d sz : Nat} {T : yT} {v : Int32} {hp : xH} (N : Nat) (S : yS) (lv : xLv) (hM : cR [0, 1, 2, 3, 4, 5, 6, 7] F ev T S hp) (h : f_X11_mayForce_67 N S = some v) : yWE ev.2.1 (xstr ev) (xCalls ev xmi (xprog ev) prim (d + 2)) (pX11_mayForce ev) (67, lv, [], hp, sz, 0) (ypP hp sz (.int v)) := by
  unfold f_X11_mayForce_67 at h
  refine ye_p rfl rfl ?_
  exact w_X11_mayForce_68 (prim := prim) (d := d) N S 0 lv hM h

def f_X11_mayForce_0 (N : Nat) (S : yS) (l1 : Int32) (l2 : Int32) : Option Int32 := if ¬ l1 = 2 then bV (f_X11_within N S l1 0 1) fun w1 => if w1 = 0 then f_X11_mayForce_67 N S else bV (f_X11_isQuarter N S l2) fun w2 => if w2 = 0 then f_X11_mayForce_67 N S else bV (f_X8r_isFull N S) fun w3 => if ¬ w3 = 0 then f_X11_mayForce_67 N S else f_X11_mayForce_68 N S 1 else bV (f_X11_within N S l2 0 99) fun w4 => if w4 = 0 then f_X11_mayForce_32 N S else bV (f_X8l_isFull N S) fun w5 => if ¬ w5 = 0 then f_X11_mayForce_32 N S else f_X11_mayForce_33 N S 1
set_option maxHeartbeats 4000000 in
set_option maxRecDepth 40000 in
theorem w_X11_mayForce_0 {F : xH} {ev : xEv} {prim : xRel} {d sz : Nat} {T : yT} {v : Int32} {hp : xH} (N : Nat) (S : yS) (l1 : Int32) (l2 : Int32) (lv : xLv) (a0 : Nat) (fa0 : yAt T 11 0 0 a0) (g0 : xG lv 0 = some (.ref a0)) (g1 : xG lv 1 = some (.int l1)) (g2 : xG lv 2 = some (.int l2)) (hM : cR [0, 1, 2, 3, 4, 5, 6, 7] F ev T S hp) (h : f_X11_mayForce_0 N S l1 l2 = some v) : yWE ev.2.1 (xstr ev) (xCalls ev xmi (xprog ev) prim (d + 2)) (pX11_mayForce ev) (0, lv, [], hp, sz, 0) (ypP hp sz (.int v)) := by
  unfold f_X11_mayForce_0 at h
  refine ye_iload rfl g1 ?_
  refine ye_p rfl rfl ?_
  refine ye_icmp_ne rfl (fun h1 => ?_) (fun h1 => ?_)
  · replace h := yiT h1 h
    refine ye_iload rfl g1 ?_
    refine ye_p rfl rfl ?_
    refine ye_p rfl rfl ?_
    obtain ⟨w1, hw1, h⟩ := bV_some h
    refine ye_callS (As := [.int l1, .int 0, .int 1]) (rest := []) 1 (Or.inl rfl) rfl rfl rfl (Nat.le_of_ble_eq_true rfl) ((m_X11_within (d := d + 1) (T := T) N S l1 0 1 hw1) hp sz hM) ?_
    refine ye_if_eq rfl (fun h2 => ?_) (fun h2 => ?_)
    · replace h := yiT h2 h
      exact w_X11_mayForce_67 (prim := prim) (d := d) N S lv hM h
    · replace h := yiN h2 h
      refine ye_iload rfl g2 ?_
      obtain ⟨w2, hw2, h⟩ := bV_some h
      refine ye_callS (As := [.int l2]) (rest := []) 1 (Or.inl rfl) rfl rfl rfl (Nat.le_of_ble_eq_true rfl) ((m_X11_isQuarter (d := d + 0) (T := T) N S l2 hw2) hp sz hM) ?_
      refine ye_if_eq rfl (fun h3 => ?_) (fun h3 => ?_)
      · replace h := yiT h3 h
        exact w_X11_mayForce_67 (prim := prim) (d := d) N S lv hM h
      · replace h := yiN h3 h
        refine ye_aload rfl g0 ?_
        refine ye_getr rfl (hM.obj fa0 ⟨rfl, rfl⟩) rfl (fun cx1 ecx1 => ?_)
        have fcx1 := hM.root 10 0 (by decide) rfl ecx1
        refine ye_getr rfl (hM.obj fcx1 ⟨rfl, rfl⟩) rfl (fun cx2 ecx2 => ?_)
        have fcx2 := hM.root 14 0 (by decide) rfl ecx2
        obtain ⟨w3, hw3, h⟩ := bV_some h
        refine ye_callV (As := []) (rest := []) 0 (Or.inl rfl) rfl rfl rfl (Nat.le_of_ble_eq_true rfl) (hM.obj fcx2 ⟨rfl, rfl⟩) ((m_X8r_isFull (d := d + 1) (T := T) N S cx2 fcx2 hw3) hp sz hM) ?_
        refine ye_if_ne rfl (fun h4 => ?_) (fun h4 => ?_)
        · replace h := yiT h4 h
          exact w_X11_mayForce_67 (prim := prim) (d := d) N S lv hM h
        · replace h := yiN h4 h
          refine ye_p rfl rfl ?_
          refine ye_p rfl rfl ?_
          exact w_X11_mayForce_68 (prim := prim) (d := d) N S 1 lv hM h
  · replace h := yiN h1 h
    refine ye_iload rfl g2 ?_
    refine ye_p rfl rfl ?_
    refine ye_p rfl rfl ?_
    obtain ⟨w4, hw4, h⟩ := bV_some h
    refine ye_callS (As := [.int l2, .int 0, .int 99]) (rest := []) 1 (Or.inl rfl) rfl rfl rfl (Nat.le_of_ble_eq_true rfl) ((m_X11_within (d := d + 1) (T := T) N S l2 0 99 hw4) hp sz hM) ?_
    refine ye_if_eq rfl (fun h5 => ?_) (fun h5 => ?_)
    · replace h := yiT h5 h
      exact w_X11_mayForce_32 (prim := prim) (d := d) N S lv hM h
    · replace h := yiN h5 h
      refine ye_aload rfl g0 ?_
      refine ye_getr rfl (hM.obj fa0 ⟨rfl, rfl⟩) rfl (fun cx3 ecx3 => ?_)
      have fcx3 := hM.root 10 0 (by decide) rfl ecx3
      refine ye_getr rfl (hM.obj fcx3 ⟨rfl, rfl⟩) rfl (fun cx4 ecx4 => ?_)
      have fcx4 := hM.root 8 0 (by decide) rfl ecx4
      obtain ⟨w5, hw5, h⟩ := bV_some h
      refine ye_callV (As := []) (rest := []) 0 (Or.inl rfl) rfl rfl rfl (Nat.le_of_ble_eq_true rfl) (hM.obj fcx4 ⟨rfl, rfl⟩) ((m_X8l_isFull (d := d + 1) (T := T) N S cx4 fcx4 hw5) hp sz hM) ?_
      refine ye_if_ne rfl (fun h6 => ?_) (fun h6 => ?_)
      · replace h := yiT h6 h
        exact w_X11_mayForce_32 (prim := prim) (d := d) N S lv hM h
      · replace h := yiN h6 h
        refine ye_p rfl rfl ?_
        refine ye_p rfl rfl ?_
        exact w_X11_mayForce_33 (prim := prim) (d := d) N S 1 lv hM h
def f_X11_mayForce (N : Nat) (S : yS) (xl1 : Int32) (xl2 : Int32) : Option Int32 := f_X11_mayForce_0 N S xl1 xl2
theorem m_X11_mayForce {F : xH} {ev : xEv} {prim : xRel} {d : Nat} {T : yT} {v : Int32} (N : Nat) (S : yS) (xl1 : Int32) (xl2 : Int32) (a0 : Nat) (fa0 : yAt T 11 0 0 a0) (h : f_X11_mayForce N S xl1 xl2 = some v) : ykP [0, 1, 2, 3, 4, 5, 6, 7] F ev prim (d + 3) 147 T S [.ref a0, .int xl1, .int xl2] (.int v) :=
  ykP.of (pg_147 ev) mi_147 (Nat.le_of_ble_eq_true rfl) (fun hp sz hM => w_X11_mayForce_0 (prim := prim) (d := d) N S xl1 xl2 _ a0 fa0 rfl rfl rfl hM h)

def f_X11_cancel_23 (N : Nat) (S : yS) : Option (Int32 × yS) := some (0, S)
set_option maxHeartbeats 4000000 in
set_option maxRecDepth 40000 in
theorem w_X11_cancel_23 {F : xH} {ev : xEv} {prim : xRel} {d sz : Nat} {T : yT} {v : Int32} {S' : yS} (N : Nat) (S : yS) (hp : xH) (lv : xLv) (hM : cR [0, 1, 2, 3, 4, 5, 6, 7] F ev T S hp) (h : f_X11_cancel_23 N S = some (v, S')) : yWE ev.2.1 (xstr ev) (xCalls ev xmi (xprog ev) prim (d + 2)) (pX11_cancel ev) (23, lv, [], hp, sz, 0) (ypQ [0, 1, 2, 3, 4, 5, 6, 7] F ev T sz (some (.int v)) S') := by
  unfold f_X11_cancel_23 at h
  refine ye_p rfl rfl ?_
  exact ye_ret rfl rfl (rQ h hM)

def f_X11_cancel_0 (N : Nat) (S : yS) (l1 : Int32) : Option (Int32 × yS) := bV (f_X11_isFlight N S l1) fun w1 => if w1 = 0 then f_X11_cancel_23 N S else gR (S.2.1 2 11) 24 l1 fun j1 => bV (f_X1_waits N S ((512 + j1))) fun w2 => if ¬ w2 = 0 then gR (S.2.1 2 11) 24 l1 fun j2 => bS (f_X1_finish N S ((512 + j2)) 3 (S.1 2 13)) fun w3 S1 => some (1, S1) else f_X11_cancel_23 N S
set_option maxHeartbeats 4000000 in
set_option maxRecDepth 40000 in
theorem w_X11_cancel_0 {F : xH} {ev : xEv} {prim : xRel} {d sz : Nat} {T : yT} {v : Int32} {S' : yS} (N : Nat) (S : yS) (l1 : Int32) (hp : xH) (lv : xLv) (a0 : Nat) (fa0 : yAt T 11 0 0 a0) (g0 : xG lv 0 = some (.ref a0)) (g1 : xG lv 1 = some (.int l1)) (hM : cR [0, 1, 2, 3, 4, 5, 6, 7] F ev T S hp) (h : f_X11_cancel_0 N S l1 = some (v, S')) : yWE ev.2.1 (xstr ev) (xCalls ev xmi (xprog ev) prim (d + 2)) (pX11_cancel ev) (0, lv, [], hp, sz, 0) (ypQ [0, 1, 2, 3, 4, 5, 6, 7] F ev T sz (some (.int v)) S') := by
  unfold f_X11_cancel_0 at h
  refine ye_aload rfl g0 ?_
  refine ye_iload rfl g1 ?_
  obtain ⟨w1, hw1, h⟩ := bV_some h
  refine ye_callV (As := [.int l1]) (rest := []) 0 (Or.inl rfl) rfl rfl rfl (Nat.le_of_ble_eq_true rfl) (hM.obj fa0 ⟨rfl, rfl⟩) ((m_X11_isFlight (d := d + 0) (T := T) N S l1 a0 fa0 hw1) hp sz hM) ?_
  refine ye_if_eq rfl (fun h1 => ?_) (fun h1 => ?_)
  · replace h := yiT h1 h
    exact w_X11_cancel_23 (prim := prim) (d := d) N S hp lv hM h
  · replace h := yiN h1 h
    refine ye_aload rfl g0 ?_
    refine ye_getr rfl (hM.obj fa0 ⟨rfl, rfl⟩) rfl (fun cx1 ecx1 => ?_)
    have fcx1 := hM.root 10 0 (by decide) rfl ecx1
    refine ye_getr rfl (hM.obj fcx1 ⟨rfl, rfl⟩) rfl (fun cx2 ecx2 => ?_)
    have fcx2 := yAt.row fcx1 ecx2
    refine ye_iload rfl g1 ?_
    obtain ⟨j1, ej1, ij1, rj1, h⟩ := gR_some h
    refine ye_aaldR (t := 8) rfl (hM.arr fcx2 yr_10_11) ij1 ej1 rj1 (fun cx3 ecx3 => ?_)
    have fcx3 : yAt T 1 (512 + j1) 0 cx3 := ⟨hM.refd fcx2 yr_10_11 (by decide) rj1, oc_512 (by have := vp_lt ij1; omega), ecx3⟩
    obtain ⟨w2, hw2, h⟩ := bV_some h
    refine ye_callV (As := []) (rest := []) 0 (Or.inl rfl) rfl rfl rfl (Nat.le_of_ble_eq_true rfl) (hM.obj fcx3 ⟨rfl, rfl⟩) ((m_X1_waits (d := d + 1) (T := T) N S ((512 + j1)) cx3 fcx3 hw2) hp sz hM) ?_
    refine ye_if_ne rfl (fun h2 => ?_) (fun h2 => ?_)
    · replace h := yiT h2 h
      refine ye_aload rfl g0 ?_
      refine ye_getr rfl (hM.obj fa0 ⟨rfl, rfl⟩) rfl (fun cx4 ecx4 => ?_)
      have fcx4 := hM.root 10 0 (by decide) rfl ecx4
      refine ye_getr rfl (hM.obj fcx4 ⟨rfl, rfl⟩) rfl (fun cx5 ecx5 => ?_)
      have fcx5 := yAt.row fcx4 ecx5
      refine ye_iload rfl g1 ?_
      obtain ⟨j2, ej2, ij2, rj2, h⟩ := gR_some h
      refine ye_aaldR (t := 8) rfl (hM.arr fcx5 yr_10_11) ij2 ej2 rj2 (fun cx6 ecx6 => ?_)
      have fcx6 : yAt T 1 (512 + j2) 0 cx6 := ⟨hM.refd fcx5 yr_10_11 (by decide) rj2, oc_512 (by have := vp_lt ij2; omega), ecx6⟩
      refine ye_p rfl rfl ?_
      refine ye_aload rfl g0 ?_
      refine ye_getr rfl (hM.obj fa0 ⟨rfl, rfl⟩) rfl (fun cx7 ecx7 => ?_)
      have fcx7 := hM.root 10 0 (by decide) rfl ecx7
      refine ye_getf rfl (hM.obj fcx7 ⟨rfl, rfl⟩) rfl ?_
      obtain ⟨w3, S1, hw3, h⟩ := bS_some h
      obtain ⟨y1, cy1, M1⟩ := (m_X1_finish (d := d + 1) (T := T) N S ((512 + j2)) 3 (S.1 2 13) cx6 fcx6 hw3) hp sz hM
      refine ye_callV (As := [.int 3, .int (S.1 2 13)]) (rest := []) 0 (Or.inl rfl) rfl rfl rfl (Nat.le_of_ble_eq_true rfl) (hM.obj fcx6 ⟨rfl, rfl⟩) cy1 ?_
      refine ye_p rfl rfl ?_
      exact ye_ret rfl rfl (rQ h M1)
    · replace h := yiN h2 h
      exact w_X11_cancel_23 (prim := prim) (d := d) N S hp lv hM h
def f_X11_cancel (N : Nat) (S : yS) (xl1 : Int32) : Option (Int32 × yS) := f_X11_cancel_0 N S xl1
theorem m_X11_cancel {F : xH} {ev : xEv} {prim : xRel} {d : Nat} {T : yT} {v : Int32} {S' : yS} (N : Nat) (S : yS) (xl1 : Int32) (a0 : Nat) (fa0 : yAt T 11 0 0 a0) (h : f_X11_cancel N S xl1 = some (v, S')) : ykQ [0, 1, 2, 3, 4, 5, 6, 7] F ev prim (d + 3) 149 T S [.ref a0, .int xl1] (some (.int v)) S' :=
  ykQ.of (pg_149 ev) mi_149 (Nat.le_of_ble_eq_true rfl) (fun hp sz hM => w_X11_cancel_0 (prim := prim) (d := d) N S xl1 hp _ a0 fa0 rfl rfl hM h)

def f_X11_may_23 (N : Nat) (S : yS) : Option (Int32 × yS) := some ((-1), S)
set_option maxHeartbeats 4000000 in
set_option maxRecDepth 40000 in
theorem w_X11_may_23 {F : xH} {ev : xEv} {prim : xRel} {d sz : Nat} {T : yT} {v : Int32} {S' : yS} (N : Nat) (S : yS) (hp : xH) (lv : xLv) (hM : cR [0, 1, 2, 3, 4, 5, 6, 7] F ev T S hp) (h : f_X11_may_23 N S = some (v, S')) : yWE ev.2.1 (xstr ev) (xCalls ev xmi (xprog ev) prim (d + 4)) (pX11_may ev) (23, lv, [], hp, sz, 0) (ypQ [0, 1, 2, 3, 4, 5, 6, 7] F ev T sz (some (.int v)) S') := by
  unfold f_X11_may_23 at h
  refine ye_p rfl rfl ?_
  exact ye_ret rfl rfl (rQ h hM)

def f_X11_may_75 (N : Nat) (S : yS) (t0 : Int32) : Option (Int32 × yS) := some (t0, S)
set_option maxHeartbeats 4000000 in
set_option maxRecDepth 40000 in
theorem w_X11_may_75 {F : xH} {ev : xEv} {prim : xRel} {d sz : Nat} {T : yT} {v : Int32} {S' : yS} (N : Nat) (S : yS) (t0 : Int32) (hp : xH) (lv : xLv) (hM : cR [0, 1, 2, 3, 4, 5, 6, 7] F ev T S hp) (h : f_X11_may_75 N S t0 = some (v, S')) : yWE ev.2.1 (xstr ev) (xCalls ev xmi (xprog ev) prim (d + 4)) (pX11_may ev) (75, lv, [.int t0], hp, sz, 0) (ypQ [0, 1, 2, 3, 4, 5, 6, 7] F ev T sz (some (.int v)) S') := by
  unfold f_X11_may_75 at h
  exact ye_ret rfl rfl (rQ h hM)

def f_X11_may_0 (N : Nat) (S : yS) (l1 : Int32) : Option (Int32 × yS) := bV (f_X11_isFlight N S l1) fun w1 => if w1 = 0 then f_X11_may_23 N S else gR (S.2.1 2 11) 24 l1 fun j1 => bV (f_X1_waits N S ((512 + j1))) fun w2 => if ¬ w2 = 0 then gR (S.2.1 2 11) 24 l1 fun j2 => bV (f_X10_hindrance N S ((512 + j2))) fun w3 => if w3 = 0 then gR (S.2.1 2 11) 24 l1 fun j3 => bS (f_X10_startAct N S ((512 + j3))) fun w4 S1 => if ¬ w4 = 71 then f_X11_may_75 N S1 7 else f_X11_may_75 N S1 0 else some (w3, S) else f_X11_may_23 N S
set_option maxHeartbeats 4000000 in
set_option maxRecDepth 40000 in
theorem w_X11_may_0 {F : xH} {ev : xEv} {prim : xRel} {d sz : Nat} {T : yT} {v : Int32} {S' : yS} (N : Nat) (S : yS) (l1 : Int32) (hp : xH) (lv : xLv) (a0 : Nat) (fa0 : yAt T 11 0 0 a0) (g0 : xG lv 0 = some (.ref a0)) (g1 : xG lv 1 = some (.int l1)) (hM : cR [0, 1, 2, 3, 4, 5, 6, 7] F ev T S hp) (h : f_X11_may_0 N S l1 = some (v, S')) : yWE ev.2.1 (xstr ev) (xCalls ev xmi (xprog ev) prim (d + 4)) (pX11_may ev) (0, lv, [], hp, sz, 0) (ypQ [0, 1, 2, 3, 4, 5, 6, 7] F ev T sz (some (.int v)) S') := by
  unfold f_X11_may_0 at h
  refine ye_aload rfl g0 ?_
  refine ye_iload rfl g1 ?_
  obtain ⟨w1, hw1, h⟩ := bV_some h
  refine ye_callV (As := [.int l1]) (rest := []) 0 (Or.inl rfl) rfl rfl rfl (Nat.le_of_ble_eq_true rfl) (hM.obj fa0 ⟨rfl, rfl⟩) ((m_X11_isFlight (d := d + 2) (T := T) N S l1 a0 fa0 hw1) hp sz hM) ?_
  refine ye_if_eq rfl (fun h1 => ?_) (fun h1 => ?_)
  · replace h := yiT h1 h
    exact w_X11_may_23 (prim := prim) (d := d) N S hp lv hM h
  · replace h := yiN h1 h
    refine ye_aload rfl g0 ?_
    refine ye_getr rfl (hM.obj fa0 ⟨rfl, rfl⟩) rfl (fun cx1 ecx1 => ?_)
    have fcx1 := hM.root 10 0 (by decide) rfl ecx1
    refine ye_getr rfl (hM.obj fcx1 ⟨rfl, rfl⟩) rfl (fun cx2 ecx2 => ?_)
    have fcx2 := yAt.row fcx1 ecx2
    refine ye_iload rfl g1 ?_
    obtain ⟨j1, ej1, ij1, rj1, h⟩ := gR_some h
    refine ye_aaldR (t := 8) rfl (hM.arr fcx2 yr_10_11) ij1 ej1 rj1 (fun cx3 ecx3 => ?_)
    have fcx3 : yAt T 1 (512 + j1) 0 cx3 := ⟨hM.refd fcx2 yr_10_11 (by decide) rj1, oc_512 (by have := vp_lt ij1; omega), ecx3⟩
    obtain ⟨w2, hw2, h⟩ := bV_some h
    refine ye_callV (As := []) (rest := []) 0 (Or.inl rfl) rfl rfl rfl (Nat.le_of_ble_eq_true rfl) (hM.obj fcx3 ⟨rfl, rfl⟩) ((m_X1_waits (d := d + 3) (T := T) N S ((512 + j1)) cx3 fcx3 hw2) hp sz hM) ?_
    refine ye_if_ne rfl (fun h2 => ?_) (fun h2 => ?_)
    · replace h := yiT h2 h
      refine ye_aload rfl g0 ?_
      refine ye_getr rfl (hM.obj fa0 ⟨rfl, rfl⟩) rfl (fun cx4 ecx4 => ?_)
      have fcx4 := hM.root 10 0 (by decide) rfl ecx4
      refine ye_aload rfl g0 ?_
      refine ye_getr rfl (hM.obj fa0 ⟨rfl, rfl⟩) rfl (fun cx5 ecx5 => ?_)
      have fcx5 := hM.root 10 0 (by decide) rfl ecx5
      refine ye_getr rfl (hM.obj fcx5 ⟨rfl, rfl⟩) rfl (fun cx6 ecx6 => ?_)
      have fcx6 := yAt.row fcx5 ecx6
      refine ye_iload rfl g1 ?_
      obtain ⟨j2, ej2, ij2, rj2, h⟩ := gR_some h
      refine ye_aaldR (t := 8) rfl (hM.arr fcx6 yr_10_11) ij2 ej2 rj2 (fun cx7 ecx7 => ?_)
      have fcx7 : yAt T 1 (512 + j2) 0 cx7 := ⟨hM.refd fcx6 yr_10_11 (by decide) rj2, oc_512 (by have := vp_lt ij2; omega), ecx7⟩
      obtain ⟨w3, hw3, h⟩ := bV_some h
      refine ye_callV (As := [.ref cx7]) (rest := []) 0 (Or.inl rfl) rfl rfl rfl (Nat.le_of_ble_eq_true rfl) (hM.obj fcx4 ⟨rfl, rfl⟩) ((m_X10_hindrance (d := d + 2) (T := T) N S ((512 + j2)) cx4 cx7 fcx4 fcx7 hw3) hp sz hM) ?_
      refine ye_p rfl rfl ?_
      have g0_z1 := xG_o1 (i := 2) (v := .int w3) g0 rfl
      have g1_z1 := xG_o1 (i := 2) (v := .int w3) g1 rfl
      have g2_z1 := xG_same lv 2 (.int w3)
      generalize xSt1 lv 2 (.int w3) = lvz1 at g0_z1 g1_z1 g2_z1 ⊢
      refine ye_iload rfl g2_z1 ?_
      refine ye_if_eq rfl (fun h3 => ?_) (fun h3 => ?_)
      · replace h := yiT h3 h
        refine ye_aload rfl g0_z1 ?_
        refine ye_getr rfl (hM.obj fa0 ⟨rfl, rfl⟩) rfl (fun cx8 ecx8 => ?_)
        have fcx8 := hM.root 10 0 (by decide) rfl ecx8
        refine ye_aload rfl g0_z1 ?_
        refine ye_getr rfl (hM.obj fa0 ⟨rfl, rfl⟩) rfl (fun cx9 ecx9 => ?_)
        have fcx9 := hM.root 10 0 (by decide) rfl ecx9
        refine ye_getr rfl (hM.obj fcx9 ⟨rfl, rfl⟩) rfl (fun cx10 ecx10 => ?_)
        have fcx10 := yAt.row fcx9 ecx10
        refine ye_iload rfl g1_z1 ?_
        obtain ⟨j3, ej3, ij3, rj3, h⟩ := gR_some h
        refine ye_aaldR (t := 8) rfl (hM.arr fcx10 yr_10_11) ij3 ej3 rj3 (fun cx11 ecx11 => ?_)
        have fcx11 : yAt T 1 (512 + j3) 0 cx11 := ⟨hM.refd fcx10 yr_10_11 (by decide) rj3, oc_512 (by have := vp_lt ij3; omega), ecx11⟩
        obtain ⟨w4, S1, hw4, h⟩ := bS_some h
        obtain ⟨y1, cy1, M1⟩ := (m_X10_startAct (d := d + 0) (T := T) N S ((512 + j3)) cx8 cx11 fcx8 fcx11 hw4) hp sz hM
        refine ye_callV (As := [.ref cx11]) (rest := []) 0 (Or.inl rfl) rfl rfl rfl (Nat.le_of_ble_eq_true rfl) (hM.obj fcx8 ⟨rfl, rfl⟩) cy1 ?_
        refine ye_p rfl rfl ?_
        refine ye_icmp_ne rfl (fun h4 => ?_) (fun h4 => ?_)
        · replace h := yiT h4 h
          refine ye_p rfl rfl ?_
          exact w_X11_may_75 (prim := prim) (d := d) N S1 7 y1 lvz1 M1 h
        · replace h := yiN h4 h
          refine ye_p rfl rfl ?_
          refine ye_p rfl rfl ?_
          exact w_X11_may_75 (prim := prim) (d := d) N S1 0 y1 lvz1 M1 h
      · replace h := yiN h3 h
        refine ye_iload rfl g2_z1 ?_
        exact ye_ret rfl rfl (rQ h hM)
    · replace h := yiN h2 h
      exact w_X11_may_23 (prim := prim) (d := d) N S hp lv hM h
def f_X11_may (N : Nat) (S : yS) (xl1 : Int32) : Option (Int32 × yS) := f_X11_may_0 N S xl1
theorem m_X11_may {F : xH} {ev : xEv} {prim : xRel} {d : Nat} {T : yT} {v : Int32} {S' : yS} (N : Nat) (S : yS) (xl1 : Int32) (a0 : Nat) (fa0 : yAt T 11 0 0 a0) (h : f_X11_may N S xl1 = some (v, S')) : ykQ [0, 1, 2, 3, 4, 5, 6, 7] F ev prim (d + 5) 151 T S [.ref a0, .int xl1] (some (.int v)) S' :=
  ykQ.of (pg_151 ev) mi_151 (Nat.le_of_ble_eq_true rfl) (fun hp sz hM => w_X11_may_0 (prim := prim) (d := d) N S xl1 hp _ a0 fa0 rfl rfl hM h)
