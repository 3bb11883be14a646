
def f_X5_knowsLeg_17 (N : Nat) (S : yS) (t0 : Int32) : Option Int32 := gP (t0 = 0 ∨ t0 = 1) (some t0)
set_option maxHeartbeats 4000000 in
set_option maxRecDepth 40000 in
theorem w_X5_knowsLeg_17 {F : xH} {ev : xEv} {prim : xRel} {d sz : Nat} {T : yT} {v : Int32} {hp : xH} (N : Nat) (S : yS) (t0 : Int32) (lv : xLv) (hM : cR [0, 1, 2, 3, 4, 5, 6, 7] F ev T S hp) (h : f_X5_knowsLeg_17 N S t0 = some v) : yWE ev.2.1 (xstr ev) (xCalls ev xmi (xprog ev) prim (d + 0)) (pX5_knowsLeg ev) (17, lv, [.int t0], hp, sz, 0) (ypP hp sz (.int v)) := by
  unfold f_X5_knowsLeg_17 at h
  obtain ⟨i1, h⟩ := gP_some h
  exact ye_ret rfl (if_pos (zb_nar i1)) (rP h)

def f_X5_knowsLeg_0 (N : Nat) (S : yS) (p0 : Nat) (l1 : Int32) : Option Int32 := if ¬ (((S.1 p0 3) >>> (l1 &&& 31)) &&& 1) = 1 then f_X5_knowsLeg_17 N S 0 else f_X5_knowsLeg_17 N S 1
set_option maxHeartbeats 4000000 in
set_option maxRecDepth 40000 in
theorem w_X5_knowsLeg_0 {F : xH} {ev : xEv} {prim : xRel} {d sz : Nat} {T : yT} {v : Int32} {hp : xH} (N : Nat) (S : yS) (p0 : Nat) (l1 : Int32) (lv : xLv) (a0 : Nat) (fa0 : yAt T 5 p0 0 a0) (g0 : xG lv 0 = some (.ref a0)) (g1 : xG lv 1 = some (.int l1)) (hM : cR [0, 1, 2, 3, 4, 5, 6, 7] F ev T S hp) (h : f_X5_knowsLeg_0 N S p0 l1 = some v) : yWE ev.2.1 (xstr ev) (xCalls ev xmi (xprog ev) prim (d + 0)) (pX5_knowsLeg ev) (0, lv, [], hp, sz, 0) (ypP hp sz (.int v)) := by
  unfold f_X5_knowsLeg_0 at h
  refine ye_aload rfl g0 ?_
  refine ye_getf rfl (hM.obj fa0 ⟨rfl, rfl⟩) rfl ?_
  refine ye_iload rfl g1 ?_
  refine ye_p rfl rfl ?_
  refine ye_p rfl rfl ?_
  refine ye_p rfl rfl ?_
  refine ye_p rfl rfl ?_
  refine ye_icmp_ne rfl (fun h1 => ?_) (fun h1 => ?_)
  · replace h := yiT h1 h
    refine ye_p rfl rfl ?_
    exact w_X5_knowsLeg_17 (prim := prim) (d := d) N S 0 lv hM h
  · replace h := yiN h1 h
    refine ye_p rfl rfl ?_
    refine ye_p rfl rfl ?_
    exact w_X5_knowsLeg_17 (prim := prim) (d := d) N S 1 lv hM h
def f_X5_knowsLeg (N : Nat) (S : yS) (xp0 : Nat) (xl1 : Int32) : Option Int32 := f_X5_knowsLeg_0 N S xp0 xl1
theorem m_X5_knowsLeg {F : xH} {ev : xEv} {prim : xRel} {d : Nat} {T : yT} {v : Int32} (N : Nat) (S : yS) (xp0 : Nat) (xl1 : Int32) (a0 : Nat) (fa0 : yAt T 5 xp0 0 a0) (h : f_X5_knowsLeg N S xp0 xl1 = some v) : ykP [0, 1, 2, 3, 4, 5, 6, 7] F ev prim (d + 1) 64 T S [.ref a0, .int xl1] (.int v) :=
  ykP.of (pg_64 ev) mi_64 (Nat.le_of_ble_eq_true rfl) (fun hp sz hM => w_X5_knowsLeg_0 (prim := prim) (d := d) N S xp0 xl1 _ a0 fa0 rfl rfl hM h)

def f_X5_copy_0 (N : Nat) (S : yS) (p0 : Nat) (p1 : Nat) : Option (Int32 × yS) := sq (yI S p1 0 (S.1 p0 0)) fun S1 => sq (yI S1 p1 1 (S1.1 p0 1)) fun S2 => sq (yI S2 p1 2 (S2.1 p0 2)) fun S3 => some (0, S3)
set_option maxHeartbeats 4000000 in
set_option maxRecDepth 40000 in
theorem w_X5_copy_0 {F : xH} {ev : xEv} {prim : xRel} {d sz : Nat} {T : yT} {v : Int32} {S' : yS} (N : Nat) (S : yS) (p0 : Nat) (p1 : Nat) (hp : xH) (lv : xLv) (a0 : Nat) (a1 : Nat) (fa0 : yAt T 5 p0 0 a0) (fa1 : yAt T 5 p1 0 a1) (g0 : xG lv 0 = some (.ref a0)) (g1 : xG lv 1 = some (.ref a1)) (hM : cR [0, 1, 2, 3, 4, 5, 6, 7] F ev T S hp) (h : f_X5_copy_0 N S p0 p1 = some (v, S')) : yWE ev.2.1 (xstr ev) (xCalls ev xmi (xprog ev) prim (d + 0)) (pX5_copy ev) (0, lv, [], hp, sz, 0) (ypQ [0, 1, 2, 3, 4, 5, 6, 7] F ev T sz (none) S') := by
  unfold f_X5_copy_0 at h
  refine ye_aload rfl g1 ?_
  refine ye_aload rfl g0 ?_
  refine ye_getf rfl (hM.obj fa0 ⟨rfl, rfl⟩) rfl ?_
  obtain ⟨S1, eS1, h⟩ := sq_some h
  refine yw_putI rfl hM fa1 rfl ⟨rfl, rfl⟩ (Nat.le_of_ble_eq_true rfl) rfl rfl (ys_5_0 ev T _ (S.1 p0 0)) (fun q => absurd q (by decide)) eS1 (fun y1 M1 => ?_)
  refine ye_aload rfl g1 ?_
  refine ye_aload rfl g0 ?_
  refine ye_getf rfl (M1.obj fa0 ⟨rfl, rfl⟩) rfl ?_
  obtain ⟨S2, eS2, h⟩ := sq_some h
  refine yw_putI rfl M1 fa1 rfl ⟨rfl, rfl⟩ (Nat.le_of_ble_eq_true rfl) rfl rfl (ys_5_1 ev T _ (S1.1 p0 1)) (fun q => absurd q (by decide)) eS2 (fun y2 M2 => ?_)
  refine ye_aload rfl g1 ?_
  refine ye_aload rfl g0 ?_
  refine ye_getf rfl (M2.obj fa0 ⟨rfl, rfl⟩) rfl ?_
  obtain ⟨S3, eS3, h⟩ := sq_some h
  refine yw_putI rfl M2 fa1 rfl ⟨rfl, rfl⟩ (Nat.le_of_ble_eq_true rfl) rfl rfl (ys_5_2 ev T _ (S2.1 p0 2)) (fun q => absurd q (by decide)) eS3 (fun y3 M3 => ?_)
  exact ye_ret rfl rfl (rQV h M3)
def f_X5_copy (N : Nat) (S : yS) (xp0 : Nat) (xp1 : Nat) : Option (Int32 × yS) := f_X5_copy_0 N S xp0 xp1
theorem m_X5_copy {F : xH} {ev : xEv} {prim : xRel} {d : Nat} {T : yT} {v : Int32} {S' : yS} (N : Nat) (S : yS) (xp0 : Nat) (xp1 : Nat) (a0 : Nat) (a1 : Nat) (fa0 : yAt T 5 xp0 0 a0) (fa1 : yAt T 5 xp1 0 a1) (h : f_X5_copy N S xp0 xp1 = some (v, S')) : ykQ [0, 1, 2, 3, 4, 5, 6, 7] F ev prim (d + 1) 67 T S [.ref a0, .ref a1] (none) S' :=
  ykQ.of (pg_67 ev) mi_67 (Nat.le_of_ble_eq_true rfl) (fun hp sz hM => w_X5_copy_0 (prim := prim) (d := d) N S xp0 xp1 hp _ a0 a1 fa0 fa1 rfl rfl hM h)

def f_X6_isAloft_20 (N : Nat) (S : yS) (t0 : Int32) : Option Int32 := gP (t0 = 0 ∨ t0 = 1) (some t0)
set_option maxHeartbeats 4000000 in
set_option maxRecDepth 40000 in
theorem w_X6_isAloft_20 {F : xH} {ev : xEv} {prim : xRel} {d sz : Nat} {T : yT} {v : Int32} {hp : xH} (N : Nat) (S : yS) (t0 : Int32) (lv : xLv) (hM : cR [0, 1, 2, 3, 4, 5, 6, 7] F ev T S hp) (h : f_X6_isAloft_20 N S t0 = some v) : yWE ev.2.1 (xstr ev) (xCalls ev xmi (xprog ev) prim (d + 0)) (pX6_isAloft ev) (20, lv, [.int t0], hp, sz, 0) (ypP hp sz (.int v)) := by
  unfold f_X6_isAloft_20 at h
  obtain ⟨i1, h⟩ := gP_some h
  exact ye_ret rfl (if_pos (zb_nar i1)) (rP h)

def f_X6_isAloft_19 (N : Nat) (S : yS) : Option Int32 := f_X6_isAloft_20 N S 0
set_option maxHeartbeats 4000000 in
set_option maxRecDepth 40000 in
theorem w_X6_isAloft_19 {F : xH} {ev : xEv} {prim : xRel} {d sz : Nat} {T : yT} {v : Int32} {hp : xH} (N : Nat) (S : yS) (lv : xLv) (hM : cR [0, 1, 2, 3, 4, 5, 6, 7] F ev T S hp) (h : f_X6_isAloft_19 N S = some v) : yWE ev.2.1 (xstr ev) (xCalls ev xmi (xprog ev) prim (d + 0)) (pX6_isAloft ev) (19, lv, [], hp, sz, 0) (ypP hp sz (.int v)) := by
  unfold f_X6_isAloft_19 at h
  refine ye_p rfl rfl ?_
  exact w_X6_isAloft_20 (prim := prim) (d := d) N S 0 lv hM h

def f_X6_isAloft_0 (N : Nat) (S : yS) (p0 : Nat) : Option Int32 := if ¬ (S.1 p0 8) = ((-1)) then f_X6_isAloft_19 N S else if ¬ (S.1 p0 12) = 0 then f_X6_isAloft_19 N S else f_X6_isAloft_20 N S 1
set_option maxHeartbeats 4000000 in
set_option maxRecDepth 40000 in
theorem w_X6_isAloft_0 {F : xH} {ev : xEv} {prim : xRel} {d sz : Nat} {T : yT} {v : Int32} {hp : xH} (N : Nat) (S : yS) (p0 : Nat) (lv : xLv) (a0 : Nat) (fa0 : yAt T 6 p0 0 a0) (g0 : xG lv 0 = some (.ref a0)) (hM : cR [0, 1, 2, 3, 4, 5, 6, 7] F ev T S hp) (h : f_X6_isAloft_0 N S p0 = some v) : yWE ev.2.1 (xstr ev) (xCalls ev xmi (xprog ev) prim (d + 0)) (pX6_isAloft ev) (0, lv, [], hp, sz, 0) (ypP hp sz (.int v)) := by
  unfold f_X6_isAloft_0 at h
  refine ye_aload rfl g0 ?_
  refine ye_getf rfl (hM.obj fa0 ⟨rfl, rfl⟩) rfl ?_
  refine ye_p rfl rfl ?_
  refine ye_icmp_ne rfl (fun h1 => ?_) (fun h1 => ?_)
  · replace h := yiT h1 h
    exact w_X6_isAloft_19 (prim := prim) (d := d) N S lv hM h
  · replace h := yiN h1 h
    refine ye_aload rfl g0 ?_
    refine ye_getf rfl (hM.obj fa0 ⟨rfl, rfl⟩) rfl ?_
    refine ye_if_ne rfl (fun h2 => ?_) (fun h2 => ?_)
    · replace h := yiT h2 h
      exact w_X6_isAloft_19 (prim := prim) (d := d) N S lv hM h
    · replace h := yiN h2 h
      refine ye_p rfl rfl ?_
      refine ye_p rfl rfl ?_
      exact w_X6_isAloft_20 (prim := prim) (d := d) N S 1 lv hM h
def f_X6_isAloft (N : Nat) (S : yS) (xp0 : Nat) : Option Int32 := f_X6_isAloft_0 N S xp0
theorem m_X6_isAloft {F : xH} {ev : xEv} {prim : xRel} {d : Nat} {T : yT} {v : Int32} (N : Nat) (S : yS) (xp0 : Nat) (a0 : Nat) (fa0 : yAt T 6 xp0 0 a0) (h : f_X6_isAloft N S xp0 = some v) : ykP [0, 1, 2, 3, 4, 5, 6, 7] F ev prim (d + 1) 69 T S [.ref a0] (.int v) :=
  ykP.of (pg_69 ev) mi_69 (Nat.le_of_ble_eq_true rfl) (fun hp sz hM => w_X6_isAloft_0 (prim := prim) (d := d) N S xp0 _ a0 fa0 rfl hM h)

def f_X6_takeOff_44 (N : Nat) (S : yS) (p0 : Nat) (l1 : Int32) (p2 : Nat) (q0 : Nat) (t1 : Int32) : Option (Int32 × yS) := sq (yI S q0 10 t1) fun S1 => sq (yI S1 p0 15 (S1.1 p0 3)) fun S2 => sq (yI S2 p0 16 (S2.1 p2 1)) fun S3 => sq (yI S3 p0 17 l1) fun S4 => sq (yI S4 p0 8 ((-1))) fun S5 => some (0, S5)
set_option maxHeartbeats 4000000 in
set_option maxRecDepth 40000 in
theorem w_X6_takeOff_44 {F : xH} {ev : xEv} {prim : xRel} {d sz : Nat} {T : yT} {v : Int32} {S' : yS} (N : Nat) (S : yS) (p0 : Nat) (l1 : Int32) (p2 : Nat) (q0 : Nat) (t1 : Int32) (hp : xH) (lv : xLv) (a0 : Nat) (a2 : Nat) (b0 : Nat) (fa0 : yAt T 6 p0 0 a0) (fa2 : yAt T 1 p2 0 a2) (fb0 : yAt T 6 q0 0 b0) (g0 : xG lv 0 = some (.ref a0)) (g1 : xG lv 1 = some (.int l1)) (g2 : xG lv 2 = some (.ref a2)) (hM : cR [0, 1, 2, 3, 4, 5, 6, 7] F ev T S hp) (h : f_X6_takeOff_44 N S p0 l1 p2 q0 t1 = some (v, S')) : yWE ev.2.1 (xstr ev) (xCalls ev xmi (xprog ev) prim (d + 0)) (pX6_takeOff ev) (44, lv, [.int t1, .ref b0], hp, sz, 0) (ypQ [0, 1, 2, 3, 4, 5, 6, 7] F ev T sz (none) S') := by
  unfold f_X6_takeOff_44 at h
  obtain ⟨S1, eS1, h⟩ := sq_some h
  refine yw_putI rfl hM fb0 rfl ⟨rfl, rfl⟩ (Nat.le_of_ble_eq_true rfl) rfl rfl (ys_6_10 ev T _ t1) (fun q => absurd q (by decide)) eS1 (fun y1 M1 => ?_)
  refine ye_aload rfl g0 ?_
  refine ye_aload rfl g0 ?_
  refine ye_getf rfl (M1.obj fa0 ⟨rfl, rfl⟩) rfl ?_
  obtain ⟨S2, eS2, h⟩ := sq_some h
  refine yw_putI rfl M1 fa0 rfl ⟨rfl, rfl⟩ (Nat.le_of_ble_eq_true rfl) rfl rfl (ys_6_15 ev T _ (S1.1 p0 3)) (fun q => absurd q (by decide)) eS2 (fun y2 M2 => ?_)
  refine ye_aload rfl g0 ?_
  refine ye_aload rfl g2 ?_
  refine ye_getf rfl (M2.obj fa2 ⟨rfl, rfl⟩) rfl ?_
  obtain ⟨S3, eS3, h⟩ := sq_some h
  refine yw_putI rfl M2 fa0 rfl ⟨rfl, rfl⟩ (Nat.le_of_ble_eq_true rfl) rfl rfl (ys_6_16 ev T _ (S2.1 p2 1)) (fun q => absurd q (by decide)) eS3 (fun y3 M3 => ?_)
  refine ye_aload rfl g0 ?_
  refine ye_iload rfl g1 ?_
  obtain ⟨S4, eS4, h⟩ := sq_some h
  refine yw_putI rfl M3 fa0 rfl ⟨rfl, rfl⟩ (Nat.le_of_ble_eq_true rfl) rfl rfl (ys_6_17 ev T _ l1) (fun q => absurd q (by decide)) eS4 (fun y4 M4 => ?_)
  refine ye_aload rfl g0 ?_
  refine ye_p rfl rfl ?_
  obtain ⟨S5, eS5, h⟩ := sq_some h
  refine yw_putI rfl M4 fa0 rfl ⟨rfl, rfl⟩ (Nat.le_of_ble_eq_true rfl) rfl rfl (ys_6_8 ev T _ ((-1))) (fun q => absurd q (by decide)) eS5 (fun y5 M5 => ?_)
  exact ye_ret rfl rfl (rQV h M5)

def f_X6_takeOff_17 (N : Nat) (S : yS) (p0 : Nat) (l1 : Int32) (p2 : Nat) (p3 : Nat) (q0 : Nat) (t1 : Int32) : Option (Int32 × yS) := gP (t1 = 0 ∨ t1 = 1) (sq (yI S q0 11 t1) fun S1 => sq (yI S1 p0 9 (S1.1 p2 2)) fun S2 => if (S2.1 p0 11) = 0 then f_X6_takeOff_44 N S2 p0 l1 p2 p0 (S2.1 p3 2) else f_X6_takeOff_44 N S2 p0 l1 p2 p0 0)
set_option maxHeartbeats 4000000 in
set_option maxRecDepth 40000 in
theorem w_X6_takeOff_17 {F : xH} {ev : xEv} {prim : xRel} {d sz : Nat} {T : yT} {v : Int32} {S' : yS} (N : Nat) (S : yS) (p0 : Nat) (l1 : Int32) (p2 : Nat) (p3 : Nat) (q0 : Nat) (t1 : Int32) (hp : xH) (lv : xLv) (a0 : Nat) (a2 : Nat) (a3 : Nat) (b0 : Nat) (fa0 : yAt T 6 p0 0 a0) (fa2 : yAt T 1 p2 0 a2) (fa3 : yAt T 3 p3 0 a3) (fb0 : yAt T 6 q0 0 b0) (g0 : xG lv 0 = some (.ref a0)) (g1 : xG lv 1 = some (.int l1)) (g2 : xG lv 2 = some (.ref a2)) (g3 : xG lv 3 = some (.ref a3)) (hM : cR [0, 1, 2, 3, 4, 5, 6, 7] F ev T S hp) (h : f_X6_takeOff_17 N S p0 l1 p2 p3 q0 t1 = some (v, S')) : yWE ev.2.1 (xstr ev) (xCalls ev xmi (xprog ev) prim (d + 0)) (pX6_takeOff ev) (17, lv, [.int t1, .ref b0], hp, sz, 0) (ypQ [0, 1, 2, 3, 4, 5, 6, 7] F ev T sz (none) S') := by
  unfold f_X6_takeOff_17 at h
  obtain ⟨i1, h⟩ := gP_some h
  obtain ⟨S1, eS1, h⟩ := sq_some h
  refine yw_putI rfl hM fb0 rfl ⟨rfl, rfl⟩ (Nat.le_of_ble_eq_true rfl) (zb_fit i1) (zb_nar i1) (ys_6_11 ev T _ t1) (fun q => absurd q (by decide)) eS1 (fun y1 M1 => ?_)
  refine ye_aload rfl g0 ?_
  refine ye_aload rfl g2 ?_
  refine ye_getf rfl (M1.obj fa2 ⟨rfl, rfl⟩) rfl ?_
  obtain ⟨S2, eS2, h⟩ := sq_some h
  refine yw_putI rfl M1 fa0 rfl ⟨rfl, rfl⟩ (Nat.le_of_ble_eq_true rfl) rfl rfl (ys_6_9 ev T _ (S1.1 p2 2)) (fun q => absurd q (by decide)) eS2 (fun y2 M2 => ?_)
  refine ye_aload rfl g0 ?_
  refine ye_aload rfl g0 ?_
  refine ye_getf rfl (M2.obj fa0 ⟨rfl, rfl⟩) rfl ?_
  refine ye_if_eq rfl (fun h1 => ?_) (fun h1 => ?_)
  · replace h := yiT h1 h
    refine ye_aload rfl g3 ?_
    refine ye_getf rfl (M2.obj fa3 ⟨rfl, rfl⟩) rfl ?_
    exact w_X6_takeOff_44 (prim := prim) (d := d) N S2 p0 l1 p2 p0 (S2.1 p3 2) y2 lv a0 a2 a0 fa0 fa2 fa0 g0 g1 g2 M2 h
  · replace h := yiN h1 h
    refine ye_p rfl rfl ?_
    refine ye_p rfl rfl ?_
    exact w_X6_takeOff_44 (prim := prim) (d := d) N S2 p0 l1 p2 p0 0 y2 lv a0 a2 a0 fa0 fa2 fa0 g0 g1 g2 M2 h

def f_X6_takeOff_0 (N : Nat) (S : yS) (p0 : Nat) (l1 : Int32) (p2 : Nat) (p3 : Nat) : Option (Int32 × yS) := if ¬ (S.1 p0 8) = (S.1 p3 0) then f_X6_takeOff_17 N S p0 l1 p2 p3 p0 0 else f_X6_takeOff_17 N S p0 l1 p2 p3 p0 1
set_option maxHeartbeats 4000000 in
set_option maxRecDepth 40000 in
theorem w_X6_takeOff_0 {F : xH} {ev : xEv} {prim : xRel} {d sz : Nat} {T : yT} {v : Int32} {S' : yS} (N : Nat) (S : yS) (p0 : Nat) (l1 : Int32) (p2 : Nat) (p3 : Nat) (hp : xH) (lv : xLv) (a0 : Nat) (a2 : Nat) (a3 : Nat) (fa0 : yAt T 6 p0 0 a0) (fa2 : yAt T 1 p2 0 a2) (fa3 : yAt T 3 p3 0 a3) (g0 : xG lv 0 = some (.ref a0)) (g1 : xG lv 1 = some (.int l1)) (g2 : xG lv 2 = some (.ref a2)) (g3 : xG lv 3 = some (.ref a3)) (hM : cR [0, 1, 2, 3, 4, 5, 6, 7] F ev T S hp) (h : f_X6_takeOff_0 N S p0 l1 p2 p3 = some (v, S')) : yWE ev.2.1 (xstr ev) (xCalls ev xmi (xprog ev) prim (d + 0)) (pX6_takeOff ev) (0, lv, [], hp, sz, 0) (ypQ [0, 1, 2, 3, 4, 5, 6, 7] F ev T sz (none) S') := by
  unfold f_X6_takeOff_0 at h
  refine ye_aload rfl g0 ?_
  refine ye_aload rfl g0 ?_
  refine ye_getf rfl (hM.obj fa0 ⟨rfl, rfl⟩) rfl ?_
  refine ye_aload rfl g3 ?_
  refine ye_getf rfl (hM.obj fa3 ⟨rfl, rfl⟩) rfl ?_
  refine ye_icmp_ne rfl (fun h1 => ?_) (fun h1 => ?_)
  · replace h := yiT h1 h
    refine ye_p rfl rfl ?_
    exact w_X6_takeOff_17 (prim := prim) (d := d) N S p0 l1 p2 p3 p0 0 hp lv a0 a2 a3 a0 fa0 fa2 fa3 fa0 g0 g1 g2 g3 hM h
  · replace h := yiN h1 h
    refine ye_p rfl rfl ?_
    refine ye_p rfl rfl ?_
    exact w_X6_takeOff_17 (prim := prim) (d := d) N S p0 l1 p2 p3 p0 1 hp lv a0 a2 a3 a0 fa0 fa2 fa3 fa0 g0 g1 g2 g3 hM h
def f_X6_takeOff (N : Nat) (S : yS) (xp0 : Nat) (xl1 : Int32) (xp2 : Nat) (xp3 : Nat) : Option (Int32 × yS) := f_X6_takeOff_0 N S xp0 xl1 xp2 xp3
theorem m_X6_takeOff {F : xH} {ev : xEv} {prim : xRel} {d : Nat} {T : yT} {v : Int32} {S' : yS} (N : Nat) (S : yS) (xp0 : Nat) (xl1 : Int32) (xp2 : Nat) (xp3 : Nat) (a0 : Nat) (a2 : Nat) (a3 : Nat) (fa0 : yAt T 6 xp0 0 a0) (fa2 : yAt T 1 xp2 0 a2) (fa3 : yAt T 3 xp3 0 a3) (h : f_X6_takeOff N S xp0 xl1 xp2 xp3 = some (v, S')) : ykQ [0, 1, 2, 3, 4, 5, 6, 7] F ev prim (d + 1) 70 T S [.ref a0, .int xl1, .ref a2, .ref a3] (none) S' :=
  ykQ.of (pg_70 ev) mi_70 (Nat.le_of_ble_eq_true rfl) (fun hp sz hM => w_X6_takeOff_0 (prim := prim) (d := d) N S xp0 xl1 xp2 xp3 hp _ a0 a2 a3 fa0 fa2 fa3 rfl rfl rfl rfl hM h)

def f_X6_putAt_0 (N : Nat) (S : yS) (p0 : Nat) (l1 : Int32) : Option (Int32 × yS) := sq (yI S p0 8 l1) fun S1 => sq (yI S1 p0 9 ((-1))) fun S2 => sq (yI S2 p0 10 ((-1))) fun S3 => sq (yI S3 p0 12 0) fun S4 => sq (yI S4 p0 15 0) fun S5 => sq (yI S5 p0 16 ((-1))) fun S6 => some (0, S6)
set_option maxHeartbeats 4000000 in
set_option maxRecDepth 40000 in
theorem w_X6_putAt_0 {F : xH} {ev : xEv} {prim : xRel} {d sz : Nat} {T : yT} {v : Int32} {S' : yS} (N : Nat) (S : yS) (p0 : Nat) (l1 : Int32) (hp : xH) (lv : xLv) (a0 : Nat) (fa0 : yAt T 6 p0 0 a0) (g0 : xG lv 0 = some (.ref a0)) (g1 : xG lv 1 = some (.int l1)) (hM : cR [0, 1, 2, 3, 4, 5, 6, 7] F ev T S hp) (h : f_X6_putAt_0 N S p0 l1 = some (v, S')) : yWE ev.2.1 (xstr ev) (xCalls ev xmi (xprog ev) prim (d + 0)) (pX6_putAt ev) (0, lv, [], hp, sz, 0) (ypQ [0, 1, 2, 3, 4, 5, 6, 7] F ev T sz (none) S') := by
  unfold f_X6_putAt_0 at h
  refine ye_aload rfl g0 ?_
  refine ye_iload rfl g1 ?_
  obtain ⟨S1, eS1, h⟩ := sq_some h
  refine yw_putI rfl hM fa0 rfl ⟨rfl, rfl⟩ (Nat.le_of_ble_eq_true rfl) rfl rfl (ys_6_8 ev T _ l1) (fun q => absurd q (by decide)) eS1 (fun y1 M1 => ?_)
  refine ye_aload rfl g0 ?_
  refine ye_p rfl rfl ?_
  obtain ⟨S2, eS2, h⟩ := sq_some h
  refine yw_putI rfl M1 fa0 rfl ⟨rfl, rfl⟩ (Nat.le_of_ble_eq_true rfl) rfl rfl (ys_6_9 ev T _ ((-1))) (fun q => absurd q (by decide)) eS2 (fun y2 M2 => ?_)
  refine ye_aload rfl g0 ?_
  refine ye_p rfl rfl ?_
  obtain ⟨S3, eS3, h⟩ := sq_some h
  refine yw_putI rfl M2 fa0 rfl ⟨rfl, rfl⟩ (Nat.le_of_ble_eq_true rfl) rfl rfl (ys_6_10 ev T _ ((-1))) (fun q => absurd q (by decide)) eS3 (fun y3 M3 => ?_)
  refine ye_aload rfl g0 ?_
  refine ye_p rfl rfl ?_
  obtain ⟨S4, eS4, h⟩ := sq_some h
  refine yw_putI rfl M3 fa0 rfl ⟨rfl, rfl⟩ (Nat.le_of_ble_eq_true rfl) rfl rfl (ys_6_12 ev T _ 0) (fun q => absurd q (by decide)) eS4 (fun y4 M4 => ?_)
  refine ye_aload rfl g0 ?_
  refine ye_p rfl rfl ?_
  obtain ⟨S5, eS5, h⟩ := sq_some h
  refine yw_putI rfl M4 fa0 rfl ⟨rfl, rfl⟩ (Nat.le_of_ble_eq_true rfl) rfl rfl (ys_6_15 ev T _ 0) (fun q => absurd q (by decide)) eS5 (fun y5 M5 => ?_)
  refine ye_aload rfl g0 ?_
  refine ye_p rfl rfl ?_
  obtain ⟨S6, eS6, h⟩ := sq_some h
  refine yw_putI rfl M5 fa0 rfl ⟨rfl, rfl⟩ (Nat.le_of_ble_eq_true rfl) rfl rfl (ys_6_16 ev T _ ((-1))) (fun q => absurd q (by decide)) eS6 (fun y6 M6 => ?_)
  exact ye_ret rfl rfl (rQV h M6)
def f_X6_putAt (N : Nat) (S : yS) (xp0 : Nat) (xl1 : Int32) : Option (Int32 × yS) := f_X6_putAt_0 N S xp0 xl1
theorem m_X6_putAt {F : xH} {ev : xEv} {prim : xRel} {d : Nat} {T : yT} {v : Int32} {S' : yS} (N : Nat) (S : yS) (xp0 : Nat) (xl1 : Int32) (a0 : Nat) (fa0 : yAt T 6 xp0 0 a0) (h : f_X6_putAt N S xp0 xl1 = some (v, S')) : ykQ [0, 1, 2, 3, 4, 5, 6, 7] F ev prim (d + 1) 71 T S [.ref a0, .int xl1] (none) S' :=
  ykQ.of (pg_71 ev) mi_71 (Nat.le_of_ble_eq_true rfl) (fun hp sz hM => w_X6_putAt_0 (prim := prim) (d := d) N S xp0 xl1 hp _ a0 fa0 rfl rfl hM h)

def f_X6_addLook_0 (N : Nat) (S : yS) (p0 : Nat) (l1 : Int32) (l2 : Int32) : Option (Int32 × yS) := gA 8 (2 * (S.1 p0 18)) fun j1 => sq (yA S p0 19 (upd (S.2.1 p0 19) j1 l1)) fun S1 => gA 8 ((2 * (S1.1 p0 18)) + 1) fun j2 => sq (yA S1 p0 19 (upd (S1.2.1 p0 19) j2 l2)) fun S2 => sq (yI S2 p0 18 ((S2.1 p0 18) + 1)) fun S3 => some (S3.1 p0 18, S3)
set_option maxHeartbeats 4000000 in
set_option maxRecDepth 40000 in
theorem w_X6_addLook_0 {F : xH} {ev : xEv} {prim : xRel} {d sz : Nat} {T : yT} {v : Int32} {S' : yS} (N : Nat) (S : yS) (p0 : Nat) (l1 : Int32) (l2 : Int32) (hp : xH) (lv : xLv) (a0 : Nat) (fa0 : yAt T 6 p0 0 a0) (g0 : xG lv 0 = some (.ref a0)) (g1 : xG lv 1 = some (.int l1)) (g2 : xG lv 2 = some (.int l2)) (hM : cR [0, 1, 2, 3, 4, 5, 6, 7] F ev T S hp) (h : f_X6_addLook_0 N S p0 l1 l2 = some (v, S')) : yWE ev.2.1 (xstr ev) (xCalls ev xmi (xprog ev) prim (d + 0)) (pX6_addLook ev) (0, lv, [], hp, sz, 0) (ypQ [0, 1, 2, 3, 4, 5, 6, 7] F ev T sz (some (.int v)) S') := by
  unfold f_X6_addLook_0 at h
  refine ye_aload rfl g0 ?_
  refine ye_getr rfl (hM.obj fa0 ⟨rfl, rfl⟩) rfl (fun cx1 ecx1 => ?_)
  have fcx1 := yAt.row fa0 ecx1
  refine ye_p rfl rfl ?_
  refine ye_aload rfl g0 ?_
  refine ye_getf rfl (hM.obj fa0 ⟨rfl, rfl⟩) rfl ?_
  refine ye_p rfl rfl ?_
  refine ye_iload rfl g1 ?_
  obtain ⟨j1, ej1, ij1, h⟩ := gA_some h
  obtain ⟨S1, eS1, h⟩ := sq_some h
  refine yw_ast rfl hM fcx1 yr_6_19 (by decide) ij1 ej1 eS1 (fun y1 M1 => ?_)
  refine ye_aload rfl g0 ?_
  refine ye_getr rfl (M1.obj fa0 ⟨rfl, rfl⟩) rfl (fun cx2 ecx2 => ?_)
  have fcx2 := yAt.row fa0 ecx2
  refine ye_p rfl rfl ?_
  refine ye_aload rfl g0 ?_
  refine ye_getf rfl (M1.obj fa0 ⟨rfl, rfl⟩) rfl ?_
  refine ye_p rfl rfl ?_
  refine ye_p rfl rfl ?_
  refine ye_p rfl rfl ?_
  refine ye_iload rfl g2 ?_
  obtain ⟨j2, ej2, ij2, h⟩ := gA_some h
  obtain ⟨S2, eS2, h⟩ := sq_some h
  refine yw_ast rfl M1 fcx2 yr_6_19 (by decide) ij2 ej2 eS2 (fun y2 M2 => ?_)
  refine ye_aload rfl g0 ?_
  refine ye_p rfl rfl ?_
  refine ye_getf rfl (M2.obj fa0 ⟨rfl, rfl⟩) rfl ?_
  refine ye_p rfl rfl ?_
  refine ye_p rfl rfl ?_
  obtain ⟨S3, eS3, h⟩ := sq_some h
  refine yw_putI rfl M2 fa0 rfl ⟨rfl, rfl⟩ (Nat.le_of_ble_eq_true rfl) rfl rfl (ys_6_18 ev T _ ((S2.1 p0 18) + 1)) (fun q => absurd q (by decide)) eS3 (fun y3 M3 => ?_)
  refine ye_aload rfl g0 ?_
  refine ye_getf rfl (M3.obj fa0 ⟨rfl, rfl⟩) rfl ?_
  exact ye_ret rfl rfl (rQ h M3)
def f_X6_addLook (N : Nat) (S : yS) (xp0 : Nat) (xl1 : Int32) (xl2 : Int32) : Option (Int32 × yS) := f_X6_addLook_0 N S xp0 xl1 xl2
theorem m_X6_addLook {F : xH} {ev : xEv} {prim : xRel} {d : Nat} {T : yT} {v : Int32} {S' : yS} (N : Nat) (S : yS) (xp0 : Nat) (xl1 : Int32) (xl2 : Int32) (a0 : Nat) (fa0 : yAt T 6 xp0 0 a0) (h : f_X6_addLook N S xp0 xl1 xl2 = some (v, S')) : ykQ [0, 1, 2, 3, 4, 5, 6, 7] F ev prim (d + 1) 72 T S [.ref a0, .int xl1, .int xl2] (some (.int v)) S' :=
  ykQ.of (pg_72 ev) mi_72 (Nat.le_of_ble_eq_true rfl) (fun hp sz hM => w_X6_addLook_0 (prim := prim) (d := d) N S xp0 xl1 xl2 hp _ a0 fa0 rfl rfl rfl hM h)

def f_X6_weigh_72 (N : Nat) (k22 : yS → Nat → Nat → Int32 → Int32 → Int32 → Int32 → Option (Int32 × yS)) (S : yS) (p0 : Nat) (p1 : Nat) (l2 : Int32) (l4 : Int32) (l6 : Int32) (q0 : Nat) (t1 : Int32) : Option (Int32 × yS) := bV (f_X3_cellAt N S q0 t1) fun w1 => gA 41 w1 fun j1 => gA 41 w1 fun j2 => sq (yJ S 0 4 (vp_updL (S.2.2 0 4) j2 ((S.2.2 0 4 j1) + 1))) fun S1 => k22 S1 p0 p1 l2 l4 1 (l6 + 1)
set_option maxHeartbeats 4000000 in
set_option maxRecDepth 40000 in
theorem w_X6_weigh_72 {F : xH} {ev : xEv} {prim : xRel} {d sz : Nat} {T : yT} {v : Int32} {S' : yS} (N : Nat) (k22 : yS → Nat → Nat → Int32 → Int32 → Int32 → Int32 → Option (Int32 × yS)) (u22 : ∀ (S : yS) (p0 : Nat) (p1 : Nat) (l2 : Int32) (l4 : Int32) (l5 : Int32) (l6 : Int32) (hp : xH) (lv : xLv) (a0 : Nat) (a1 : Nat) (a3 : Nat) (fa0 : yAt T 6 p0 0 a0) (fa1 : yAt T 3 p1 0 a1) (fa3 : yAt T 11 0 5 a3) (g0 : xG lv 0 = some (.ref a0)) (g1 : xG lv 1 = some (.ref a1)) (g2 : xG lv 2 = some (.int l2)) (g3 : xG lv 3 = some (.ref a3)) (g4 : xG lv 4 = some (.int l4)) (g5 : xG lv 5 = some (.int l5)) (g6 : xG lv 6 = some (.int l6)) (hM : cR [0, 1, 2, 3, 4, 5, 6, 7] F ev T S hp) (h : k22 S p0 p1 l2 l4 l5 l6 = some (v, S')), yWE ev.2.1 (xstr ev) (xCalls ev xmi (xprog ev) prim (d + 1)) (pX6_weigh ev) (22, lv, [], hp, sz, 0) (ypQ [0, 1, 2, 3, 4, 5, 6, 7] F ev T sz (none) S')) (S : yS) (p0 : Nat) (p1 : Nat) (l2 : Int32) (l4 : Int32) (l6 : Int32) (q0 : Nat) (t1 : Int32) (hp : xH) (lv : xLv) (a0 : Nat) (a1 : Nat) (a3 : Nat) (b0 : Nat) (fa0 : yAt T 6 p0 0 a0) (fa1 : yAt T 3 p1 0 a1) (fa3 : yAt T 11 0 5 a3) (fb0 : yAt T 3 q0 0 b0) (g0 : xG lv 0 = some (.ref a0)) (g1 : xG lv 1 = some (.ref a1)) (g2 : xG lv 2 = some (.int l2)) (g3 : xG lv 3 = some (.ref a3)) (g4 : xG lv 4 = some (.int l4)) (g6 : xG lv 6 = some (.int l6)) (hM : cR [0, 1, 2, 3, 4, 5, 6, 7] F ev T S hp) (h : f_X6_weigh_72 N k22 S p0 p1 l2 l4 l6 q0 t1 = some (v, S')) : yWE ev.2.1 (xstr ev) (xCalls ev xmi (xprog ev) prim (d + 1)) (pX6_weigh ev) (72, lv, [.int t1, .ref b0], hp, sz, 0) (ypQ [0, 1, 2, 3, 4, 5, 6, 7] F ev T sz (none) S') := by
  unfold f_X6_weigh_72 at h
  obtain ⟨w1, hw1, h⟩ := bV_some h
  refine ye_callV (As := [.int t1]) (rest := []) 0 (Or.inl rfl) rfl rfl rfl (Nat.le_of_ble_eq_true rfl) (hM.obj fb0 ⟨rfl, rfl⟩) ((m_X3_cellAt (d := d + 0) (T := T) N S q0 t1 b0 fb0 hw1) hp sz hM) ?_
  refine ye_p rfl rfl ?_
  have g0_z1 := xG_o1 (i := 7) (v := .int w1) g0 rfl
  have g1_z1 := xG_o1 (i := 7) (v := .int w1) g1 rfl
  have g2_z1 := xG_o1 (i := 7) (v := .int w1) g2 rfl
  have g3_z1 := xG_o1 (i := 7) (v := .int w1) g3 rfl
  have g4_z1 := xG_o1 (i := 7) (v := .int w1) g4 rfl
  have g6_z1 := xG_o1 (i := 7) (v := .int w1) g6 rfl
  have g7_z1 := xG_same lv 7 (.int w1)
  generalize xSt1 lv 7 (.int w1) = lvz1 at g0_z1 g1_z1 g2_z1 g3_z1 g4_z1 g6_z1 g7_z1 ⊢
  refine ye_aload rfl g3_z1 ?_
  refine ye_iload rfl g7_z1 ?_
  refine ye_p rfl rfl ?_
  obtain ⟨j1, ej1, ij1, h⟩ := gA_some h
  refine yj_lald rfl (hM.arr fa3 yr_11_4) ij1 ej1 ?_
  refine ye_p rfl rfl ?_
  refine ye_p rfl rfl ?_
  obtain ⟨j2, ej2, ij2, h⟩ := gA_some h
  obtain ⟨S1, eS1, h⟩ := sq_some h
  refine yw_last rfl hM fa3 yr_11_4 ij2 ej2 eS1 (fun y1 M1 => ?_)
  refine ye_p rfl rfl ?_
  refine ye_p rfl rfl ?_
  have g0_z2 := xG_o1 (i := 5) (v := .int 1) g0_z1 rfl
  have g1_z2 := xG_o1 (i := 5) (v := .int 1) g1_z1 rfl
  have g2_z2 := xG_o1 (i := 5) (v := .int 1) g2_z1 rfl
  have g3_z2 := xG_o1 (i := 5) (v := .int 1) g3_z1 rfl
  have g4_z2 := xG_o1 (i := 5) (v := .int 1) g4_z1 rfl
  have g6_z2 := xG_o1 (i := 5) (v := .int 1) g6_z1 rfl
  have g5_z2 := xG_same lvz1 5 (.int 1)
  generalize xSt1 lvz1 5 (.int 1) = lvz2 at g0_z2 g1_z2 g2_z2 g3_z2 g4_z2 g6_z2 g5_z2 ⊢
  refine ye_iinc rfl g6_z2 ?_
  have g0_z3 := xG_o1 (i := 6) (v := .int (l6 + 1)) g0_z2 rfl
  have g1_z3 := xG_o1 (i := 6) (v := .int (l6 + 1)) g1_z2 rfl
  have g2_z3 := xG_o1 (i := 6) (v := .int (l6 + 1)) g2_z2 rfl
  have g3_z3 := xG_o1 (i := 6) (v := .int (l6 + 1)) g3_z2 rfl
  have g4_z3 := xG_o1 (i := 6) (v := .int (l6 + 1)) g4_z2 rfl
  have g5_z3 := xG_o1 (i := 6) (v := .int (l6 + 1)) g5_z2 rfl
  have g6_z3 := xG_same lvz2 6 (.int (l6 + 1))
  generalize xSt1 lvz2 6 (.int (l6 + 1)) = lvz3 at g0_z3 g1_z3 g2_z3 g3_z3 g4_z3 g5_z3 g6_z3 ⊢
  refine ye_p rfl rfl ?_
  exact u22 S1 p0 p1 l2 l4 1 (l6 + 1) y1 lvz3 a0 a1 a3 fa0 fa1 fa3 g0_z3 g1_z3 g2_z3 g3_z3 g4_z3 g5_z3 g6_z3 M1 h

def f_X6_weigh_168 (N : Nat) (k97 : yS → Nat → Int32 → Int32 → Int32 → Option (Int32 × yS)) (k122 : yS → Nat → Int32 → Int32 → Int32 → Int64 → Int32 → Option (Int32 × yS)) (S : yS) (p0 : Nat) (l4 : Int32) (l5 : Int32) (l6 : Int32) (l9 : Int32) (t0 : Int64) (t1 : Int64) : Option (Int32 × yS) := k122 S p0 l4 l5 l6 (t0 * t1) (l9 + 1)
set_option maxHeartbeats 4000000 in
set_option maxRecDepth 40000 in
theorem w_X6_weigh_168 {F : xH} {ev : xEv} {prim : xRel} {d sz : Nat} {T : yT} {v : Int32} {S' : yS} (N : Nat) (k97 : yS → Nat → Int32 → Int32 → Int32 → Option (Int32 × yS)) (k122 : yS → Nat → Int32 → Int32 → Int32 → Int64 → Int32 → Option (Int32 × yS)) (u97 : ∀ (S : yS) (p0 : Nat) (l4 : Int32) (l5 : Int32) (l6 : Int32) (hp : xH) (lv : xLv) (a0 : Nat) (a3 : Nat) (fa0 : yAt T 6 p0 0 a0) (fa3 : yAt T 11 0 5 a3) (g0 : xG lv 0 = some (.ref a0)) (g3 : xG lv 3 = some (.ref a3)) (g4 : xG lv 4 = some (.int l4)) (g5 : xG lv 5 = some (.int l5)) (g6 : xG lv 6 = some (.int l6)) (hM : cR [0, 1, 2, 3, 4, 5, 6, 7] F ev T S hp) (h : k97 S p0 l4 l5 l6 = some (v, S')), yWE ev.2.1 (xstr ev) (xCalls ev xmi (xprog ev) prim (d + 1)) (pX6_weigh ev) (97, lv, [], hp, sz, 0) (ypQ [0, 1, 2, 3, 4, 5, 6, 7] F ev T sz (none) S')) (u122 : ∀ (S : yS) (p0 : Nat) (l4 : Int32) (l5 : Int32) (l6 : Int32) (l7 : Int64) (l9 : Int32) (hp : xH) (lv : xLv) (a0 : Nat) (a3 : Nat) (fa0 : yAt T 6 p0 0 a0) (fa3 : yAt T 11 0 5 a3) (g0 : xG lv 0 = some (.ref a0)) (g3 : xG lv 3 = some (.ref a3)) (g4 : xG lv 4 = some (.int l4)) (g5 : xG lv 5 = some (.int l5)) (g6 : xG lv 6 = some (.int l6)) (g7 : xG lv 7 = some (.long l7)) (g9 : xG lv 9 = some (.int l9)) (hM : cR [0, 1, 2, 3, 4, 5, 6, 7] F ev T S hp) (h : k122 S p0 l4 l5 l6 l7 l9 = some (v, S')), yWE ev.2.1 (xstr ev) (xCalls ev xmi (xprog ev) prim (d + 1)) (pX6_weigh ev) (122, lv, [], hp, sz, 0) (ypQ [0, 1, 2, 3, 4, 5, 6, 7] F ev T sz (none) S')) (S : yS) (p0 : Nat) (l4 : Int32) (l5 : Int32) (l6 : Int32) (l9 : Int32) (t0 : Int64) (t1 : Int64) (hp : xH) (lv : xLv) (a0 : Nat) (a3 : Nat) (fa0 : yAt T 6 p0 0 a0) (fa3 : yAt T 11 0 5 a3) (g0 : xG lv 0 = some (.ref a0)) (g3 : xG lv 3 = some (.ref a3)) (g4 : xG lv 4 = some (.int l4)) (g5 : xG lv 5 = some (.int l5)) (g6 : xG lv 6 = some (.int l6)) (g9 : xG lv 9 = some (.int l9)) (hM : cR [0, 1, 2, 3, 4, 5, 6, 7] F ev T S hp) (h : f_X6_weigh_168 N k97 k122 S p0 l4 l5 l6 l9 t0 t1 = some (v, S')) : yWE ev.2.1 (xstr ev) (xCalls ev xmi (xprog ev) prim (d + 1)) (pX6_weigh ev) (168, lv, [.long t1, .long t0], hp, sz, 0) (ypQ [0, 1, 2, 3, 4, 5, 6, 7] F ev T sz (none) S') := by
  unfold f_X6_weigh_168 at h
  refine ye_p rfl rfl ?_
  refine ye_p rfl rfl ?_
  have g0_z1 := xG_o2 (i := 7) (v := .long (t0 * t1)) g0 rfl
  have g3_z1 := xG_o2 (i := 7) (v := .long (t0 * t1)) g3 rfl
  have g4_z1 := xG_o2 (i := 7) (v := .long (t0 * t1)) g4 rfl
  have g5_z1 := xG_o2 (i := 7) (v := .long (t0 * t1)) g5 rfl
  have g6_z1 := xG_o2 (i := 7) (v := .long (t0 * t1)) g6 rfl
  have g9_z1 := xG_o2 (i := 7) (v := .long (t0 * t1)) g9 rfl
  have g7_z1 := xG_same2 lv 7 (.long (t0 * t1))
  generalize xSt2 lv 7 (.long (t0 * t1)) = lvz1 at g0_z1 g3_z1 g4_z1 g5_z1 g6_z1 g9_z1 g7_z1 ⊢
  refine ye_iinc rfl g9_z1 ?_
  have g0_z2 := xG_o1 (i := 9) (v := .int (l9 + 1)) g0_z1 rfl
  have g3_z2 := xG_o1 (i := 9) (v := .int (l9 + 1)) g3_z1 rfl
  have g4_z2 := xG_o1 (i := 9) (v := .int (l9 + 1)) g4_z1 rfl
  have g5_z2 := xG_o1 (i := 9) (v := .int (l9 + 1)) g5_z1 rfl
  have g6_z2 := xG_o1 (i := 9) (v := .int (l9 + 1)) g6_z1 rfl
  have g7_z2 := xG_o1 (i := 9) (v := .int (l9 + 1)) g7_z1 rfl
  have g9_z2 := xG_same lvz1 9 (.int (l9 + 1))
  generalize xSt1 lvz1 9 (.int (l9 + 1)) = lvz2 at g0_z2 g3_z2 g4_z2 g5_z2 g6_z2 g7_z2 g9_z2 ⊢
  refine ye_p rfl rfl ?_
  exact u122 S p0 l4 l5 l6 (t0 * t1) (l9 + 1) hp lvz2 a0 a3 fa0 fa3 g0_z2 g3_z2 g4_z2 g5_z2 g6_z2 g7_z2 g9_z2 hM h

def f_X6_weigh_122 : Nat → Nat → (yS → Nat → Int32 → Int32 → Int32 → Option (Int32 × yS)) → yS → Nat → Int32 → Int32 → Int32 → Int64 → Int32 → Option (Int32 × yS)
  | 0, _, _, _, _, _, _, _, _, _ => none
  | n + 1, N, k97, S, p0, l4, l5, l6, l7, l9 => if (S.1 p0 18) ≤ l9 then gA 41 l6 fun j1 => sq (yJ S 0 4 (vp_updL (S.2.2 0 4) j1 l7)) fun S1 => k97 S1 p0 l4 l5 (l6 + 1) else gA 8 (2 * l9) fun j2 => if ¬ (S.2.1 p0 19 j2) = l6 then f_X6_weigh_168 N k97 (fun S p0 l4 l5 l6 l7 l9 => f_X6_weigh_122 n N k97 S p0 l4 l5 l6 l7 l9) S p0 l4 l5 l6 l9 l7 100 else gA 8 ((2 * l9) + 1) fun j3 => f_X6_weigh_168 N k97 (fun S p0 l4 l5 l6 l7 l9 => f_X6_weigh_122 n N k97 S p0 l4 l5 l6 l7 l9) S p0 l4 l5 l6 l9 l7 ((100 - (S.2.1 p0 19 j3)).toInt64)
set_option maxHeartbeats 4000000 in
set_option maxRecDepth 40000 in
theorem w_X6_weigh_122 {F : xH} {ev : xEv} {prim : xRel} {d sz : Nat} {T : yT} {v : Int32} {S' : yS} (N : Nat) (n : Nat) (k97 : yS → Nat → Int32 → Int32 → Int32 → Option (Int32 × yS)) (u97 : ∀ (S : yS) (p0 : Nat) (l4 : Int32) (l5 : Int32) (l6 : Int32) (hp : xH) (lv : xLv) (a0 : Nat) (a3 : Nat) (fa0 : yAt T 6 p0 0 a0) (fa3 : yAt T 11 0 5 a3) (g0 : xG lv 0 = some (.ref a0)) (g3 : xG lv 3 = some (.ref a3)) (g4 : xG lv 4 = some (.int l4)) (g5 : xG lv 5 = some (.int l5)) (g6 : xG lv 6 = some (.int l6)) (hM : cR [0, 1, 2, 3, 4, 5, 6, 7] F ev T S hp) (h : k97 S p0 l4 l5 l6 = some (v, S')), yWE ev.2.1 (xstr ev) (xCalls ev xmi (xprog ev) prim (d + 1)) (pX6_weigh ev) (97, lv, [], hp, sz, 0) (ypQ [0, 1, 2, 3, 4, 5, 6, 7] F ev T sz (none) S')) : ∀ (S : yS) (p0 : Nat) (l4 : Int32) (l5 : Int32) (l6 : Int32) (l7 : Int64) (l9 : Int32) (hp : xH) (lv : xLv) (a0 : Nat) (a3 : Nat) (fa0 : yAt T 6 p0 0 a0) (fa3 : yAt T 11 0 5 a3) (g0 : xG lv 0 = some (.ref a0)) (g3 : xG lv 3 = some (.ref a3)) (g4 : xG lv 4 = some (.int l4)) (g5 : xG lv 5 = some (.int l5)) (g6 : xG lv 6 = some (.int l6)) (g7 : xG lv 7 = some (.long l7)) (g9 : xG lv 9 = some (.int l9)) (hM : cR [0, 1, 2, 3, 4, 5, 6, 7] F ev T S hp) (h : f_X6_weigh_122 n N k97 S p0 l4 l5 l6 l7 l9 = some (v, S')), yWE ev.2.1 (xstr ev) (xCalls ev xmi (xprog ev) prim (d + 1)) (pX6_weigh ev) (122, lv, [], hp, sz, 0) (ypQ [0, 1, 2, 3, 4, 5, 6, 7] F ev T sz (none) S') := by
  induction n with
  | zero => intro S p0 l4 l5 l6 l7 l9 hp lv a0 a3 fa0 fa3 g0 g3 g4 g5 g6 g7 g9 hM h; exact n_some h
  | succ n ih =>
    intro S p0 l4 l5 l6 l7 l9 hp lv a0 a3 fa0 fa3 g0 g3 g4 g5 g6 g7 g9 hM h
    unfold f_X6_weigh_122 at h
    refine ye_iload rfl g9 ?_
    refine ye_aload rfl g0 ?_
    refine ye_getf rfl (hM.obj fa0 ⟨rfl, rfl⟩) rfl ?_
    refine ye_icmp_ge rfl (fun h1 => ?_) (fun h1 => ?_)
    · replace h := yiT h1 h
      refine ye_aload rfl g3 ?_
      refine ye_iload rfl g6 ?_
      refine ye_lload rfl g7 ?_
      obtain ⟨j1, ej1, ij1, h⟩ := gA_some h
      obtain ⟨S1, eS1, h⟩ := sq_some h
      refine yw_last rfl hM fa3 yr_11_4 ij1 ej1 eS1 (fun y1 M1 => ?_)
      refine ye_iinc rfl g6 ?_
      have g0_z1 := xG_o1 (i := 6) (v := .int (l6 + 1)) g0 rfl
      have g3_z1 := xG_o1 (i := 6) (v := .int (l6 + 1)) g3 rfl
      have g4_z1 := xG_o1 (i := 6) (v := .int (l6 + 1)) g4 rfl
      have g5_z1 := xG_o1 (i := 6) (v := .int (l6 + 1)) g5 rfl
      have g6_z1 := xG_same lv 6 (.int (l6 + 1))
      generalize xSt1 lv 6 (.int (l6 + 1)) = lvz1 at g0_z1 g3_z1 g4_z1 g5_z1 g6_z1 ⊢
      refine ye_p rfl rfl ?_
      exact u97 S1 p0 l4 l5 (l6 + 1) y1 lvz1 a0 a3 fa0 fa3 g0_z1 g3_z1 g4_z1 g5_z1 g6_z1 M1 h
    · replace h := yiN h1 h
      refine ye_lload rfl g7 ?_
      refine ye_aload rfl g0 ?_
      refine ye_getr rfl (hM.obj fa0 ⟨rfl, rfl⟩) rfl (fun cx1 ecx1 => ?_)
      have fcx1 := yAt.row fa0 ecx1
      refine ye_p rfl rfl ?_
      refine ye_iload rfl g9 ?_
      refine ye_p rfl rfl ?_
      obtain ⟨j2, ej2, ij2, h⟩ := gA_some h
      refine yj_ald rfl (hM.arr fcx1 yr_6_19) ij2 ej2 ?_
      refine ye_iload rfl g6 ?_
      refine ye_icmp_ne rfl (fun h2 => ?_) (fun h2 => ?_)
      · replace h := yiT h2 h
        refine ye_p rfl rfl ?_
        exact w_X6_weigh_168 (prim := prim) (d := d) N k97 (fun S p0 l4 l5 l6 l7 l9 => f_X6_weigh_122 n N k97 S p0 l4 l5 l6 l7 l9) u97 ih S p0 l4 l5 l6 l9 l7 100 hp lv a0 a3 fa0 fa3 g0 g3 g4 g5 g6 g9 hM h
      · replace h := yiN h2 h
        refine ye_p rfl rfl ?_
        refine ye_aload rfl g0 ?_
        refine ye_getr rfl (hM.obj fa0 ⟨rfl, rfl⟩) rfl (fun cx2 ecx2 => ?_)
        have fcx2 := yAt.row fa0 ecx2
        refine ye_p rfl rfl ?_
        refine ye_iload rfl g9 ?_
        refine ye_p rfl rfl ?_
        refine ye_p rfl rfl ?_
        refine ye_p rfl rfl ?_
        obtain ⟨j3, ej3, ij3, h⟩ := gA_some h
        refine yj_ald rfl (hM.arr fcx2 yr_6_19) ij3 ej3 ?_
        refine ye_p rfl rfl ?_
        refine ye_p rfl rfl ?_
        refine ye_p rfl rfl ?_
        exact w_X6_weigh_168 (prim := prim) (d := d) N k97 (fun S p0 l4 l5 l6 l7 l9 => f_X6_weigh_122 n N k97 S p0 l4 l5 l6 l7 l9) u97 ih S p0 l4 l5 l6 l9 l7 ((100 - (S.2.1 p0 19 j3)).toInt64) hp lv a0 a3 fa0 fa3 g0 g3 g4 g5 g6 g9 hM h

def f_X6_weigh_117 (N : Nat) (k97 : yS → Nat → Int32 → Int32 → Int32 → Option (Int32 × yS)) (S : yS) (p0 : Nat) (l4 : Int32) (l5 : Int32) (l6 : Int32) (t0 : Int64) : Option (Int32 × yS) := f_X6_weigh_122 N N k97 S p0 l4 l5 l6 t0 0
set_option maxHeartbeats 4000000 in
set_option maxRecDepth 40000 in
theorem w_X6_weigh_117 {F : xH} {ev : xEv} {prim : xRel} {d sz : Nat} {T : yT} {v : Int32} {S' : yS} (N : Nat) (k97 : yS → Nat → Int32 → Int32 → Int32 → Option (Int32 × yS)) (u97 : ∀ (S : yS) (p0 : Nat) (l4 : Int32) (l5 : Int32) (l6 : Int32) (hp : xH) (lv : xLv) (a0 : Nat) (a3 : Nat) (fa0 : yAt T 6 p0 0 a0) (fa3 : yAt T 11 0 5 a3) (g0 : xG lv 0 = some (.ref a0)) (g3 : xG lv 3 = some (.ref a3)) (g4 : xG lv 4 = some (.int l4)) (g5 : xG lv 5 = some (.int l5)) (g6 : xG lv 6 = some (.int l6)) (hM : cR [0, 1, 2, 3, 4, 5, 6, 7] F ev T S hp) (h : k97 S p0 l4 l5 l6 = some (v, S')), yWE ev.2.1 (xstr ev) (xCalls ev xmi (xprog ev) prim (d + 1)) (pX6_weigh ev) (97, lv, [], hp, sz, 0) (ypQ [0, 1, 2, 3, 4, 5, 6, 7] F ev T sz (none) S')) (S : yS) (p0 : Nat) (l4 : Int32) (l5 : Int32) (l6 : Int32) (t0 : Int64) (hp : xH) (lv : xLv) (a0 : Nat) (a3 : Nat) (fa0 : yAt T 6 p0 0 a0) (fa3 : yAt T 11 0 5 a3) (g0 : xG lv 0 = some (.ref a0)) (g3 : xG lv 3 = some (.ref a3)) (g4 : xG lv 4 = some (.int l4)) (g5 : xG lv 5 = some (.int l5)) (g6 : xG lv 6 = some (.int l6)) (hM : cR [0, 1, 2, 3, 4, 5, 6, 7] F ev T S hp) (h : f_X6_weigh_117 N k97 S p0 l4 l5 l6 t0 = some (v, S')) : yWE ev.2.1 (xstr ev) (xCalls ev xmi (xprog ev) prim (d + 1)) (pX6_weigh ev) (117, lv, [.long t0], hp, sz, 0) (ypQ [0, 1, 2, 3, 4, 5, 6, 7] F ev T sz (none) S') := by
  unfold f_X6_weigh_117 at h
  refine ye_p rfl rfl ?_
  have g0_z1 := xG_o2 (i := 7) (v := .long t0) g0 rfl
  have g3_z1 := xG_o2 (i := 7) (v := .long t0) g3 rfl
  have g4_z1 := xG_o2 (i := 7) (v := .long t0) g4 rfl
  have g5_z1 := xG_o2 (i := 7) (v := .long t0) g5 rfl
  have g6_z1 := xG_o2 (i := 7) (v := .long t0) g6 rfl
  have g7_z1 := xG_same2 lv 7 (.long t0)
  generalize xSt2 lv 7 (.long t0) = lvz1 at g0_z1 g3_z1 g4_z1 g5_z1 g6_z1 g7_z1 ⊢
  refine ye_p rfl rfl ?_
  refine ye_p rfl rfl ?_
  have g0_z2 := xG_o1 (i := 9) (v := .int 0) g0_z1 rfl
  have g3_z2 := xG_o1 (i := 9) (v := .int 0) g3_z1 rfl
  have g4_z2 := xG_o1 (i := 9) (v := .int 0) g4_z1 rfl
  have g5_z2 := xG_o1 (i := 9) (v := .int 0) g5_z1 rfl
  have g6_z2 := xG_o1 (i := 9) (v := .int 0) g6_z1 rfl
  have g7_z2 := xG_o1 (i := 9) (v := .int 0) g7_z1 rfl
  have g9_z2 := xG_same lvz1 9 (.int 0)
  generalize xSt1 lvz1 9 (.int 0) = lvz2 at g0_z2 g3_z2 g4_z2 g5_z2 g6_z2 g7_z2 g9_z2 ⊢
  exact w_X6_weigh_122 (prim := prim) (d := d) N N k97 u97 S p0 l4 l5 l6 t0 0 hp lvz2 a0 a3 fa0 fa3 g0_z2 g3_z2 g4_z2 g5_z2 g6_z2 g7_z2 g9_z2 hM h

def f_X6_weigh_97 : Nat → Nat → yS → Nat → Int32 → Int32 → Int32 → Option (Int32 × yS)
  | 0, _, _, _, _, _, _ => none
  | n + 1, N, S, p0, l4, l5, l6 => if l4 ≤ l6 then some (0, S) else if l5 = 0 then f_X6_weigh_117 N (fun S p0 l4 l5 l6 => f_X6_weigh_97 n N S p0 l4 l5 l6) S p0 l4 l5 l6 1 else gA 41 l6 fun j1 => f_X6_weigh_117 N (fun S p0 l4 l5 l6 => f_X6_weigh_97 n N S p0 l4 l5 l6) S p0 l4 l5 l6 (S.2.2 0 4 j1)
set_option maxHeartbeats 4000000 in
set_option maxRecDepth 40000 in
theorem w_X6_weigh_97 {F : xH} {ev : xEv} {prim : xRel} {d sz : Nat} {T : yT} {v : Int32} {S' : yS} (N : Nat) (n : Nat) : ∀ (S : yS) (p0 : Nat) (l4 : Int32) (l5 : Int32) (l6 : Int32) (hp : xH) (lv : xLv) (a0 : Nat) (a3 : Nat) (fa0 : yAt T 6 p0 0 a0) (fa3 : yAt T 11 0 5 a3) (g0 : xG lv 0 = some (.ref a0)) (g3 : xG lv 3 = some (.ref a3)) (g4 : xG lv 4 = some (.int l4)) (g5 : xG lv 5 = some (.int l5)) (g6 : xG lv 6 = some (.int l6)) (hM : cR [0, 1, 2, 3, 4, 5, 6, 7] F ev T S hp) (h : f_X6_weigh_97 n N S p0 l4 l5 l6 = some (v, S')), yWE ev.2.1 (xstr ev) (xCalls ev xmi (xprog ev) prim (d + 1)) (pX6_weigh ev) (97, lv, [], hp, sz, 0) (ypQ [0, 1, 2, 3, 4, 5, 6, 7] F ev T sz (none) S') := by
  induction n with
  | zero => intro S p0 l4 l5 l6 hp lv a0 a3 fa0 fa3 g0 g3 g4 g5 g6 hM h; exact n_some h
  | succ n ih =>
    intro S p0 l4 l5 l6 hp lv a0 a3 fa0 fa3 g0 g3 g4 g5 g6 hM h
    unfold f_X6_weigh_97 at h
    refine ye_iload rfl g6 ?_
    refine ye_iload rfl g4 ?_
    refine ye_icmp_ge rfl (fun h1 => ?_) (fun h1 => ?_)
    · replace h := yiT h1 h
      exact ye_ret rfl rfl (rQV h hM)
    · replace h := yiN h1 h
      refine ye_iload rfl g5 ?_
      refine ye_if_eq rfl (fun h2 => ?_) (fun h2 => ?_)
      · replace h := yiT h2 h
        refine ye_p rfl rfl ?_
        exact w_X6_weigh_117 (prim := prim) (d := d) N (fun S p0 l4 l5 l6 => f_X6_weigh_97 n N S p0 l4 l5 l6) ih S p0 l4 l5 l6 1 hp lv a0 a3 fa0 fa3 g0 g3 g4 g5 g6 hM h
      · replace h := yiN h2 h
        refine ye_aload rfl g3 ?_
        refine ye_iload rfl g6 ?_
        obtain ⟨j1, ej1, ij1, h⟩ := gA_some h
        refine yj_lald rfl (hM.arr fa3 yr_11_4) ij1 ej1 ?_
        refine ye_p rfl rfl ?_
        exact w_X6_weigh_117 (prim := prim) (d := d) N (fun S p0 l4 l5 l6 => f_X6_weigh_97 n N S p0 l4 l5 l6) ih S p0 l4 l5 l6 (S.2.2 0 4 j1) hp lv a0 a3 fa0 fa3 g0 g3 g4 g5 g6 hM h

def f_X6_weigh_94 (N : Nat) (S : yS) (p0 : Nat) (l4 : Int32) (l5 : Int32) : Option (Int32 × yS) := f_X6_weigh_97 N N S p0 l4 l5 0
set_option maxHeartbeats 4000000 in
set_option maxRecDepth 40000 in
theorem w_X6_weigh_94 {F : xH} {ev : xEv} {prim : xRel} {d sz : Nat} {T : yT} {v : Int32} {S' : yS} (N : Nat) (S : yS) (p0 : Nat) (l4 : Int32) (l5 : Int32) (hp : xH) (lv : xLv) (a0 : Nat) (a3 : Nat) (fa0 : yAt T 6 p0 0 a0) (fa3 : yAt T 11 0 5 a3) (g0 : xG lv 0 = some (.ref a0)) (g3 : xG lv 3 = some (.ref a3)) (g4 : xG lv 4 = some (.int l4)) (g5 : xG lv 5 = some (.int l5)) (hM : cR [0, 1, 2, 3, 4, 5, 6, 7] F ev T S hp) (h : f_X6_weigh_94 N S p0 l4 l5 = some (v, S')) : yWE ev.2.1 (xstr ev) (xCalls ev xmi (xprog ev) prim (d + 1)) (pX6_weigh ev) (94, lv, [], hp, sz, 0) (ypQ [0, 1, 2, 3, 4, 5, 6, 7] F ev T sz (none) S') := by
  unfold f_X6_weigh_94 at h
  refine ye_p rfl rfl ?_
  refine ye_p rfl rfl ?_
  have g0_z1 := xG_o1 (i := 6) (v := .int 0) g0 rfl
  have g3_z1 := xG_o1 (i := 6) (v := .int 0) g3 rfl
  have g4_z1 := xG_o1 (i := 6) (v := .int 0) g4 rfl
  have g5_z1 := xG_o1 (i := 6) (v := .int 0) g5 rfl
  have g6_z1 := xG_same lv 6 (.int 0)
  generalize xSt1 lv 6 (.int 0) = lvz1 at g0_z1 g3_z1 g4_z1 g5_z1 g6_z1 ⊢
  exact w_X6_weigh_97 (prim := prim) (d := d) N N S p0 l4 l5 0 hp lvz1 a0 a3 fa0 fa3 g0_z1 g3_z1 g4_z1 g5_z1 g6_z1 hM h

def f_X6_weigh_22 : Nat → Nat → yS → Nat → Nat → Int32 → Int32 → Int32 → Int32 → Option (Int32 × yS)
  | 0, _, _, _, _, _, _, _, _ => none
  | n + 1, N, S, p0, p1, l2, l4, l5, l6 => if (S.1 p0 3) < l6 then f_X6_weigh_94 N S p0 l4 l5 else if (S.1 p1 2) ≤ ((S.1 p0 0) * l6) then f_X6_weigh_94 N S p0 l4 l5 else if l2 = 0 then f_X6_weigh_72 N (fun S p0 p1 l2 l4 l5 l6 => f_X6_weigh_22 n N S p0 p1 l2 l4 l5 l6) S p0 p1 l2 l4 l6 p1 ((S.1 p1 2) - ((S.1 p0 0) * l6)) else f_X6_weigh_72 N (fun S p0 p1 l2 l4 l5 l6 => f_X6_weigh_22 n N S p0 p1 l2 l4 l5 l6) S p0 p1 l2 l4 l6 p1 ((S.1 p0 0) * l6)
set_option maxHeartbeats 4000000 in
set_option maxRecDepth 40000 in
theorem w_X6_weigh_22 {F : xH} {ev : xEv} {prim : xRel} {d sz : Nat} {T : yT} {v : Int32} {S' : yS} (N : Nat) (n : Nat) : ∀ (S : yS) (p0 : Nat) (p1 : Nat) (l2 : Int32) (l4 : Int32) (l5 : Int32) (l6 : Int32) (hp : xH) (lv : xLv) (a0 : Nat) (a1 : Nat) (a3 : Nat) (fa0 : yAt T 6 p0 0 a0) (fa1 : yAt T 3 p1 0 a1) (fa3 : yAt T 11 0 5 a3) (g0 : xG lv 0 = some (.ref a0)) (g1 : xG lv 1 = some (.ref a1)) (g2 : xG lv 2 = some (.int l2)) (g3 : xG lv 3 = some (.ref a3)) (g4 : xG lv 4 = some (.int l4)) (g5 : xG lv 5 = some (.int l5)) (g6 : xG lv 6 = some (.int l6)) (hM : cR [0, 1, 2, 3, 4, 5, 6, 7] F ev T S hp) (h : f_X6_weigh_22 n N S p0 p1 l2 l4 l5 l6 = some (v, S')), yWE ev.2.1 (xstr ev) (xCalls ev xmi (xprog ev) prim (d + 1)) (pX6_weigh ev) (22, lv, [], hp, sz, 0) (ypQ [0, 1, 2, 3, 4, 5, 6, 7] F ev T sz (none) S') := by
  induction n with
  | zero => intro S p0 p1 l2 l4 l5 l6 hp lv a0 a1 a3 fa0 fa1 fa3 g0 g1 g2 g3 g4 g5 g6 hM h; exact n_some h
  | succ n ih =>
    intro S p0 p1 l2 l4 l5 l6 hp lv a0 a1 a3 fa0 fa1 fa3 g0 g1 g2 g3 g4 g5 g6 hM h
    unfold f_X6_weigh_22 at h
    refine ye_iload rfl g6 ?_
    refine ye_aload rfl g0 ?_
    refine ye_getf rfl (hM.obj fa0 ⟨rfl, rfl⟩) rfl ?_
    refine ye_icmp_gt rfl (fun h1 => ?_) (fun h1 => ?_)
    · replace h := yiT h1 h
      exact w_X6_weigh_94 (prim := prim) (d := d) N S p0 l4 l5 hp lv a0 a3 fa0 fa3 g0 g3 g4 g5 hM h
    · replace h := yiN h1 h
      refine ye_aload rfl g0 ?_
      refine ye_getf rfl (hM.obj fa0 ⟨rfl, rfl⟩) rfl ?_
      refine ye_iload rfl g6 ?_
      refine ye_p rfl rfl ?_
      refine ye_aload rfl g1 ?_
      refine ye_getf rfl (hM.obj fa1 ⟨rfl, rfl⟩) rfl ?_
      refine ye_icmp_ge rfl (fun h2 => ?_) (fun h2 => ?_)
      · replace h := yiT h2 h
        exact w_X6_weigh_94 (prim := prim) (d := d) N S p0 l4 l5 hp lv a0 a3 fa0 fa3 g0 g3 g4 g5 hM h
      · replace h := yiN h2 h
        refine ye_aload rfl g1 ?_
        refine ye_iload rfl g2 ?_
        refine ye_if_eq rfl (fun h3 => ?_) (fun h3 => ?_)
        · replace h := yiT h3 h
          refine ye_aload rfl g1 ?_
          refine ye_getf rfl (hM.obj fa1 ⟨rfl, rfl⟩) rfl ?_
          refine ye_aload rfl g0 ?_
          refine ye_getf rfl (hM.obj fa0 ⟨rfl, rfl⟩) rfl ?_
          refine ye_iload rfl g6 ?_
          refine ye_p rfl rfl ?_
          refine ye_p rfl rfl ?_
          exact w_X6_weigh_72 (prim := prim) (d := d) N (fun S p0 p1 l2 l4 l5 l6 => f_X6_weigh_22 n N S p0 p1 l2 l4 l5 l6) ih S p0 p1 l2 l4 l6 p1 ((S.1 p1 2) - ((S.1 p0 0) * l6)) hp lv a0 a1 a3 a1 fa0 fa1 fa3 fa1 g0 g1 g2 g3 g4 g6 hM h
        · replace h := yiN h3 h
          refine ye_aload rfl g0 ?_
          refine ye_getf rfl (hM.obj fa0 ⟨rfl, rfl⟩) rfl ?_
          refine ye_iload rfl g6 ?_
          refine ye_p rfl rfl ?_
          refine ye_p rfl rfl ?_
          exact w_X6_weigh_72 (prim := prim) (d := d) N (fun S p0 p1 l2 l4 l5 l6 => f_X6_weigh_22 n N S p0 p1 l2 l4 l5 l6) ih S p0 p1 l2 l4 l6 p1 ((S.1 p0 0) * l6) hp lv a0 a1 a3 a1 fa0 fa1 fa3 fa1 g0 g1 g2 g3 g4 g6 hM h

def f_X6_weigh_0 (N : Nat) (S : yS) (p0 : Nat) (p1 : Nat) (l2 : Int32) : Option (Int32 × yS) := bV (f_X3_cellCount N S p1) fun w1 => sq (yJ S 0 4 (fun i => if i < 41 then 0 else S.2.2 0 4 i)) fun S1 => f_X6_weigh_22 N N S1 p0 p1 l2 (if (Int32.ofNat 41) < w1 then (Int32.ofNat 41) else w1) 0 1
set_option maxHeartbeats 4000000 in
set_option maxRecDepth 40000 in
theorem w_X6_weigh_0 {F : xH} {ev : xEv} {prim : xRel} {d sz : Nat} {T : yT} {v : Int32} {S' : yS} (N : Nat) (S : yS) (p0 : Nat) (p1 : Nat) (l2 : Int32) (hp : xH) (lv : xLv) (a0 : Nat) (a1 : Nat) (a3 : Nat) (fa0 : yAt T 6 p0 0 a0) (fa1 : yAt T 3 p1 0 a1) (fa3 : yAt T 11 0 5 a3) (g0 : xG lv 0 = some (.ref a0)) (g1 : xG lv 1 = some (.ref a1)) (g2 : xG lv 2 = some (.int l2)) (g3 : xG lv 3 = some (.ref a3)) (hM : cR [0, 1, 2, 3, 4, 5, 6, 7] F ev T S hp) (h : f_X6_weigh_0 N S p0 p1 l2 = some (v, S')) : yWE ev.2.1 (xstr ev) (xCalls ev xmi (xprog ev) prim (d + 1)) (pX6_weigh ev) (0, lv, [], hp, sz, 0) (ypQ [0, 1, 2, 3, 4, 5, 6, 7] F ev T sz (none) S') := by
  unfold f_X6_weigh_0 at h
  refine ye_aload rfl g1 ?_
  obtain ⟨w1, hw1, h⟩ := bV_some h
  refine ye_callV (As := []) (rest := []) 0 (Or.inl rfl) rfl rfl rfl (Nat.le_of_ble_eq_true rfl) (hM.obj fa1 ⟨rfl, rfl⟩) ((m_X3_cellCount (d := d + 0) (T := T) N S p1 a1 fa1 hw1) hp sz hM) ?_
  refine ye_aload rfl g3 ?_
  refine ye_alen rfl (hM.arr fa3 yr_11_4) ?_
  refine ye_p rfl rfl ?_
  refine ye_p rfl rfl ?_
  have g0_z1 := xG_o1 (i := 4) (v := .int (if (Int32.ofNat 41) < w1 then (Int32.ofNat 41) else w1)) g0 rfl
  have g1_z1 := xG_o1 (i := 4) (v := .int (if (Int32.ofNat 41) < w1 then (Int32.ofNat 41) else w1)) g1 rfl
  have g2_z1 := xG_o1 (i := 4) (v := .int (if (Int32.ofNat 41) < w1 then (Int32.ofNat 41) else w1)) g2 rfl
  have g3_z1 := xG_o1 (i := 4) (v := .int (if (Int32.ofNat 41) < w1 then (Int32.ofNat 41) else w1)) g3 rfl
  have g4_z1 := xG_same lv 4 (.int (if (Int32.ofNat 41) < w1 then (Int32.ofNat 41) else w1))
  generalize xSt1 lv 4 (.int (if (Int32.ofNat 41) < w1 then (Int32.ofNat 41) else w1)) = lvz1 at g0_z1 g1_z1 g2_z1 g3_z1 g4_z1 ⊢
  refine ye_aload rfl g3_z1 ?_
  refine ye_p rfl rfl ?_
  obtain ⟨S1, eS1, h⟩ := sq_some h
  obtain ⟨y1, cy1, M1⟩ := y_fill (prim := prim) (d := d + 0) fa3 yr_11_4 (by decide) 0 hp sz hM
  rw [← eS1] at M1
  refine ye_callS (As := [.ref a3, .long 0]) (rest := []) 1 (Or.inl rfl) rfl rfl rfl (Nat.le_of_ble_eq_true rfl) cy1 ?_
  refine ye_p rfl rfl ?_
  refine ye_p rfl rfl ?_
  have g0_z2 := xG_o1 (i := 5) (v := .int 0) g0_z1 rfl
  have g1_z2 := xG_o1 (i := 5) (v := .int 0) g1_z1 rfl
  have g2_z2 := xG_o1 (i := 5) (v := .int 0) g2_z1 rfl
  have g3_z2 := xG_o1 (i := 5) (v := .int 0) g3_z1 rfl
  have g4_z2 := xG_o1 (i := 5) (v := .int 0) g4_z1 rfl
  have g5_z2 := xG_same lvz1 5 (.int 0)
  generalize xSt1 lvz1 5 (.int 0) = lvz2 at g0_z2 g1_z2 g2_z2 g3_z2 g4_z2 g5_z2 ⊢
  refine ye_p rfl rfl ?_
  refine ye_p rfl rfl ?_
  have g0_z3 := xG_o1 (i := 6) (v := .int 1) g0_z2 rfl
  have g1_z3 := xG_o1 (i := 6) (v := .int 1) g1_z2 rfl
  have g2_z3 := xG_o1 (i := 6) (v := .int 1) g2_z2 rfl
  have g3_z3 := xG_o1 (i := 6) (v := .int 1) g3_z2 rfl
  have g4_z3 := xG_o1 (i := 6) (v := .int 1) g4_z2 rfl
  have g5_z3 := xG_o1 (i := 6) (v := .int 1) g5_z2 rfl
  have g6_z3 := xG_same lvz2 6 (.int 1)
  generalize xSt1 lvz2 6 (.int 1) = lvz3 at g0_z3 g1_z3 g2_z3 g3_z3 g4_z3 g5_z3 g6_z3 ⊢
  exact w_X6_weigh_22 (prim := prim) (d := d) N N S1 p0 p1 l2 (if (Int32.ofNat 41) < w1 then (Int32.ofNat 41) else w1) 0 1 y1 lvz3 a0 a1 a3 fa0 fa1 fa3 g0_z3 g1_z3 g2_z3 g3_z3 g4_z3 g5_z3 g6_z3 M1 h
def f_X6_weigh (N : Nat) (S : yS) (xp0 : Nat) (xp1 : Nat) (xl2 : Int32) : Option (Int32 × yS) := f_X6_weigh_0 N S xp0 xp1 xl2
theorem m_X6_weigh {F : xH} {ev : xEv} {prim : xRel} {d : Nat} {T : yT} {v : Int32} {S' : yS} (N : Nat) (S : yS) (xp0 : Nat) (xp1 : Nat) (xl2 : Int32) (a0 : Nat) (a1 : Nat) (a3 : Nat) (fa0 : yAt T 6 xp0 0 a0) (fa1 : yAt T 3 xp1 0 a1) (fa3 : yAt T 11 0 5 a3) (h : f_X6_weigh N S xp0 xp1 xl2 = some (v, S')) : ykQ [0, 1, 2, 3, 4, 5, 6, 7] F ev prim (d + 2) 73 T S [.ref a0, .ref a1, .int xl2, .ref a3] (none) S' :=
  ykQ.of (pg_73 ev) mi_73 (Nat.le_of_ble_eq_true rfl) (fun hp sz hM => w_X6_weigh_0 (prim := prim) (d := d) N S xp0 xp1 xl2 hp _ a0 a1 a3 fa0 fa1 fa3 rfl rfl rfl rfl hM h)

def f_X6_copy_0 (N : Nat) (S : yS) (p0 : Nat) (p1 : Nat) : Option (Int32 × yS) := sq (yI S p1 5 (S.1 p0 5)) fun S1 => sq (yI S1 p1 7 (S1.1 p0 7)) fun S2 => sq (yI S2 p1 8 (S2.1 p0 8)) fun S3 => sq (yI S3 p1 9 (S3.1 p0 9)) fun S4 => sq (yI S4 p1 10 (S4.1 p0 10)) fun S5 => gP (S5.1 p0 11 = 0 ∨ S5.1 p0 11 = 1) (sq (yI S5 p1 11 (S5.1 p0 11)) fun S6 => gP (S6.1 p0 12 = 0 ∨ S6.1 p0 12 = 1) (sq (yI S6 p1 12 (S6.1 p0 12)) fun S7 => sq (yI S7 p1 13 (S7.1 p0 13)) fun S8 => sq (yI S8 p1 14 (S8.1 p0 14)) fun S9 => sq (yI S9 p1 15 (S9.1 p0 15)) fun S10 => sq (yI S10 p1 16 (S10.1 p0 16)) fun S11 => sq (yI S11 p1 17 (S11.1 p0 17)) fun S12 => some (0, S12)))
set_option maxHeartbeats 4000000 in
set_option maxRecDepth 40000 in
theorem w_X6_copy_0 {F : xH} {ev : xEv} {prim : xRel} {d sz : Nat} {T : yT} {v : Int32} {S' : yS} (N : Nat) (S : yS) (p0 : Nat) (p1 : Nat) (hp : xH) (lv : xLv) (a0 : Nat) (a1 : Nat) (fa0 : yAt T 6 p0 0 a0) (fa1 : yAt T 6 p1 0 a1) (g0 : xG lv 0 = some (.ref a0)) (g1 : xG lv 1 = some (.ref a1)) (hM : cR [0, 1, 2, 3, 4, 5, 6, 7] F ev T S hp) (h : f_X6_copy_0 N S p0 p1 = some (v, S')) : yWE ev.2.1 (xstr ev) (xCalls ev xmi (xprog ev) prim (d + 0)) (pX6_copy ev) (0, lv, [], hp, sz, 0) (ypQ [0, 1, 2, 3, 4, 5, 6, 7] F ev T sz (none) S') := by
  unfold f_X6_copy_0 at h
  refine ye_aload rfl g1 ?_
  refine ye_aload rfl g0 ?_
  refine ye_getf rfl (hM.obj fa0 ⟨rfl, rfl⟩) rfl ?_
  obtain ⟨S1, eS1, h⟩ := sq_some h
  refine yw_putI rfl hM fa1 rfl ⟨rfl, rfl⟩ (Nat.le_of_ble_eq_true rfl) rfl rfl (ys_6_5 ev T _ (S.1 p0 5)) (fun q => absurd q (by decide)) eS1 (fun y1 M1 => ?_)
  refine ye_aload rfl g1 ?_
  refine ye_aload rfl g0 ?_
  refine ye_getf rfl (M1.obj fa0 ⟨rfl, rfl⟩) rfl ?_
  obtain ⟨S2, eS2, h⟩ := sq_some h
  refine yw_putI rfl M1 fa1 rfl ⟨rfl, rfl⟩ (Nat.le_of_ble_eq_true rfl) rfl rfl (ys_6_7 ev T _ (S1.1 p0 7)) (fun q => absurd q (by decide)) eS2 (fun y2 M2 => ?_)
  refine ye_aload rfl g1 ?_
  refine ye_aload rfl g0 ?_
  refine ye_getf rfl (M2.obj fa0 ⟨rfl, rfl⟩) rfl ?_
  obtain ⟨S3, eS3, h⟩ := sq_some h
  refine yw_putI rfl M2 fa1 rfl ⟨rfl, rfl⟩ (Nat.le_of_ble_eq_true rfl) rfl rfl (ys_6_8 ev T _ (S2.1 p0 8)) (fun q => absurd q (by decide)) eS3 (fun y3 M3 => ?_)
  refine ye_aload rfl g1 ?_
  refine ye_aload rfl g0 ?_
  refine ye_getf rfl (M3.obj fa0 ⟨rfl, rfl⟩) rfl ?_
  obtain ⟨S4, eS4, h⟩ := sq_some h
  refine yw_putI rfl M3 fa1 rfl ⟨rfl, rfl⟩ (Nat.le_of_ble_eq_true rfl) rfl rfl (ys_6_9 ev T _ (S3.1 p0 9)) (fun q => absurd q (by decide)) eS4 (fun y4 M4 => ?_)
  refine ye_aload rfl g1 ?_
  refine ye_aload rfl g0 ?_
  refine ye_getf rfl (M4.obj fa0 ⟨rfl, rfl⟩) rfl ?_
  obtain ⟨S5, eS5, h⟩ := sq_some h
  refine yw_putI rfl M4 fa1 rfl ⟨rfl, rfl⟩ (Nat.le_of_ble_eq_true rfl) rfl rfl (ys_6_10 ev T _ (S4.1 p0 10)) (fun q => absurd q (by decide)) eS5 (fun y5 M5 => ?_)
  refine ye_aload rfl g1 ?_
  refine ye_aload rfl g0 ?_
  refine ye_getf rfl (M5.obj fa0 ⟨rfl, rfl⟩) rfl ?_
  obtain ⟨i1, h⟩ := gP_some h
  obtain ⟨S6, eS6, h⟩ := sq_some h
  refine yw_putI rfl M5 fa1 rfl ⟨rfl, rfl⟩ (Nat.le_of_ble_eq_true rfl) (zb_fit i1) (zb_nar i1) (ys_6_11 ev T _ (S5.1 p0 11)) (fun q => absurd q (by decide)) eS6 (fun y6 M6 => ?_)
  refine ye_aload rfl g1 ?_
  refine ye_aload rfl g0 ?_
  refine ye_getf rfl (M6.obj fa0 ⟨rfl, rfl⟩) rfl ?_
  obtain ⟨i2, h⟩ := gP_some h
  obtain ⟨S7, eS7, h⟩ := sq_some h
  refine yw_putI rfl M6 fa1 rfl ⟨rfl, rfl⟩ (Nat.le_of_ble_eq_true rfl) (zb_fit i2) (zb_nar i2) (ys_6_12 ev T _ (S6.1 p0 12)) (fun q => absurd q (by decide)) eS7 (fun y7 M7 => ?_)
  refine ye_aload rfl g1 ?_
  refine ye_aload rfl g0 ?_
  refine ye_getf rfl (M7.obj fa0 ⟨rfl, rfl⟩) rfl ?_
  obtain ⟨S8, eS8, h⟩ := sq_some h
  refine yw_putI rfl M7 fa1 rfl ⟨rfl, rfl⟩ (Nat.le_of_ble_eq_true rfl) rfl rfl (ys_6_13 ev T _ (S7.1 p0 13)) (fun q => absurd q (by decide)) eS8 (fun y8 M8 => ?_)
  refine ye_aload rfl g1 ?_
  refine ye_aload rfl g0 ?_
  refine ye_getf rfl (M8.obj fa0 ⟨rfl, rfl⟩) rfl ?_
  obtain ⟨S9, eS9, h⟩ := sq_some h
  refine yw_putI rfl M8 fa1 rfl ⟨rfl, rfl⟩ (Nat.le_of_ble_eq_true rfl) rfl rfl (ys_6_14 ev T _ (S8.1 p0 14)) (fun q => absurd q (by decide)) eS9 (fun y9 M9 => ?_)
  refine ye_aload rfl g1 ?_
  refine ye_aload rfl g0 ?_
  refine ye_getf rfl (M9.obj fa0 ⟨rfl, rfl⟩) rfl ?_
  obtain ⟨S10, eS10, h⟩ := sq_some h
  refine yw_putI rfl M9 fa1 rfl ⟨rfl, rfl⟩ (Nat.le_of_ble_eq_true rfl) rfl rfl (ys_6_15 ev T _ (S9.1 p0 15)) (fun q => absurd q (by decide)) eS10 (fun y10 M10 => ?_)
  refine ye_aload rfl g1 ?_
  refine ye_aload rfl g0 ?_
  refine ye_getf rfl (M10.obj fa0 ⟨rfl, rfl⟩) rfl ?_
  obtain ⟨S11, eS11, h⟩ := sq_some h
  refine yw_putI rfl M10 fa1 rfl ⟨rfl, rfl⟩ (Nat.le_of_ble_eq_true rfl) rfl rfl (ys_6_16 ev T _ (S10.1 p0 16)) (fun q => absurd q (by decide)) eS11 (fun y11 M11 => ?_)
  refine ye_aload rfl g1 ?_
  refine ye_aload rfl g0 ?_
  refine ye_getf rfl (M11.obj fa0 ⟨rfl, rfl⟩) rfl ?_
  obtain ⟨S12, eS12, h⟩ := sq_some h
  refine yw_putI rfl M11 fa1 rfl ⟨rfl, rfl⟩ (Nat.le_of_ble_eq_true rfl) rfl rfl (ys_6_17 ev T _ (S11.1 p0 17)) (fun q => absurd q (by decide)) eS12 (fun y12 M12 => ?_)
  exact ye_ret rfl rfl (rQV h M12)
def f_X6_copy (N : Nat) (S : yS) (xp0 : Nat) (xp1 : Nat) : Option (Int32 × yS) := f_X6_copy_0 N S xp0 xp1
theorem m_X6_copy {F : xH} {ev : xEv} {prim : xRel} {d : Nat} {T : yT} {v : Int32} {S' : yS} (N : Nat) (S : yS) (xp0 : Nat) (xp1 : Nat) (a0 : Nat) (a1 : Nat) (fa0 : yAt T 6 xp0 0 a0) (fa1 : yAt T 6 xp1 0 a1) (h : f_X6_copy N S xp0 xp1 = some (v, S')) : ykQ [0, 1, 2, 3, 4, 5, 6, 7] F ev prim (d + 1) 76 T S [.ref a0, .ref a1] (none) S' :=
  ykQ.of (pg_76 ev) mi_76 (Nat.le_of_ble_eq_true rfl) (fun hp sz hM => w_X6_copy_0 (prim := prim) (d := d) N S xp0 xp1 hp _ a0 a1 fa0 fa1 rfl rfl hM h)

def f_X7_listNeeding_91 (N : Nat) (k7 : yS → Int32 → Option (Int32 × yS)) (S : yS) (l2 : Int32) : Option (Int32 × yS) := k7 S (l2 + 1)
set_option maxHeartbeats 4000000 in
set_option maxRecDepth 40000 in
theorem w_X7_listNeeding_91 {F : xH} {ev : xEv} {prim : xRel} {d sz : Nat} {T : yT} {v : Int32} {S' : yS} (N : Nat) (k7 : yS → Int32 → Option (Int32 × yS)) (u7 : ∀ (S : yS) (l2 : Int32) (hp : xH) (lv : xLv) (a0 : Nat) (a1 : Nat) (fa0 : yAt T 7 6 0 a0) (fa1 : yAt T 10 2 0 a1) (g0 : xG lv 0 = some (.ref a0)) (g1 : xG lv 1 = some (.ref a1)) (g2 : xG lv 2 = some (.int l2)) (hM : cR [0, 1, 2, 3, 4, 5, 6, 7] F ev T S hp) (h : k7 S l2 = some (v, S')), yWE ev.2.1 (xstr ev) (xCalls ev xmi (xprog ev) prim (d + 0)) (pX7_listNeeding ev) (7, lv, [], hp, sz, 0) (ypQ [0, 1, 2, 3, 4, 5, 6, 7] F ev T sz (some (.int v)) S')) (S : yS) (l2 : Int32) (hp : xH) (lv : xLv) (a0 : Nat) (a1 : Nat) (fa0 : yAt T 7 6 0 a0) (fa1 : yAt T 10 2 0 a1) (g0 : xG lv 0 = some (.ref a0)) (g1 : xG lv 1 = some (.ref a1)) (g2 : xG lv 2 = some (.int l2)) (hM : cR [0, 1, 2, 3, 4, 5, 6, 7] F ev T S hp) (h : f_X7_listNeeding_91 N k7 S l2 = some (v, S')) : yWE ev.2.1 (xstr ev) (xCalls ev xmi (xprog ev) prim (d + 0)) (pX7_listNeeding ev) (91, lv, [], hp, sz, 0) (ypQ [0, 1, 2, 3, 4, 5, 6, 7] F ev T sz (some (.int v)) S') := by
  unfold f_X7_listNeeding_91 at h
  refine ye_iinc rfl g2 ?_
  have g0_z1 := xG_o1 (i := 2) (v := .int (l2 + 1)) g0 rfl
  have g1_z1 := xG_o1 (i := 2) (v := .int (l2 + 1)) g1 rfl
  have g2_z1 := xG_same lv 2 (.int (l2 + 1))
  generalize xSt1 lv 2 (.int (l2 + 1)) = lvz1 at g0_z1 g1_z1 g2_z1 ⊢
  refine ye_p rfl rfl ?_
  exact u7 S (l2 + 1) hp lvz1 a0 a1 fa0 fa1 g0_z1 g1_z1 g2_z1 hM h

def f_X7_listNeeding_45 (N : Nat) (k7 : yS → Int32 → Option (Int32 × yS)) (S : yS) (l2 : Int32) (p3 : Nat) (t0 : Int32) : Option (Int32 × yS) := if (S.1 p3 8) = ((-1)) then f_X7_listNeeding_91 N k7 S l2 else if t0 = 0 then f_X7_listNeeding_91 N k7 S l2 else if (S.1 2 13) < (S.1 p3 14) then f_X7_listNeeding_91 N k7 S l2 else gA 8 (S.1 6 2) fun j1 => sq (yA S 6 0 (upd (S.2.1 6 0) j1 l2)) fun S1 => sq (yI S1 6 2 ((S1.1 6 2) + 1)) fun S2 => f_X7_listNeeding_91 N k7 S2 l2
set_option maxHeartbeats 4000000 in
set_option maxRecDepth 40000 in
theorem w_X7_listNeeding_45 {F : xH} {ev : xEv} {prim : xRel} {d sz : Nat} {T : yT} {v : Int32} {S' : yS} (N : Nat) (k7 : yS → Int32 → Option (Int32 × yS)) (u7 : ∀ (S : yS) (l2 : Int32) (hp : xH) (lv : xLv) (a0 : Nat) (a1 : Nat) (fa0 : yAt T 7 6 0 a0) (fa1 : yAt T 10 2 0 a1) (g0 : xG lv 0 = some (.ref a0)) (g1 : xG lv 1 = some (.ref a1)) (g2 : xG lv 2 = some (.int l2)) (hM : cR [0, 1, 2, 3, 4, 5, 6, 7] F ev T S hp) (h : k7 S l2 = some (v, S')), yWE ev.2.1 (xstr ev) (xCalls ev xmi (xprog ev) prim (d + 0)) (pX7_listNeeding ev) (7, lv, [], hp, sz, 0) (ypQ [0, 1, 2, 3, 4, 5, 6, 7] F ev T sz (some (.int v)) S')) (S : yS) (l2 : Int32) (p3 : Nat) (t0 : Int32) (hp : xH) (lv : xLv) (a0 : Nat) (a1 : Nat) (a3 : Nat) (fa0 : yAt T 7 6 0 a0) (fa1 : yAt T 10 2 0 a1) (fa3 : yAt T 6 p3 0 a3) (g0 : xG lv 0 = some (.ref a0)) (g1 : xG lv 1 = some (.ref a1)) (g2 : xG lv 2 = some (.int l2)) (g3 : xG lv 3 = some (.ref a3)) (hM : cR [0, 1, 2, 3, 4, 5, 6, 7] F ev T S hp) (h : f_X7_listNeeding_45 N k7 S l2 p3 t0 = some (v, S')) : yWE ev.2.1 (xstr ev) (xCalls ev xmi (xprog ev) prim (d + 0)) (pX7_listNeeding ev) (45, lv, [.int t0], hp, sz, 0) (ypQ [0, 1, 2, 3, 4, 5, 6, 7] F ev T sz (some (.int v)) S') := by
  unfold f_X7_listNeeding_45 at h
  refine ye_p rfl rfl ?_
  have g0_z1 := xG_o1 (i := 4) (v := .int t0) g0 rfl
  have g1_z1 := xG_o1 (i := 4) (v := .int t0) g1 rfl
  have g2_z1 := xG_o1 (i := 4) (v := .int t0) g2 rfl
  have g3_z1 := xG_o1 (i := 4) (v := .int t0) g3 rfl
  have g4_z1 := xG_same lv 4 (.int t0)
  generalize xSt1 lv 4 (.int t0) = lvz1 at g0_z1 g1_z1 g2_z1 g3_z1 g4_z1 ⊢
  refine ye_aload rfl g3_z1 ?_
  refine ye_getf rfl (hM.obj fa3 ⟨rfl, rfl⟩) rfl ?_
  refine ye_p rfl rfl ?_
  refine ye_icmp_eq rfl (fun h1 => ?_) (fun h1 => ?_)
  · replace h := yiT h1 h
    exact w_X7_listNeeding_91 (prim := prim) (d := d) N k7 u7 S l2 hp lvz1 a0 a1 fa0 fa1 g0_z1 g1_z1 g2_z1 hM h
  · replace h := yiN h1 h
    refine ye_iload rfl g4_z1 ?_
    refine ye_if_eq rfl (fun h2 => ?_) (fun h2 => ?_)
    · replace h := yiT h2 h
      exact w_X7_listNeeding_91 (prim := prim) (d := d) N k7 u7 S l2 hp lvz1 a0 a1 fa0 fa1 g0_z1 g1_z1 g2_z1 hM h
    · replace h := yiN h2 h
      refine ye_aload rfl g3_z1 ?_
      refine ye_getf rfl (hM.obj fa3 ⟨rfl, rfl⟩) rfl ?_
      refine ye_aload rfl g1_z1 ?_
      refine ye_getf rfl (hM.obj fa1 ⟨rfl, rfl⟩) rfl ?_
      refine ye_icmp_gt rfl (fun h3 => ?_) (fun h3 => ?_)
      · replace h := yiT h3 h
        exact w_X7_listNeeding_91 (prim := prim) (d := d) N k7 u7 S l2 hp lvz1 a0 a1 fa0 fa1 g0_z1 g1_z1 g2_z1 hM h
      · replace h := yiN h3 h
        refine ye_aload rfl g0_z1 ?_
        refine ye_getr rfl (hM.obj fa0 ⟨rfl, rfl⟩) rfl (fun cx1 ecx1 => ?_)
        have fcx1 := yAt.row fa0 ecx1
        refine ye_aload rfl g0_z1 ?_
        refine ye_getf rfl (hM.obj fa0 ⟨rfl, rfl⟩) rfl ?_
        refine ye_iload rfl g2_z1 ?_
        obtain ⟨j1, ej1, ij1, h⟩ := gA_some h
        obtain ⟨S1, eS1, h⟩ := sq_some h
        refine yw_ast rfl hM fcx1 yr_7_0 (by decide) ij1 ej1 eS1 (fun y1 M1 => ?_)
        refine ye_aload rfl g0_z1 ?_
        refine ye_p rfl rfl ?_
        refine ye_getf rfl (M1.obj fa0 ⟨rfl, rfl⟩) rfl ?_
        refine ye_p rfl rfl ?_
        refine ye_p rfl rfl ?_
        obtain ⟨S2, eS2, h⟩ := sq_some h
        refine yw_putI rfl M1 fa0 rfl ⟨rfl, rfl⟩ (Nat.le_of_ble_eq_true rfl) rfl rfl (ys_7_2 ev T _ ((S1.1 6 2) + 1)) (fun q => absurd q (by decide)) eS2 (fun y2 M2 => ?_)
        exact w_X7_listNeeding_91 (prim := prim) (d := d) N k7 u7 S2 l2 y2 lvz1 a0 a1 fa0 fa1 g0_z1 g1_z1 g2_z1 M2 h

def f_X7_listNeeding_40 (N : Nat) (k7 : yS → Int32 → Option (Int32 × yS)) (S : yS) (l2 : Int32) (p3 : Nat) : Option (Int32 × yS) := f_X7_listNeeding_45 N k7 S l2 p3 1
set_option maxHeartbeats 4000000 in
set_option maxRecDepth 40000 in
theorem w_X7_listNeeding_40 {F : xH} {ev : xEv} {prim : xRel} {d sz : Nat} {T : yT} {v : Int32} {S' : yS} (N : Nat) (k7 : yS → Int32 → Option (Int32 × yS)) (u7 : ∀ (S : yS) (l2 : Int32) (hp : xH) (lv : xLv) (a0 : Nat) (a1 : Nat) (fa0 : yAt T 7 6 0 a0) (fa1 : yAt T 10 2 0 a1) (g0 : xG lv 0 = some (.ref a0)) (g1 : xG lv 1 = some (.ref a1)) (g2 : xG lv 2 = some (.int l2)) (hM : cR [0, 1, 2, 3, 4, 5, 6, 7] F ev T S hp) (h : k7 S l2 = some (v, S')), yWE ev.2.1 (xstr ev) (xCalls ev xmi (xprog ev) prim (d + 0)) (pX7_listNeeding ev) (7, lv, [], hp, sz, 0) (ypQ [0, 1, 2, 3, 4, 5, 6, 7] F ev T sz (some (.int v)) S')) (S : yS) (l2 : Int32) (p3 : Nat) (hp : xH) (lv : xLv) (a0 : Nat) (a1 : Nat) (a3 : Nat) (fa0 : yAt T 7 6 0 a0) (fa1 : yAt T 10 2 0 a1) (fa3 : yAt T 6 p3 0 a3) (g0 : xG lv 0 = some (.ref a0)) (g1 : xG lv 1 = some (.ref a1)) (g2 : xG lv 2 = some (.int l2)) (g3 : xG lv 3 = some (.ref a3)) (hM : cR [0, 1, 2, 3, 4, 5, 6, 7] F ev T S hp) (h : f_X7_listNeeding_40 N k7 S l2 p3 = some (v, S')) : yWE ev.2.1 (xstr ev) (xCalls ev xmi (xprog ev) prim (d + 0)) (pX7_listNeeding ev) (40, lv, [], hp, sz, 0) (ypQ [0, 1, 2, 3, 4, 5, 6, 7] F ev T sz (some (.int v)) S') := by
  unfold f_X7_listNeeding_40 at h
  refine ye_p rfl rfl ?_
  refine ye_p rfl rfl ?_
  exact w_X7_listNeeding_45 (prim := prim) (d := d) N k7 u7 S l2 p3 1 hp lv a0 a1 a3 fa0 fa1 fa3 g0 g1 g2 g3 hM h

def f_X7_listNeeding_7 : Nat → Nat → yS → Int32 → Option (Int32 × yS)
  | 0, _, _, _ => none
  | n + 1, N, S, l2 => if (S.1 2 5) ≤ l2 then some (S.1 6 2, S) else gR (S.2.1 2 4) 8 l2 fun j1 => if ¬ (S.1 ((128 + j1)) 13) = 0 then f_X7_listNeeding_40 N (fun S l2 => f_X7_listNeeding_7 n N S l2) S l2 ((128 + j1)) else if (S.1 ((128 + j1)) 5) < (S.1 ((128 + j1)) 6) then f_X7_listNeeding_45 N (fun S l2 => f_X7_listNeeding_7 n N S l2) S l2 ((128 + j1)) 0 else f_X7_listNeeding_40 N (fun S l2 => f_X7_listNeeding_7 n N S l2) S l2 ((128 + j1))
set_option maxHeartbeats 4000000 in
set_option maxRecDepth 40000 in
theorem w_X7_listNeeding_7 {F : xH} {ev : xEv} {prim : xRel} {d sz : Nat} {T : yT} {v : Int32} {S' : yS} (N : Nat) (n : Nat) : ∀ (S : yS) (l2 : Int32) (hp : xH) (lv : xLv) (a0 : Nat) (a1 : Nat) (fa0 : yAt T 7 6 0 a0) (fa1 : yAt T 10 2 0 a1) (g0 : xG lv 0 = some (.ref a0)) (g1 : xG lv 1 = some (.ref a1)) (g2 : xG lv 2 = some (.int l2)) (hM : cR [0, 1, 2, 3, 4, 5, 6, 7] F ev T S hp) (h : f_X7_listNeeding_7 n N S l2 = some (v, S')), yWE ev.2.1 (xstr ev) (xCalls ev xmi (xprog ev) prim (d + 0)) (pX7_listNeeding ev) (7, lv, [], hp, sz, 0) (ypQ [0, 1, 2, 3, 4, 5, 6, 7] F ev T sz (some (.int v)) S') := by
  induction n with
  | zero => intro S l2 hp lv a0 a1 fa0 fa1 g0 g1 g2 hM h; exact n_some h
  | succ n ih =>
    intro S l2 hp lv a0 a1 fa0 fa1 g0 g1 g2 hM h
    unfold f_X7_listNeeding_7 at h
    refine ye_iload rfl g2 ?_
    refine ye_aload rfl g1 ?_
    refine ye_getf rfl (hM.obj fa1 ⟨rfl, rfl⟩) rfl ?_
    refine ye_icmp_ge rfl (fun h1 => ?_) (fun h1 => ?_)
    · replace h := yiT h1 h
      refine ye_aload rfl g0 ?_
      refine ye_getf rfl (hM.obj fa0 ⟨rfl, rfl⟩) rfl ?_
      exact ye_ret rfl rfl (rQ h hM)
    · replace h := yiN h1 h
      refine ye_aload rfl g1 ?_
      refine ye_getr rfl (hM.obj fa1 ⟨rfl, rfl⟩) rfl (fun cx1 ecx1 => ?_)
      have fcx1 := yAt.row fa1 ecx1
      refine ye_iload rfl g2 ?_
      obtain ⟨j1, ej1, ij1, rj1, h⟩ := gR_some h
      refine ye_aaldR (t := 5) rfl (hM.arr fcx1 yr_10_4) ij1 ej1 rj1 (fun cx2 ecx2 => ?_)
      have fcx2 : yAt T 6 (128 + j1) 0 cx2 := ⟨hM.refd fcx1 yr_10_4 (by decide) rj1, oc_128 (by have := vp_lt ij1; omega), ecx2⟩
      refine ye_p rfl rfl ?_
      have g0_z1 := xG_o1 (i := 3) (v := .ref cx2) g0 rfl
      have g1_z1 := xG_o1 (i := 3) (v := .ref cx2) g1 rfl
      have g2_z1 := xG_o1 (i := 3) (v := .ref cx2) g2 rfl
      have g3_z1 := xG_same lv 3 (.ref cx2)
      generalize xSt1 lv 3 (.ref cx2) = lvz1 at g0_z1 g1_z1 g2_z1 g3_z1 ⊢
      refine ye_aload rfl g3_z1 ?_
      refine ye_getf rfl (hM.obj fcx2 ⟨rfl, rfl⟩) rfl ?_
      refine ye_if_ne rfl (fun h2 => ?_) (fun h2 => ?_)
      · replace h := yiT h2 h
        exact w_X7_listNeeding_40 (prim := prim) (d := d) N (fun S l2 => f_X7_listNeeding_7 n N S l2) ih S l2 ((128 + j1)) hp lvz1 a0 a1 cx2 fa0 fa1 fcx2 g0_z1 g1_z1 g2_z1 g3_z1 hM h
      · replace h := yiN h2 h
        refine ye_aload rfl g3_z1 ?_
        refine ye_getf rfl (hM.obj fcx2 ⟨rfl, rfl⟩) rfl ?_
        refine ye_aload rfl g3_z1 ?_
        refine ye_getf rfl (hM.obj fcx2 ⟨rfl, rfl⟩) rfl ?_
        refine ye_icmp_lt rfl (fun h3 => ?_) (fun h3 => ?_)
        · replace h := yiT h3 h
          refine ye_p rfl rfl ?_
          exact w_X7_listNeeding_45 (prim := prim) (d := d) N (fun S l2 => f_X7_listNeeding_7 n N S l2) ih S l2 ((128 + j1)) 0 hp lvz1 a0 a1 cx2 fa0 fa1 fcx2 g0_z1 g1_z1 g2_z1 g3_z1 hM h
        · replace h := yiN h3 h
          exact w_X7_listNeeding_40 (prim := prim) (d := d) N (fun S l2 => f_X7_listNeeding_7 n N S l2) ih S l2 ((128 + j1)) hp lvz1 a0 a1 cx2 fa0 fa1 fcx2 g0_z1 g1_z1 g2_z1 g3_z1 hM h

def f_X7_listNeeding_0 (N : Nat) (S : yS) : Option (Int32 × yS) := sq (yI S 6 2 0) fun S1 => f_X7_listNeeding_7 N N S1 0
set_option maxHeartbeats 4000000 in
set_option maxRecDepth 40000 in
theorem w_X7_listNeeding_0 {F : xH} {ev : xEv} {prim : xRel} {d sz : Nat} {T : yT} {v : Int32} {S' : yS} (N : Nat) (S : yS) (hp : xH) (lv : xLv) (a0 : Nat) (a1 : Nat) (fa0 : yAt T 7 6 0 a0) (fa1 : yAt T 10 2 0 a1) (g0 : xG lv 0 = some (.ref a0)) (g1 : xG lv 1 = some (.ref a1)) (hM : cR [0, 1, 2, 3, 4, 5, 6, 7] F ev T S hp) (h : f_X7_listNeeding_0 N S = some (v, S')) : yWE ev.2.1 (xstr ev) (xCalls ev xmi (xprog ev) prim (d + 0)) (pX7_listNeeding ev) (0, lv, [], hp, sz, 0) (ypQ [0, 1, 2, 3, 4, 5, 6, 7] F ev T sz (some (.int v)) S') := by
  unfold f_X7_listNeeding_0 at h
  refine ye_aload rfl g0 ?_
  refine ye_p rfl rfl ?_
  obtain ⟨S1, eS1, h⟩ := sq_some h
  refine yw_putI rfl hM fa0 rfl ⟨rfl, rfl⟩ (Nat.le_of_ble_eq_true rfl) rfl rfl (ys_7_2 ev T _ 0) (fun q => absurd q (by decide)) eS1 (fun y1 M1 => ?_)
  refine ye_p rfl rfl ?_
  refine ye_p rfl rfl ?_
  have g0_z1 := xG_o1 (i := 2) (v := .int 0) g0 rfl
  have g1_z1 := xG_o1 (i := 2) (v := .int 0) g1 rfl
  have g2_z1 := xG_same lv 2 (.int 0)
  generalize xSt1 lv 2 (.int 0) = lvz1 at g0_z1 g1_z1 g2_z1 ⊢
  exact w_X7_listNeeding_7 (prim := prim) (d := d) N N S1 0 y1 lvz1 a0 a1 fa0 fa1 g0_z1 g1_z1 g2_z1 M1 h
def f_X7_listNeeding (N : Nat) (S : yS) : Option (Int32 × yS) := f_X7_listNeeding_0 N S
theorem m_X7_listNeeding {F : xH} {ev : xEv} {prim : xRel} {d : Nat} {T : yT} {v : Int32} {S' : yS} (N : Nat) (S : yS) (a0 : Nat) (a1 : Nat) (fa0 : yAt T 7 6 0 a0) (fa1 : yAt T 10 2 0 a1) (h : f_X7_listNeeding N S = some (v, S')) : ykQ [0, 1, 2, 3, 4, 5, 6, 7] F ev prim (d + 1) 79 T S [.ref a0, .ref a1] (some (.int v)) S' :=
  ykQ.of (pg_79 ev) mi_79 (Nat.le_of_ble_eq_true rfl) (fun hp sz hM => w_X7_listNeeding_0 (prim := prim) (d := d) N S hp _ a0 a1 fa0 fa1 rfl rfl hM h)

def f_X7_offer_64 (N : Nat) (k9 : yS → Int32 → Option (Int32 × yS)) (k15 : yS → Int32 → Int32 → Option (Int32 × yS)) (S : yS) (l1 : Int32) (l2 : Int32) : Option (Int32 × yS) := k15 S l1 (l2 + 1)
set_option maxHeartbeats 4000000 in
set_option maxRecDepth 40000 in
theorem w_X7_offer_64 {F : xH} {ev : xEv} {prim : xRel} {d sz : Nat} {T : yT} {v : Int32} {S' : yS} (N : Nat) (k9 : yS → Int32 → Option (Int32 × yS)) (k15 : yS → Int32 → Int32 → Option (Int32 × yS)) (u9 : ∀ (S : yS) (l1 : Int32) (hp : xH) (lv : xLv) (a0 : Nat) (fa0 : yAt T 7 6 0 a0) (g0 : xG lv 0 = some (.ref a0)) (g1 : xG lv 1 = some (.int l1)) (hM : cR [0, 1, 2, 3, 4, 5, 6, 7] F ev T S hp) (h : k9 S l1 = some (v, S')), yWE ev.2.1 (xstr ev) (xCalls ev xmi (xprog ev) prim (d + 0)) (pX7_offer ev) (9, lv, [], hp, sz, 0) (ypQ [0, 1, 2, 3, 4, 5, 6, 7] F ev T sz (none) S')) (u15 : ∀ (S : yS) (l1 : Int32) (l2 : Int32) (hp : xH) (lv : xLv) (a0 : Nat) (fa0 : yAt T 7 6 0 a0) (g0 : xG lv 0 = some (.ref a0)) (g1 : xG lv 1 = some (.int l1)) (g2 : xG lv 2 = some (.int l2)) (hM : cR [0, 1, 2, 3, 4, 5, 6, 7] F ev T S hp) (h : k15 S l1 l2 = some (v, S')), yWE ev.2.1 (xstr ev) (xCalls ev xmi (xprog ev) prim (d + 0)) (pX7_offer ev) (15, lv, [], hp, sz, 0) (ypQ [0, 1, 2, 3, 4, 5, 6, 7] F ev T sz (none) S')) (S : yS) (l1 : Int32) (l2 : Int32) (hp : xH) (lv : xLv) (a0 : Nat) (fa0 : yAt T 7 6 0 a0) (g0 : xG lv 0 = some (.ref a0)) (g1 : xG lv 1 = some (.int l1)) (g2 : xG lv 2 = some (.int l2)) (hM : cR [0, 1, 2, 3, 4, 5, 6, 7] F ev T S hp) (h : f_X7_offer_64 N k9 k15 S l1 l2 = some (v, S')) : yWE ev.2.1 (xstr ev) (xCalls ev xmi (xprog ev) prim (d + 0)) (pX7_offer ev) (64, lv, [], hp, sz, 0) (ypQ [0, 1, 2, 3, 4, 5, 6, 7] F ev T sz (none) S') := by
  unfold f_X7_offer_64 at h
  refine ye_iinc rfl g2 ?_
  have g0_z1 := xG_o1 (i := 2) (v := .int (l2 + 1)) g0 rfl
  have g1_z1 := xG_o1 (i := 2) (v := .int (l2 + 1)) g1 rfl
  have g2_z1 := xG_same lv 2 (.int (l2 + 1))
  generalize xSt1 lv 2 (.int (l2 + 1)) = lvz1 at g0_z1 g1_z1 g2_z1 ⊢
  refine ye_p rfl rfl ?_
  exact u15 S l1 (l2 + 1) hp lvz1 a0 fa0 g0_z1 g1_z1 g2_z1 hM h

def f_X7_offer_15 : Nat → Nat → (yS → Int32 → Option (Int32 × yS)) → yS → Int32 → Int32 → Option (Int32 × yS)
  | 0, _, _, _, _, _ => none
  | n + 1, N, k9, S, l1, l2 => if (S.1 6 2) ≤ l2 then k9 S (l1 + (-1)) else if ¬ ((l1 >>> (l2 &&& 31)) &&& 1) = 1 then f_X7_offer_64 N k9 (fun S l1 l2 => f_X7_offer_15 n N k9 S l1 l2) S l1 l2 else gA 256 l1 fun j1 => gA 256 (l1 - (1 <<< (l2 &&& 31))) fun j2 => gA 8 l2 fun j3 => gA 256 l1 fun j4 => sq (yJ S 6 4 (vp_updL (S.2.2 6 4) j4 (if ((S.2.2 6 4 j2) + (S.2.2 6 3 j3)) < (S.2.2 6 4 j1) then ((S.2.2 6 4 j2) + (S.2.2 6 3 j3)) else (S.2.2 6 4 j1)))) fun S1 => f_X7_offer_64 N k9 (fun S l1 l2 => f_X7_offer_15 n N k9 S l1 l2) S1 l1 l2
set_option maxHeartbeats 4000000 in
set_option maxRecDepth 40000 in
theorem w_X7_offer_15 {F : xH} {ev : xEv} {prim : xRel} {d sz : Nat} {T : yT} {v : Int32} {S' : yS} (N : Nat) (n : Nat) (k9 : yS → Int32 → Option (Int32 × yS)) (u9 : ∀ (S : yS) (l1 : Int32) (hp : xH) (lv : xLv) (a0 : Nat) (fa0 : yAt T 7 6 0 a0) (g0 : xG lv 0 = some (.ref a0)) (g1 : xG lv 1 = some (.int l1)) (hM : cR [0, 1, 2, 3, 4, 5, 6, 7] F ev T S hp) (h : k9 S l1 = some (v, S')), yWE ev.2.1 (xstr ev) (xCalls ev xmi (xprog ev) prim (d + 0)) (pX7_offer ev) (9, lv, [], hp, sz, 0) (ypQ [0, 1, 2, 3, 4, 5, 6, 7] F ev T sz (none) S')) : ∀ (S : yS) (l1 : Int32) (l2 : Int32) (hp : xH) (lv : xLv) (a0 : Nat) (fa0 : yAt T 7 6 0 a0) (g0 : xG lv 0 = some (.ref a0)) (g1 : xG lv 1 = some (.int l1)) (g2 : xG lv 2 = some (.int l2)) (hM : cR [0, 1, 2, 3, 4, 5, 6, 7] F ev T S hp) (h : f_X7_offer_15 n N k9 S l1 l2 = some (v, S')), yWE ev.2.1 (xstr ev) (xCalls ev xmi (xprog ev) prim (d + 0)) (pX7_offer ev) (15, lv, [], hp, sz, 0) (ypQ [0, 1, 2, 3, 4, 5, 6, 7] F ev T sz (none) S') := by
  induction n with
  | zero => intro S l1 l2 hp lv a0 fa0 g0 g1 g2 hM h; exact n_some h
  | succ n ih =>
    intro S l1 l2 hp lv a0 fa0 g0 g1 g2 hM h
    unfold f_X7_offer_15 at h
    refine ye_iload rfl g2 ?_
    refine ye_aload rfl g0 ?_
    refine ye_getf rfl (hM.obj fa0 ⟨rfl, rfl⟩) rfl ?_
    refine ye_icmp_ge rfl (fun h1 => ?_) (fun h1 => ?_)
    · replace h := yiT h1 h
      refine ye_iinc rfl g1 ?_
      have g0_z1 := xG_o1 (i := 1) (v := .int (l1 + (-1))) g0 rfl
      have g1_z1 := xG_same lv 1 (.int (l1 + (-1)))
      generalize xSt1 lv 1 (.int (l1 + (-1))) = lvz1 at g0_z1 g1_z1 ⊢
      refine ye_p rfl rfl ?_
      exact u9 S (l1 + (-1)) hp lvz1 a0 fa0 g0_z1 g1_z1 hM h
    · replace h := yiN h1 h
      refine ye_iload rfl g1 ?_
      refine ye_iload rfl g2 ?_
      refine ye_p rfl rfl ?_
      refine ye_p rfl rfl ?_
      refine ye_p rfl rfl ?_
      refine ye_p rfl rfl ?_
      refine ye_icmp_ne rfl (fun h2 => ?_) (fun h2 => ?_)
      · replace h := yiT h2 h
        exact w_X7_offer_64 (prim := prim) (d := d) N k9 (fun S l1 l2 => f_X7_offer_15 n N k9 S l1 l2) u9 ih S l1 l2 hp lv a0 fa0 g0 g1 g2 hM h
      · replace h := yiN h2 h
        refine ye_aload rfl g0 ?_
        refine ye_getr rfl (hM.obj fa0 ⟨rfl, rfl⟩) rfl (fun cx1 ecx1 => ?_)
        have fcx1 := yAt.row fa0 ecx1
        refine ye_iload rfl g1 ?_
        refine ye_aload rfl g0 ?_
        refine ye_getr rfl (hM.obj fa0 ⟨rfl, rfl⟩) rfl (fun cx2 ecx2 => ?_)
        have fcx2 := yAt.row fa0 ecx2
        refine ye_iload rfl g1 ?_
        obtain ⟨j1, ej1, ij1, h⟩ := gA_some h
        refine yj_lald rfl (hM.arr fcx2 yr_7_4) ij1 ej1 ?_
        refine ye_aload rfl g0 ?_
        refine ye_getr rfl (hM.obj fa0 ⟨rfl, rfl⟩) rfl (fun cx3 ecx3 => ?_)
        have fcx3 := yAt.row fa0 ecx3
        refine ye_iload rfl g1 ?_
        refine ye_p rfl rfl ?_
        refine ye_iload rfl g2 ?_
        refine ye_p rfl rfl ?_
        refine ye_p rfl rfl ?_
        obtain ⟨j2, ej2, ij2, h⟩ := gA_some h
        refine yj_lald rfl (hM.arr fcx3 yr_7_4) ij2 ej2 ?_
        refine ye_aload rfl g0 ?_
        refine ye_getr rfl (hM.obj fa0 ⟨rfl, rfl⟩) rfl (fun cx4 ecx4 => ?_)
        have fcx4 := yAt.row fa0 ecx4
        refine ye_iload rfl g2 ?_
        obtain ⟨j3, ej3, ij3, h⟩ := gA_some h
        refine yj_lald rfl (hM.arr fcx4 yr_7_3) ij3 ej3 ?_
        refine ye_p rfl rfl ?_
        refine ye_p rfl rfl ?_
        obtain ⟨j4, ej4, ij4, h⟩ := gA_some h
        obtain ⟨S1, eS1, h⟩ := sq_some h
        refine yw_last rfl hM fcx1 yr_7_4 ij4 ej4 eS1 (fun y1 M1 => ?_)
        exact w_X7_offer_64 (prim := prim) (d := d) N k9 (fun S l1 l2 => f_X7_offer_15 n N k9 S l1 l2) u9 ih S1 l1 l2 y1 lv a0 fa0 g0 g1 g2 M1 h

def f_X7_offer_9 : Nat → Nat → yS → Int32 → Option (Int32 × yS)
  | 0, _, _, _ => none
  | n + 1, N, S, l1 => if l1 ≤ 0 then some (0, S) else f_X7_offer_15 N N (fun S l1 => f_X7_offer_9 n N S l1) S l1 0
set_option maxHeartbeats 4000000 in
set_option maxRecDepth 40000 in
theorem w_X7_offer_9 {F : xH} {ev : xEv} {prim : xRel} {d sz : Nat} {T : yT} {v : Int32} {S' : yS} (N : Nat) (n : Nat) : ∀ (S : yS) (l1 : Int32) (hp : xH) (lv : xLv) (a0 : Nat) (fa0 : yAt T 7 6 0 a0) (g0 : xG lv 0 = some (.ref a0)) (g1 : xG lv 1 = some (.int l1)) (hM : cR [0, 1, 2, 3, 4, 5, 6, 7] F ev T S hp) (h : f_X7_offer_9 n N S l1 = some (v, S')), yWE ev.2.1 (xstr ev) (xCalls ev xmi (xprog ev) prim (d + 0)) (pX7_offer ev) (9, lv, [], hp, sz, 0) (ypQ [0, 1, 2, 3, 4, 5, 6, 7] F ev T sz (none) S') := by
  induction n with
  | zero => intro S l1 hp lv a0 fa0 g0 g1 hM h; exact n_some h
  | succ n ih =>
    intro S l1 hp lv a0 fa0 g0 g1 hM h
    unfold f_X7_offer_9 at h
    refine ye_iload rfl g1 ?_
    refine ye_if_le rfl (fun h1 => ?_) (fun h1 => ?_)
    · replace h := yiT h1 h
      exact ye_ret rfl rfl (rQV h hM)
    · replace h := yiN h1 h
      refine ye_p rfl rfl ?_
      refine ye_p rfl rfl ?_
      have g0_z1 := xG_o1 (i := 2) (v := .int 0) g0 rfl
      have g1_z1 := xG_o1 (i := 2) (v := .int 0) g1 rfl
      have g2_z1 := xG_same lv 2 (.int 0)
      generalize xSt1 lv 2 (.int 0) = lvz1 at g0_z1 g1_z1 g2_z1 ⊢
      exact w_X7_offer_15 (prim := prim) (d := d) N N (fun S l1 => f_X7_offer_9 n N S l1) ih S l1 0 hp lvz1 a0 fa0 g0_z1 g1_z1 g2_z1 hM h

def f_X7_offer_0 (N : Nat) (S : yS) : Option (Int32 × yS) := f_X7_offer_9 N N S ((1 <<< ((S.1 6 2) &&& 31)) - 1)
set_option maxHeartbeats 4000000 in
set_option maxRecDepth 40000 in
theorem w_X7_offer_0 {F : xH} {ev : xEv} {prim : xRel} {d sz : Nat} {T : yT} {v : Int32} {S' : yS} (N : Nat) (S : yS) (hp : xH) (lv : xLv) (a0 : Nat) (fa0 : yAt T 7 6 0 a0) (g0 : xG lv 0 = some (.ref a0)) (hM : cR [0, 1, 2, 3, 4, 5, 6, 7] F ev T S hp) (h : f_X7_offer_0 N S = some (v, S')) : yWE ev.2.1 (xstr ev) (xCalls ev xmi (xprog ev) prim (d + 0)) (pX7_offer ev) (0, lv, [], hp, sz, 0) (ypQ [0, 1, 2, 3, 4, 5, 6, 7] F ev T sz (none) S') := by
  unfold f_X7_offer_0 at h
  refine ye_p rfl rfl ?_
  refine ye_aload rfl g0 ?_
  refine ye_getf rfl (hM.obj fa0 ⟨rfl, rfl⟩) rfl ?_
  refine ye_p rfl rfl ?_
  refine ye_p rfl rfl ?_
  refine ye_p rfl rfl ?_
  refine ye_p rfl rfl ?_
  have g0_z1 := xG_o1 (i := 1) (v := .int ((1 <<< ((S.1 6 2) &&& 31)) - 1)) g0 rfl
  have g1_z1 := xG_same lv 1 (.int ((1 <<< ((S.1 6 2) &&& 31)) - 1))
  generalize xSt1 lv 1 (.int ((1 <<< ((S.1 6 2) &&& 31)) - 1)) = lvz1 at g0_z1 g1_z1 ⊢
  exact w_X7_offer_9 (prim := prim) (d := d) N N S ((1 <<< ((S.1 6 2) &&& 31)) - 1) hp lvz1 a0 fa0 g0_z1 g1_z1 hM h
def f_X7_offer (N : Nat) (S : yS) : Option (Int32 × yS) := f_X7_offer_0 N S
theorem m_X7_offer {F : xH} {ev : xEv} {prim : xRel} {d : Nat} {T : yT} {v : Int32} {S' : yS} (N : Nat) (S : yS) (a0 : Nat) (fa0 : yAt T 7 6 0 a0) (h : f_X7_offer N S = some (v, S')) : ykQ [0, 1, 2, 3, 4, 5, 6, 7] F ev prim (d + 1) 82 T S [.ref a0] (none) S' :=
  ykQ.of (pg_82 ev) mi_82 (Nat.le_of_ble_eq_true rfl) (fun hp sz hM => w_X7_offer_0 (prim := prim) (d := d) N S hp _ a0 fa0 rfl hM h)

def f_X7_leastOfAll_66 (N : Nat) (k6 : yS → Int64 → Int32 → Option Int64) (k27 : yS → Int64 → Int32 → Int64 → Int32 → Option Int64) (S : yS) (l1 : Int64) (l3 : Int32) (l6 : Int32) (t0 : Int64) (t1 : Int64) : Option Int64 := k27 S l1 l3 (t0 + t1) (l6 + 1)
set_option maxHeartbeats 4000000 in
set_option maxRecDepth 40000 in
theorem w_X7_leastOfAll_66 {F : xH} {ev : xEv} {prim : xRel} {d sz : Nat} {T : yT} {v : Int64} {hp : xH} (N : Nat) (k6 : yS → Int64 → Int32 → Option Int64) (k27 : yS → Int64 → Int32 → Int64 → Int32 → Option Int64) (u6 : ∀ (S : yS) (l1 : Int64) (l3 : Int32) (lv : xLv) (a0 : Nat) (fa0 : yAt T 7 6 0 a0) (g0 : xG lv 0 = some (.ref a0)) (g1 : xG lv 1 = some (.long l1)) (g3 : xG lv 3 = some (.int l3)) (hM : cR [0, 1, 2, 3, 4, 5, 6, 7] F ev T S hp) (h : k6 S l1 l3 = some v), yWE ev.2.1 (xstr ev) (xCalls ev xmi (xprog ev) prim (d + 0)) (pX7_leastOfAll ev) (6, lv, [], hp, sz, 0) (ypP hp sz (.long v))) (u27 : ∀ (S : yS) (l1 : Int64) (l3 : Int32) (l4 : Int64) (l6 : Int32) (lv : xLv) (a0 : Nat) (fa0 : yAt T 7 6 0 a0) (g0 : xG lv 0 = some (.ref a0)) (g1 : xG lv 1 = some (.long l1)) (g3 : xG lv 3 = some (.int l3)) (g4 : xG lv 4 = some (.long l4)) (g6 : xG lv 6 = some (.int l6)) (hM : cR [0, 1, 2, 3, 4, 5, 6, 7] F ev T S hp) (h : k27 S l1 l3 l4 l6 = some v), yWE ev.2.1 (xstr ev) (xCalls ev xmi (xprog ev) prim (d + 0)) (pX7_leastOfAll ev) (27, lv, [], hp, sz, 0) (ypP hp sz (.long v))) (S : yS) (l1 : Int64) (l3 : Int32) (l6 : Int32) (t0 : Int64) (t1 : Int64) (lv : xLv) (a0 : Nat) (fa0 : yAt T 7 6 0 a0) (g0 : xG lv 0 = some (.ref a0)) (g1 : xG lv 1 = some (.long l1)) (g3 : xG lv 3 = some (.int l3)) (g6 : xG lv 6 = some (.int l6)) (hM : cR [0, 1, 2, 3, 4, 5, 6, 7] F ev T S hp) (h : f_X7_leastOfAll_66 N k6 k27 S l1 l3 l6 t0 t1 = some v) : yWE ev.2.1 (xstr ev) (xCalls ev xmi (xprog ev) prim (d + 0)) (pX7_leastOfAll ev) (66, lv, [.long t1, .long t0], hp, sz, 0) (ypP hp sz (.long v)) := by
  unfold f_X7_leastOfAll_66 at h
  refine ye_p rfl rfl ?_
  refine ye_p rfl rfl ?_
  have g0_z1 := xG_o2 (i := 4) (v := .long (t0 + t1)) g0 rfl
  have g1_z1 := xG_o2 (i := 4) (v := .long (t0 + t1)) g1 rfl
  have g3_z1 := xG_o2 (i := 4) (v := .long (t0 + t1)) g3 rfl
  have g6_z1 := xG_o2 (i := 4) (v := .long (t0 + t1)) g6 rfl
  have g4_z1 := xG_same2 lv 4 (.long (t0 + t1))
  generalize xSt2 lv 4 (.long (t0 + t1)) = lvz1 at g0_z1 g1_z1 g3_z1 g6_z1 g4_z1 ⊢
  refine ye_iinc rfl g6_z1 ?_
  have g0_z2 := xG_o1 (i := 6) (v := .int (l6 + 1)) g0_z1 rfl
  have g1_z2 := xG_o1 (i := 6) (v := .int (l6 + 1)) g1_z1 rfl
  have g3_z2 := xG_o1 (i := 6) (v := .int (l6 + 1)) g3_z1 rfl
  have g4_z2 := xG_o1 (i := 6) (v := .int (l6 + 1)) g4_z1 rfl
  have g6_z2 := xG_same lvz1 6 (.int (l6 + 1))
  generalize xSt1 lvz1 6 (.int (l6 + 1)) = lvz2 at g0_z2 g1_z2 g3_z2 g4_z2 g6_z2 ⊢
  refine ye_p rfl rfl ?_
  exact u27 S l1 l3 (t0 + t1) (l6 + 1) lvz2 a0 fa0 g0_z2 g1_z2 g3_z2 g4_z2 g6_z2 hM h

def f_X7_leastOfAll_27 : Nat → Nat → (yS → Int64 → Int32 → Option Int64) → yS → Int64 → Int32 → Int64 → Int32 → Option Int64
  | 0, _, _, _, _, _, _, _ => none
  | n + 1, N, k6, S, l1, l3, l4, l6 => if (S.1 6 2) ≤ l6 then k6 S (if l4 < l1 then l4 else l1) (l3 + 1) else if ¬ ((l3 >>> (l6 &&& 31)) &&& 1) = 1 then gA 8 l6 fun j1 => f_X7_leastOfAll_66 N k6 (fun S l1 l3 l4 l6 => f_X7_leastOfAll_27 n N k6 S l1 l3 l4 l6) S l1 l3 l6 l4 (176319369216 + (8 * (xPl j1))) else f_X7_leastOfAll_66 N k6 (fun S l1 l3 l4 l6 => f_X7_leastOfAll_27 n N k6 S l1 l3 l4 l6) S l1 l3 l6 l4 0
set_option maxHeartbeats 4000000 in
set_option maxRecDepth 40000 in
theorem w_X7_leastOfAll_27 {F : xH} {ev : xEv} {prim : xRel} {d sz : Nat} {T : yT} {v : Int64} {hp : xH} (N : Nat) (n : Nat) (k6 : yS → Int64 → Int32 → Option Int64) (u6 : ∀ (S : yS) (l1 : Int64) (l3 : Int32) (lv : xLv) (a0 : Nat) (fa0 : yAt T 7 6 0 a0) (g0 : xG lv 0 = some (.ref a0)) (g1 : xG lv 1 = some (.long l1)) (g3 : xG lv 3 = some (.int l3)) (hM : cR [0, 1, 2, 3, 4, 5, 6, 7] F ev T S hp) (h : k6 S l1 l3 = some v), yWE ev.2.1 (xstr ev) (xCalls ev xmi (xprog ev) prim (d + 0)) (pX7_leastOfAll ev) (6, lv, [], hp, sz, 0) (ypP hp sz (.long v))) : ∀ (S : yS) (l1 : Int64) (l3 : Int32) (l4 : Int64) (l6 : Int32) (lv : xLv) (a0 : Nat) (fa0 : yAt T 7 6 0 a0) (g0 : xG lv 0 = some (.ref a0)) (g1 : xG lv 1 = some (.long l1)) (g3 : xG lv 3 = some (.int l3)) (g4 : xG lv 4 = some (.long l4)) (g6 : xG lv 6 = some (.int l6)) (hM : cR [0, 1, 2, 3, 4, 5, 6, 7] F ev T S hp) (h : f_X7_leastOfAll_27 n N k6 S l1 l3 l4 l6 = some v), yWE ev.2.1 (xstr ev) (xCalls ev xmi (xprog ev) prim (d + 0)) (pX7_leastOfAll ev) (27, lv, [], hp, sz, 0) (ypP hp sz (.long v)) := by
  induction n with
  | zero => intro S l1 l3 l4 l6 lv a0 fa0 g0 g1 g3 g4 g6 hM h; exact n_some h
  | succ n ih =>
    intro S l1 l3 l4 l6 lv a0 fa0 g0 g1 g3 g4 g6 hM h
    unfold f_X7_leastOfAll_27 at h
    refine ye_iload rfl g6 ?_
    refine ye_aload rfl g0 ?_
    refine ye_getf rfl (hM.obj fa0 ⟨rfl, rfl⟩) rfl ?_
    refine ye_icmp_ge rfl (fun h1 => ?_) (fun h1 => ?_)
    · replace h := yiT h1 h
      refine ye_lload rfl g1 ?_
      refine ye_lload rfl g4 ?_
      refine ye_p rfl rfl ?_
      refine ye_p rfl rfl ?_
      have g0_z1 := xG_o2 (i := 1) (v := .long (if l4 < l1 then l4 else l1)) g0 rfl
      have g3_z1 := xG_o2 (i := 1) (v := .long (if l4 < l1 then l4 else l1)) g3 rfl
      have g1_z1 := xG_same2 lv 1 (.long (if l4 < l1 then l4 else l1))
      generalize xSt2 lv 1 (.long (if l4 < l1 then l4 else l1)) = lvz1 at g0_z1 g3_z1 g1_z1 ⊢
      refine ye_iinc rfl g3_z1 ?_
      have g0_z2 := xG_o1 (i := 3) (v := .int (l3 + 1)) g0_z1 rfl
      have g1_z2 := xG_o1 (i := 3) (v := .int (l3 + 1)) g1_z1 rfl
      have g3_z2 := xG_same lvz1 3 (.int (l3 + 1))
      generalize xSt1 lvz1 3 (.int (l3 + 1)) = lvz2 at g0_z2 g1_z2 g3_z2 ⊢
      refine ye_p rfl rfl ?_
      exact u6 S (if l4 < l1 then l4 else l1) (l3 + 1) lvz2 a0 fa0 g0_z2 g1_z2 g3_z2 hM h
    · replace h := yiN h1 h
      refine ye_lload rfl g4 ?_
      refine ye_iload rfl g3 ?_
      refine ye_iload rfl g6 ?_
      refine ye_p rfl rfl ?_
      refine ye_p rfl rfl ?_
      refine ye_p rfl rfl ?_
      refine ye_p rfl rfl ?_
      refine ye_icmp_ne rfl (fun h2 => ?_) (fun h2 => ?_)
      · replace h := yiT h2 h
        refine ye_p rfl rfl ?_
        refine ye_p rfl rfl ?_
        refine ye_p rfl rfl ?_
        refine ye_iload rfl g6 ?_
        obtain ⟨j1, ej1, ij1, h⟩ := gA_some h
        refine ye_laldP rfl ij1 ej1 ?_
        refine ye_p rfl rfl ?_
        refine ye_p rfl rfl ?_
        exact w_X7_leastOfAll_66 (prim := prim) (d := d) N k6 (fun S l1 l3 l4 l6 => f_X7_leastOfAll_27 n N k6 S l1 l3 l4 l6) u6 ih S l1 l3 l6 l4 (176319369216 + (8 * (xPl j1))) lv a0 fa0 g0 g1 g3 g6 hM h
      · replace h := yiN h2 h
        refine ye_p rfl rfl ?_
        refine ye_p rfl rfl ?_
        exact w_X7_leastOfAll_66 (prim := prim) (d := d) N k6 (fun S l1 l3 l4 l6 => f_X7_leastOfAll_27 n N k6 S l1 l3 l4 l6) u6 ih S l1 l3 l6 l4 0 lv a0 fa0 g0 g1 g3 g6 hM h

def f_X7_leastOfAll_6 : Nat → Nat → yS → Int64 → Int32 → Option Int64
  | 0, _, _, _, _ => none
  | n + 1, N, S, l1, l3 => if (1 <<< ((S.1 6 2) &&& 31)) ≤ l3 then some l1 else gA 256 l3 fun j1 => f_X7_leastOfAll_27 N N (fun S l1 l3 => f_X7_leastOfAll_6 n N S l1 l3) S l1 l3 (S.2.2 6 4 j1) 0
set_option maxHeartbeats 4000000 in
set_option maxRecDepth 40000 in
theorem w_X7_leastOfAll_6 {F : xH} {ev : xEv} {prim : xRel} {d sz : Nat} {T : yT} {v : Int64} {hp : xH} (N : Nat) (n : Nat) : ∀ (S : yS) (l1 : Int64) (l3 : Int32) (lv : xLv) (a0 : Nat) (fa0 : yAt T 7 6 0 a0) (g0 : xG lv 0 = some (.ref a0)) (g1 : xG lv 1 = some (.long l1)) (g3 : xG lv 3 = some (.int l3)) (hM : cR [0, 1, 2, 3, 4, 5, 6, 7] F ev T S hp) (h : f_X7_leastOfAll_6 n N S l1 l3 = some v), yWE ev.2.1 (xstr ev) (xCalls ev xmi (xprog ev) prim (d + 0)) (pX7_leastOfAll ev) (6, lv, [], hp, sz, 0) (ypP hp sz (.long v)) := by
  induction n with
  | zero => intro S l1 l3 lv a0 fa0 g0 g1 g3 hM h; exact n_some h
  | succ n ih =>
    intro S l1 l3 lv a0 fa0 g0 g1 g3 hM h
    unfold f_X7_leastOfAll_6 at h
    refine ye_iload rfl g3 ?_
    refine ye_p rfl rfl ?_
    refine ye_aload rfl g0 ?_
    refine ye_getf rfl (hM.obj fa0 ⟨rfl, rfl⟩) rfl ?_
    refine ye_p rfl rfl ?_
    refine ye_icmp_ge rfl (fun h1 => ?_) (fun h1 => ?_)
    · replace h := yiT h1 h
      refine ye_lload rfl g1 ?_
      exact ye_ret rfl rfl (rPJ h)
    · replace h := yiN h1 h
      refine ye_aload rfl g0 ?_
      refine ye_getr rfl (hM.obj fa0 ⟨rfl, rfl⟩) rfl (fun cx1 ecx1 => ?_)
      have fcx1 := yAt.row fa0 ecx1
      refine ye_iload rfl g3 ?_
      obtain ⟨j1, ej1, ij1, h⟩ := gA_some h
      refine yj_lald rfl (hM.arr fcx1 yr_7_4) ij1 ej1 ?_
      refine ye_p rfl rfl ?_
      have g0_z1 := xG_o2 (i := 4) (v := .long (S.2.2 6 4 j1)) g0 rfl
      have g1_z1 := xG_o2 (i := 4) (v := .long (S.2.2 6 4 j1)) g1 rfl
      have g3_z1 := xG_o2 (i := 4) (v := .long (S.2.2 6 4 j1)) g3 rfl
      have g4_z1 := xG_same2 lv 4 (.long (S.2.2 6 4 j1))
      generalize xSt2 lv 4 (.long (S.2.2 6 4 j1)) = lvz1 at g0_z1 g1_z1 g3_z1 g4_z1 ⊢
      refine ye_p rfl rfl ?_
      refine ye_p rfl rfl ?_
      have g0_z2 := xG_o1 (i := 6) (v := .int 0) g0_z1 rfl
      have g1_z2 := xG_o1 (i := 6) (v := .int 0) g1_z1 rfl
      have g3_z2 := xG_o1 (i := 6) (v := .int 0) g3_z1 rfl
      have g4_z2 := xG_o1 (i := 6) (v := .int 0) g4_z1 rfl
      have g6_z2 := xG_same lvz1 6 (.int 0)
      generalize xSt1 lvz1 6 (.int 0) = lvz2 at g0_z2 g1_z2 g3_z2 g4_z2 g6_z2 ⊢
      exact w_X7_leastOfAll_27 (prim := prim) (d := d) N N (fun S l1 l3 => f_X7_leastOfAll_6 n N S l1 l3) ih S l1 l3 (S.2.2 6 4 j1) 0 lvz2 a0 fa0 g0_z2 g1_z2 g3_z2 g4_z2 g6_z2 hM h

def f_X7_leastOfAll_0 (N : Nat) (S : yS) : Option Int64 := f_X7_leastOfAll_6 N N S 1152921504606846976 0
set_option maxHeartbeats 4000000 in
set_option maxRecDepth 40000 in
theorem w_X7_leastOfAll_0 {F : xH} {ev : xEv} {prim : xRel} {d sz : Nat} {T : yT} {v : Int64} {hp : xH} (N : Nat) (S : yS) (lv : xLv) (a0 : Nat) (fa0 : yAt T 7 6 0 a0) (g0 : xG lv 0 = some (.ref a0)) (hM : cR [0, 1, 2, 3, 4, 5, 6, 7] F ev T S hp) (h : f_X7_leastOfAll_0 N S = some v) : yWE ev.2.1 (xstr ev) (xCalls ev xmi (xprog ev) prim (d + 0)) (pX7_leastOfAll ev) (0, lv, [], hp, sz, 0) (ypP hp sz (.long v)) := by
  unfold f_X7_leastOfAll_0 at h
  refine ye_p rfl rfl ?_
  refine ye_p rfl rfl ?_
  have g0_z1 := xG_o2 (i := 1) (v := .long 1152921504606846976) g0 rfl
  have g1_z1 := xG_same2 lv 1 (.long 1152921504606846976)
  generalize xSt2 lv 1 (.long 1152921504606846976) = lvz1 at g0_z1 g1_z1 ⊢
  refine ye_p rfl rfl ?_
  refine ye_p rfl rfl ?_
  have g0_z2 := xG_o1 (i := 3) (v := .int 0) g0_z1 rfl
  have g1_z2 := xG_o1 (i := 3) (v := .int 0) g1_z1 rfl
  have g3_z2 := xG_same lvz1 3 (.int 0)
  generalize xSt1 lvz1 3 (.int 0) = lvz2 at g0_z2 g1_z2 g3_z2 ⊢
  exact w_X7_leastOfAll_6 (prim := prim) (d := d) N N S 1152921504606846976 0 lvz2 a0 fa0 g0_z2 g1_z2 g3_z2 hM h
def f_X7_leastOfAll (N : Nat) (S : yS) : Option Int64 := f_X7_leastOfAll_0 N S
theorem m_X7_leastOfAll {F : xH} {ev : xEv} {prim : xRel} {d : Nat} {T : yT} {v : Int64} (N : Nat) (S : yS) (a0 : Nat) (fa0 : yAt T 7 6 0 a0) (h : f_X7_leastOfAll N S = some v) : ykP [0, 1, 2, 3, 4, 5, 6, 7] F ev prim (d + 1) 83 T S [.ref a0] (.long v) :=
  ykP.of (pg_83 ev) mi_83 (Nat.le_of_ble_eq_true rfl) (fun hp sz hM => w_X7_leastOfAll_0 (prim := prim) (d := d) N S _ a0 fa0 rfl hM h)

def f_X8r_isFull_17 (N : Nat) (S : yS) (t0 : Int32) : Option Int32 := gP (t0 = 0 ∨ t0 = 1) (some t0)
set_option maxHeartbeats 4000000 in
set_option maxRecDepth 40000 in
theorem w_X8r_isFull_17 {F : xH} {ev : xEv} {prim : xRel} {d sz : Nat} {T : yT} {v : Int32} {hp : xH} (N : Nat) (S : yS) (t0 : Int32) (lv : xLv) (hM : cR [0, 1, 2, 3, 4, 5, 6, 7] F ev T S hp) (h : f_X8r_isFull_17 N S t0 = some v) : yWE ev.2.1 (xstr ev) (xCalls ev xmi (xprog ev) prim (d + 0)) (pX8_isFull ev) (17, lv, [.int t0], hp, sz, 0) (ypP hp sz (.int v)) := by
  unfold f_X8r_isFull_17 at h
  obtain ⟨i1, h⟩ := gP_some h
  exact ye_ret rfl (if_pos (zb_nar i1)) (rP h)

def f_X8r_isFull_0 (N : Nat) (S : yS) : Option Int32 := if (S.1 4 0) < (Int32.ofNat 20) then f_X8r_isFull_17 N S 0 else f_X8r_isFull_17 N S 1
set_option maxHeartbeats 4000000 in
set_option maxRecDepth 40000 in
theorem w_X8r_isFull_0 {F : xH} {ev : xEv} {prim : xRel} {d sz : Nat} {T : yT} {v : Int32} {hp : xH} (N : Nat) (S : yS) (lv : xLv) (a0 : Nat) (fa0 : yAt T 14 4 0 a0) (g0 : xG lv 0 = some (.ref a0)) (hM : cR [0, 1, 2, 3, 4, 5, 6, 7] F ev T S hp) (h : f_X8r_isFull_0 N S = some v) : yWE ev.2.1 (xstr ev) (xCalls ev xmi (xprog ev) prim (d + 0)) (pX8_isFull ev) (0, lv, [], hp, sz, 0) (ypP hp sz (.int v)) := by
  unfold f_X8r_isFull_0 at h
  refine ye_aload rfl g0 ?_
  refine ye_getf rfl (hM.obj fa0 ⟨rfl, rfl⟩) rfl ?_
  refine ye_aload rfl g0 ?_
  refine ye_getr rfl (hM.obj fa0 ⟨rfl, rfl⟩) rfl (fun cx1 ecx1 => ?_)
  have fcx1 := yAt.row fa0 ecx1
  refine ye_alen rfl (hM.arr fcx1 yr_14_3) ?_
  refine ye_icmp_lt rfl (fun h1 => ?_) (fun h1 => ?_)
  · replace h := yiT h1 h
    refine ye_p rfl rfl ?_
    exact w_X8r_isFull_17 (prim := prim) (d := d) N S 0 lv hM h
  · replace h := yiN h1 h
    refine ye_p rfl rfl ?_
    refine ye_p rfl rfl ?_
    exact w_X8r_isFull_17 (prim := prim) (d := d) N S 1 lv hM h
def f_X8r_isFull (N : Nat) (S : yS) : Option Int32 := f_X8r_isFull_0 N S
theorem m_X8r_isFull {F : xH} {ev : xEv} {prim : xRel} {d : Nat} {T : yT} {v : Int32} (N : Nat) (S : yS) (a0 : Nat) (fa0 : yAt T 14 4 0 a0) (h : f_X8r_isFull N S = some v) : ykP [0, 1, 2, 3, 4, 5, 6, 7] F ev prim (d + 1) 85 T S [.ref a0] (.int v) :=
  ykP.of (pg_85 ev) mi_85 (Nat.le_of_ble_eq_true rfl) (fun hp sz hM => w_X8r_isFull_0 (prim := prim) (d := d) N S _ a0 fa0 rfl hM h)

def f_X8l_isFull_17 (N : Nat) (S : yS) (t0 : Int32) : Option Int32 := gP (t0 = 0 ∨ t0 = 1) (some t0)
set_option maxHeartbeats 4000000 in
set_option maxRecDepth 40000 in
theorem w_X8l_isFull_17 {F : xH} {ev : xEv} {prim : xRel} {d sz : Nat} {T : yT} {v : Int32} {hp : xH} (N : Nat) (S : yS) (t0 : Int32) (lv : xLv) (hM : cR [0, 1, 2, 3, 4, 5, 6, 7] F ev T S hp) (h : f_X8l_isFull_17 N S t0 = some v) : yWE ev.2.1 (xstr ev) (xCalls ev xmi (xprog ev) prim (d + 0)) (pX8_isFull ev) (17, lv, [.int t0], hp, sz, 0) (ypP hp sz (.int v)) := by
  unfold f_X8l_isFull_17 at h
  obtain ⟨i1, h⟩ := gP_some h
  exact ye_ret rfl (if_pos (zb_nar i1)) (rP h)

def f_X8l_isFull_0 (N : Nat) (S : yS) : Option Int32 := if (S.1 5 0) < (Int32.ofNat 12) then f_X8l_isFull_17 N S 0 else f_X8l_isFull_17 N S 1
set_option maxHeartbeats 4000000 in
set_option maxRecDepth 40000 in
theorem w_X8l_isFull_0 {F : xH} {ev : xEv} {prim : xRel} {d sz : Nat} {T : yT} {v : Int32} {hp : xH} (N : Nat) (S : yS) (lv : xLv) (a0 : Nat) (fa0 : yAt T 8 5 0 a0) (g0 : xG lv 0 = some (.ref a0)) (hM : cR [0, 1, 2, 3, 4, 5, 6, 7] F ev T S hp) (h : f_X8l_isFull_0 N S = some v) : yWE ev.2.1 (xstr ev) (xCalls ev xmi (xprog ev) prim (d + 0)) (pX8_isFull ev) (0, lv, [], hp, sz, 0) (ypP hp sz (.int v)) := by
  unfold f_X8l_isFull_0 at h
  refine ye_aload rfl g0 ?_
  refine ye_getf rfl (hM.obj fa0 ⟨rfl, rfl⟩) rfl ?_
  refine ye_aload rfl g0 ?_
  refine ye_getr rfl (hM.obj fa0 ⟨rfl, rfl⟩) rfl (fun cx1 ecx1 => ?_)
  have fcx1 := yAt.row fa0 ecx1
  refine ye_alen rfl (hM.arr fcx1 yr_8_3) ?_
  refine ye_icmp_lt rfl (fun h1 => ?_) (fun h1 => ?_)
  · replace h := yiT h1 h
    refine ye_p rfl rfl ?_
    exact w_X8l_isFull_17 (prim := prim) (d := d) N S 0 lv hM h
  · replace h := yiN h1 h
    refine ye_p rfl rfl ?_
    refine ye_p rfl rfl ?_
    exact w_X8l_isFull_17 (prim := prim) (d := d) N S 1 lv hM h
def f_X8l_isFull (N : Nat) (S : yS) : Option Int32 := f_X8l_isFull_0 N S
theorem m_X8l_isFull {F : xH} {ev : xEv} {prim : xRel} {d : Nat} {T : yT} {v : Int32} (N : Nat) (S : yS) (a0 : Nat) (fa0 : yAt T 8 5 0 a0) (h : f_X8l_isFull N S = some v) : ykP [0, 1, 2, 3, 4, 5, 6, 7] F ev prim (d + 1) 85 T S [.ref a0] (.int v) :=
  ykP.of (pg_85 ev) mi_85 (Nat.le_of_ble_eq_true rfl) (fun hp sz hM => w_X8l_isFull_0 (prim := prim) (d := d) N S _ a0 fa0 rfl hM h)

def f_X8r_add_0 (N : Nat) (S : yS) (l1 : Int32) (l2 : Int32) (l4 : Int32) : Option (Int32 × yS) := gA 20 (S.1 4 0) fun j1 => sq (yA S 4 3 (upd (S.2.1 4 3) j1 l1)) fun S1 => gA 20 (S1.1 4 0) fun j2 => sq (yA S1 4 4 (upd (S1.2.1 4 4) j2 l2)) fun S2 => gA 20 (S2.1 4 0) fun j3 => sq (yA S2 4 5 (upd (S2.2.1 4 5) j3 l4)) fun S3 => gP (¬ (0 : Int32) < 0 ∧ ¬ ((S3.1 4 0) * 60) < 0 ∧ ¬ l4 < 0 ∧ (0 : Int32).toNatClampNeg + l4.toNatClampNeg ≤ 60 ∧ ((S3.1 4 0) * 60 : Int32).toNatClampNeg + l4.toNatClampNeg ≤ 1200) (sq (yA S3 4 6 (va_cpy (S3.2.1 7 0) (S3.2.1 4 6) (0 : Int32).toNatClampNeg ((S3.1 4 0) * 60 : Int32).toNatClampNeg l4.toNatClampNeg)) fun S4 => sq (yI S4 4 0 ((S4.1 4 0) + 1)) fun S5 => some (S5.1 4 0, S5))
set_option maxHeartbeats 4000000 in
set_option maxRecDepth 40000 in
theorem w_X8r_add_0 {F : xH} {ev : xEv} {prim : xRel} {d sz : Nat} {T : yT} {v : Int32} {S' : yS} (N : Nat) (S : yS) (l1 : Int32) (l2 : Int32) (l4 : Int32) (hp : xH) (lv : xLv) (a0 : Nat) (a3 : Nat) (fa0 : yAt T 14 4 0 a0) (fa3 : yAt T 4 7 1 a3) (g0 : xG lv 0 = some (.ref a0)) (g1 : xG lv 1 = some (.int l1)) (g2 : xG lv 2 = some (.int l2)) (g3 : xG lv 3 = some (.ref a3)) (g4 : xG lv 4 = some (.int l4)) (hM : cR [0, 1, 2, 3, 4, 5, 6, 7] F ev T S hp) (h : f_X8r_add_0 N S l1 l2 l4 = some (v, S')) : yWE ev.2.1 (xstr ev) (xCalls ev xmi (xprog ev) prim (d + 0)) (pX8_add ev) (0, lv, [], hp, sz, 0) (ypQ [0, 1, 2, 3, 4, 5, 6, 7] F ev T sz (some (.int v)) S') := by
  unfold f_X8r_add_0 at h
  refine ye_aload rfl g0 ?_
  refine ye_getr rfl (hM.obj fa0 ⟨rfl, rfl⟩) rfl (fun cx1 ecx1 => ?_)
  have fcx1 := yAt.row fa0 ecx1
  refine ye_aload rfl g0 ?_
  refine ye_getf rfl (hM.obj fa0 ⟨rfl, rfl⟩) rfl ?_
  refine ye_iload rfl g1 ?_
  obtain ⟨j1, ej1, ij1, h⟩ := gA_some h
  obtain ⟨S1, eS1, h⟩ := sq_some h
  refine yw_ast rfl hM fcx1 yr_14_3 (by decide) ij1 ej1 eS1 (fun y1 M1 => ?_)
  refine ye_aload rfl g0 ?_
  refine ye_getr rfl (M1.obj fa0 ⟨rfl, rfl⟩) rfl (fun cx2 ecx2 => ?_)
  have fcx2 := yAt.row fa0 ecx2
  refine ye_aload rfl g0 ?_
  refine ye_getf rfl (M1.obj fa0 ⟨rfl, rfl⟩) rfl ?_
  refine ye_iload rfl g2 ?_
  obtain ⟨j2, ej2, ij2, h⟩ := gA_some h
  obtain ⟨S2, eS2, h⟩ := sq_some h
  refine yw_ast rfl M1 fcx2 yr_14_4 (by decide) ij2 ej2 eS2 (fun y2 M2 => ?_)
  refine ye_aload rfl g0 ?_
  refine ye_getr rfl (M2.obj fa0 ⟨rfl, rfl⟩) rfl (fun cx3 ecx3 => ?_)
  have fcx3 := yAt.row fa0 ecx3
  refine ye_aload rfl g0 ?_
  refine ye_getf rfl (M2.obj fa0 ⟨rfl, rfl⟩) rfl ?_
  refine ye_iload rfl g4 ?_
  obtain ⟨j3, ej3, ij3, h⟩ := gA_some h
  obtain ⟨S3, eS3, h⟩ := sq_some h
  refine yw_ast rfl M2 fcx3 yr_14_5 (by decide) ij3 ej3 eS3 (fun y3 M3 => ?_)
  refine ye_aload rfl g3 ?_
  refine ye_p rfl rfl ?_
  refine ye_aload rfl g0 ?_
  refine ye_getr rfl (M3.obj fa0 ⟨rfl, rfl⟩) rfl (fun cx4 ecx4 => ?_)
  have fcx4 := yAt.row fa0 ecx4
  refine ye_aload rfl g0 ?_
  refine ye_getf rfl (M3.obj fa0 ⟨rfl, rfl⟩) rfl ?_
  refine ye_p rfl rfl ?_
  refine ye_p rfl rfl ?_
  refine ye_iload rfl g4 ?_
  obtain ⟨i1, h⟩ := gP_some h
  obtain ⟨S4, eS4, h⟩ := sq_some h
  refine yw_copy rfl M3 fa3 yr_4_0 fcx4 yr_14_6 i1 (Nat.le_of_ble_eq_true rfl) eS4 (fun y4 M4 => ?_)
  refine ye_aload rfl g0 ?_
  refine ye_p rfl rfl ?_
  refine ye_getf rfl (M4.obj fa0 ⟨rfl, rfl⟩) rfl ?_
  refine ye_p rfl rfl ?_
  refine ye_p rfl rfl ?_
  obtain ⟨S5, eS5, h⟩ := sq_some h
  refine yw_putI rfl M4 fa0 rfl ⟨rfl, rfl⟩ (Nat.le_of_ble_eq_true rfl) rfl rfl (ys_14_0 ev T _ ((S4.1 4 0) + 1)) (fun q => absurd q (by decide)) eS5 (fun y5 M5 => ?_)
  refine ye_aload rfl g0 ?_
  refine ye_getf rfl (M5.obj fa0 ⟨rfl, rfl⟩) rfl ?_
  exact ye_ret rfl rfl (rQ h M5)
def f_X8r_add (N : Nat) (S : yS) (xl1 : Int32) (xl2 : Int32) (xl4 : Int32) : Option (Int32 × yS) := f_X8r_add_0 N S xl1 xl2 xl4
theorem m_X8r_add {F : xH} {ev : xEv} {prim : xRel} {d : Nat} {T : yT} {v : Int32} {S' : yS} (N : Nat) (S : yS) (xl1 : Int32) (xl2 : Int32) (xl4 : Int32) (a0 : Nat) (a3 : Nat) (fa0 : yAt T 14 4 0 a0) (fa3 : yAt T 4 7 1 a3) (h : f_X8r_add N S xl1 xl2 xl4 = some (v, S')) : ykQ [0, 1, 2, 3, 4, 5, 6, 7] F ev prim (d + 1) 86 T S [.ref a0, .int xl1, .int xl2, .ref a3, .int xl4] (some (.int v)) S' :=
  ykQ.of (pg_86 ev) mi_86 (Nat.le_of_ble_eq_true rfl) (fun hp sz hM => w_X8r_add_0 (prim := prim) (d := d) N S xl1 xl2 xl4 hp _ a0 a3 fa0 fa3 rfl rfl rfl rfl rfl hM h)

def f_X8l_add_0 (N : Nat) (S : yS) (l1 : Int32) (l2 : Int32) (l4 : Int32) : Option (Int32 × yS) := gA 12 (S.1 5 0) fun j1 => sq (yA S 5 3 (upd (S.2.1 5 3) j1 l1)) fun S1 => gA 12 (S1.1 5 0) fun j2 => sq (yA S1 5 4 (upd (S1.2.1 5 4) j2 l2)) fun S2 => gA 12 (S2.1 5 0) fun j3 => sq (yA S2 5 5 (upd (S2.2.1 5 5) j3 l4)) fun S3 => gP (¬ (0 : Int32) < 0 ∧ ¬ ((S3.1 5 0) * 60) < 0 ∧ ¬ l4 < 0 ∧ (0 : Int32).toNatClampNeg + l4.toNatClampNeg ≤ 60 ∧ ((S3.1 5 0) * 60 : Int32).toNatClampNeg + l4.toNatClampNeg ≤ 720) (sq (yA S3 5 6 (va_cpy (S3.2.1 7 0) (S3.2.1 5 6) (0 : Int32).toNatClampNeg ((S3.1 5 0) * 60 : Int32).toNatClampNeg l4.toNatClampNeg)) fun S4 => sq (yI S4 5 0 ((S4.1 5 0) + 1)) fun S5 => some (S5.1 5 0, S5))
set_option maxHeartbeats 4000000 in
set_option maxRecDepth 40000 in
theorem w_X8l_add_0 {F : xH} {ev : xEv} {prim : xRel} {d sz : Nat} {T : yT} {v : Int32} {S' : yS} (N : Nat) (S : yS) (l1 : Int32) (l2 : Int32) (l4 : Int32) (hp : xH) (lv : xLv) (a0 : Nat) (a3 : Nat) (fa0 : yAt T 8 5 0 a0) (fa3 : yAt T 4 7 1 a3) (g0 : xG lv 0 = some (.ref a0)) (g1 : xG lv 1 = some (.int l1)) (g2 : xG lv 2 = some (.int l2)) (g3 : xG lv 3 = some (.ref a3)) (g4 : xG lv 4 = some (.int l4)) (hM : cR [0, 1, 2, 3, 4, 5, 6, 7] F ev T S hp) (h : f_X8l_add_0 N S l1 l2 l4 = some (v, S')) : yWE ev.2.1 (xstr ev) (xCalls ev xmi (xprog ev) prim (d + 0)) (pX8_add ev) (0, lv, [], hp, sz, 0) (ypQ [0, 1, 2, 3, 4, 5, 6, 7] F ev T sz (some (.int v)) S') := by
  unfold f_X8l_add_0 at h
  refine ye_aload rfl g0 ?_
  refine ye_getr rfl (hM.obj fa0 ⟨rfl, rfl⟩) rfl (fun cx1 ecx1 => ?_)
  have fcx1 := yAt.row fa0 ecx1
  refine ye_aload rfl g0 ?_
  refine ye_getf rfl (hM.obj fa0 ⟨rfl, rfl⟩) rfl ?_
  refine ye_iload rfl g1 ?_
  obtain ⟨j1, ej1, ij1, h⟩ := gA_some h
  obtain ⟨S1, eS1, h⟩ := sq_some h
  refine yw_ast rfl hM fcx1 yr_8_3 (by decide) ij1 ej1 eS1 (fun y1 M1 => ?_)
  refine ye_aload rfl g0 ?_
  refine ye_getr rfl (M1.obj fa0 ⟨rfl, rfl⟩) rfl (fun cx2 ecx2 => ?_)
  have fcx2 := yAt.row fa0 ecx2
  refine ye_aload rfl g0 ?_
  refine ye_getf rfl (M1.obj fa0 ⟨rfl, rfl⟩) rfl ?_
  refine ye_iload rfl g2 ?_
  obtain ⟨j2, ej2, ij2, h⟩ := gA_some h
  obtain ⟨S2, eS2, h⟩ := sq_some h
  refine yw_ast rfl M1 fcx2 yr_8_4 (by decide) ij2 ej2 eS2 (fun y2 M2 => ?_)
  refine ye_aload rfl g0 ?_
  refine ye_getr rfl (M2.obj fa0 ⟨rfl, rfl⟩) rfl (fun cx3 ecx3 => ?_)
  have fcx3 := yAt.row fa0 ecx3
  refine ye_aload rfl g0 ?_
  refine ye_getf rfl (M2.obj fa0 ⟨rfl, rfl⟩) rfl ?_
  refine ye_iload rfl g4 ?_
  obtain ⟨j3, ej3, ij3, h⟩ := gA_some h
  obtain ⟨S3, eS3, h⟩ := sq_some h
  refine yw_ast rfl M2 fcx3 yr_8_5 (by decide) ij3 ej3 eS3 (fun y3 M3 => ?_)
  refine ye_aload rfl g3 ?_
  refine ye_p rfl rfl ?_
  refine ye_aload rfl g0 ?_
  refine ye_getr rfl (M3.obj fa0 ⟨rfl, rfl⟩) rfl (fun cx4 ecx4 => ?_)
  have fcx4 := yAt.row fa0 ecx4
  refine ye_aload rfl g0 ?_
  refine ye_getf rfl (M3.obj fa0 ⟨rfl, rfl⟩) rfl ?_
  refine ye_p rfl rfl ?_
  refine ye_p rfl rfl ?_
  refine ye_iload rfl g4 ?_
  obtain ⟨i1, h⟩ := gP_some h
  obtain ⟨S4, eS4, h⟩ := sq_some h
  refine yw_copy rfl M3 fa3 yr_4_0 fcx4 yr_8_6 i1 (Nat.le_of_ble_eq_true rfl) eS4 (fun y4 M4 => ?_)
  refine ye_aload rfl g0 ?_
  refine ye_p rfl rfl ?_
  refine ye_getf rfl (M4.obj fa0 ⟨rfl, rfl⟩) rfl ?_
  refine ye_p rfl rfl ?_
  refine ye_p rfl rfl ?_
  obtain ⟨S5, eS5, h⟩ := sq_some h
  refine yw_putI rfl M4 fa0 rfl ⟨rfl, rfl⟩ (Nat.le_of_ble_eq_true rfl) rfl rfl (ys_8_0 ev T _ ((S4.1 5 0) + 1)) (fun q => absurd q (by decide)) eS5 (fun y5 M5 => ?_)
  refine ye_aload rfl g0 ?_
  refine ye_getf rfl (M5.obj fa0 ⟨rfl, rfl⟩) rfl ?_
  exact ye_ret rfl rfl (rQ h M5)
def f_X8l_add (N : Nat) (S : yS) (xl1 : Int32) (xl2 : Int32) (xl4 : Int32) : Option (Int32 × yS) := f_X8l_add_0 N S xl1 xl2 xl4
theorem m_X8l_add {F : xH} {ev : xEv} {prim : xRel} {d : Nat} {T : yT} {v : Int32} {S' : yS} (N : Nat) (S : yS) (xl1 : Int32) (xl2 : Int32) (xl4 : Int32) (a0 : Nat) (a3 : Nat) (fa0 : yAt T 8 5 0 a0) (fa3 : yAt T 4 7 1 a3) (h : f_X8l_add N S xl1 xl2 xl4 = some (v, S')) : ykQ [0, 1, 2, 3, 4, 5, 6, 7] F ev prim (d + 1) 86 T S [.ref a0, .int xl1, .int xl2, .ref a3, .int xl4] (some (.int v)) S' :=
  ykQ.of (pg_86 ev) mi_86 (Nat.le_of_ble_eq_true rfl) (fun hp sz hM => w_X8l_add_0 (prim := prim) (d := d) N S xl1 xl2 xl4 hp _ a0 a3 fa0 fa3 rfl rfl rfl rfl rfl hM h)

def f_X8r_inForce_72 (N : Nat) (k5 : yS → Int32 → Int32 → Int32 → Int32 → Option Int32) (S : yS) (l1 : Int32) (l2 : Int32) (l3 : Int32) (l4 : Int32) : Option Int32 := k5 S l1 l2 l3 (l4 + 1)
set_option maxHeartbeats 4000000 in
set_option maxRecDepth 40000 in
theorem w_X8r_inForce_72 {F : xH} {ev : xEv} {prim : xRel} {d sz : Nat} {T : yT} {v : Int32} {hp : xH} (N : Nat) (k5 : yS → Int32 → Int32 → Int32 → Int32 → Option Int32) (u5 : ∀ (S : yS) (l1 : Int32) (l2 : Int32) (l3 : Int32) (l4 : Int32) (lv : xLv) (a0 : Nat) (fa0 : yAt T 14 4 0 a0) (g0 : xG lv 0 = some (.ref a0)) (g1 : xG lv 1 = some (.int l1)) (g2 : xG lv 2 = some (.int l2)) (g3 : xG lv 3 = some (.int l3)) (g4 : xG lv 4 = some (.int l4)) (hM : cR [0, 1, 2, 3, 4, 5, 6, 7] F ev T S hp) (h : k5 S l1 l2 l3 l4 = some v), yWE ev.2.1 (xstr ev) (xCalls ev xmi (xprog ev) prim (d + 0)) (pX8_inForce ev) (5, lv, [], hp, sz, 0) (ypP hp sz (.int v))) (S : yS) (l1 : Int32) (l2 : Int32) (l3 : Int32) (l4 : Int32) (lv : xLv) (a0 : Nat) (fa0 : yAt T 14 4 0 a0) (g0 : xG lv 0 = some (.ref a0)) (g1 : xG lv 1 = some (.int l1)) (g2 : xG lv 2 = some (.int l2)) (g3 : xG lv 3 = some (.int l3)) (g4 : xG lv 4 = some (.int l4)) (hM : cR [0, 1, 2, 3, 4, 5, 6, 7] F ev T S hp) (h : f_X8r_inForce_72 N k5 S l1 l2 l3 l4 = some v) : yWE ev.2.1 (xstr ev) (xCalls ev xmi (xprog ev) prim (d + 0)) (pX8_inForce ev) (72, lv, [], hp, sz, 0) (ypP hp sz (.int v)) := by
  unfold f_X8r_inForce_72 at h
  refine ye_iinc rfl g4 ?_
  have g0_z1 := xG_o1 (i := 4) (v := .int (l4 + 1)) g0 rfl
  have g1_z1 := xG_o1 (i := 4) (v := .int (l4 + 1)) g1 rfl
  have g2_z1 := xG_o1 (i := 4) (v := .int (l4 + 1)) g2 rfl
  have g3_z1 := xG_o1 (i := 4) (v := .int (l4 + 1)) g3 rfl
  have g4_z1 := xG_same lv 4 (.int (l4 + 1))
  generalize xSt1 lv 4 (.int (l4 + 1)) = lvz1 at g0_z1 g1_z1 g2_z1 g3_z1 g4_z1 ⊢
  refine ye_p rfl rfl ?_
  exact u5 S l1 l2 l3 (l4 + 1) lvz1 a0 fa0 g0_z1 g1_z1 g2_z1 g3_z1 g4_z1 hM h

def f_X8r_inForce_69 (N : Nat) (k5 : yS → Int32 → Int32 → Int32 → Int32 → Option Int32) (S : yS) (l1 : Int32) (l2 : Int32) (l4 : Int32) : Option Int32 := f_X8r_inForce_72 N k5 S l1 l2 l4 l4
set_option maxHeartbeats 4000000 in
set_option maxRecDepth 40000 in
theorem w_X8r_inForce_69 {F : xH} {ev : xEv} {prim : xRel} {d sz : Nat} {T : yT} {v : Int32} {hp : xH} (N : Nat) (k5 : yS → Int32 → Int32 → Int32 → Int32 → Option Int32) (u5 : ∀ (S : yS) (l1 : Int32) (l2 : Int32) (l3 : Int32) (l4 : Int32) (lv : xLv) (a0 : Nat) (fa0 : yAt T 14 4 0 a0) (g0 : xG lv 0 = some (.ref a0)) (g1 : xG lv 1 = some (.int l1)) (g2 : xG lv 2 = some (.int l2)) (g3 : xG lv 3 = some (.int l3)) (g4 : xG lv 4 = some (.int l4)) (hM : cR [0, 1, 2, 3, 4, 5, 6, 7] F ev T S hp) (h : k5 S l1 l2 l3 l4 = some v), yWE ev.2.1 (xstr ev) (xCalls ev xmi (xprog ev) prim (d + 0)) (pX8_inForce ev) (5, lv, [], hp, sz, 0) (ypP hp sz (.int v))) (S : yS) (l1 : Int32) (l2 : Int32) (l4 : Int32) (lv : xLv) (a0 : Nat) (fa0 : yAt T 14 4 0 a0) (g0 : xG lv 0 = some (.ref a0)) (g1 : xG lv 1 = some (.int l1)) (g2 : xG lv 2 = some (.int l2)) (g4 : xG lv 4 = some (.int l4)) (hM : cR [0, 1, 2, 3, 4, 5, 6, 7] F ev T S hp) (h : f_X8r_inForce_69 N k5 S l1 l2 l4 = some v) : yWE ev.2.1 (xstr ev) (xCalls ev xmi (xprog ev) prim (d + 0)) (pX8_inForce ev) (69, lv, [], hp, sz, 0) (ypP hp sz (.int v)) := by
  unfold f_X8r_inForce_69 at h
  refine ye_iload rfl g4 ?_
  refine ye_p rfl rfl ?_
  have g0_z1 := xG_o1 (i := 3) (v := .int l4) g0 rfl
  have g1_z1 := xG_o1 (i := 3) (v := .int l4) g1 rfl
  have g2_z1 := xG_o1 (i := 3) (v := .int l4) g2 rfl
  have g4_z1 := xG_o1 (i := 3) (v := .int l4) g4 rfl
  have g3_z1 := xG_same lv 3 (.int l4)
  generalize xSt1 lv 3 (.int l4) = lvz1 at g0_z1 g1_z1 g2_z1 g4_z1 g3_z1 ⊢
  exact w_X8r_inForce_72 (prim := prim) (d := d) N k5 u5 S l1 l2 l4 l4 lvz1 a0 fa0 g0_z1 g1_z1 g2_z1 g3_z1 g4_z1 hM h

def f_X8r_inForce_41 (N : Nat) (k5 : yS → Int32 → Int32 → Int32 → Int32 → Option Int32) (S : yS) (l1 : Int32) (l2 : Int32) (l3 : Int32) (l4 : Int32) (t0 : Int32) : Option Int32 := if t0 = 0 then f_X8r_inForce_72 N k5 S l1 l2 l3 l4 else if l3 = ((-1)) then f_X8r_inForce_69 N k5 S l1 l2 l4 else gA 20 l4 fun j1 => gA 20 l3 fun j2 => if (S.2.1 4 4 j1) < (S.2.1 4 4 j2) then f_X8r_inForce_72 N k5 S l1 l2 l3 l4 else f_X8r_inForce_69 N k5 S l1 l2 l4
set_option maxHeartbeats 4000000 in
set_option maxRecDepth 40000 in
theorem w_X8r_inForce_41 {F : xH} {ev : xEv} {prim : xRel} {d sz : Nat} {T : yT} {v : Int32} {hp : xH} (N : Nat) (k5 : yS → Int32 → Int32 → Int32 → Int32 → Option Int32) (u5 : ∀ (S : yS) (l1 : Int32) (l2 : Int32) (l3 : Int32) (l4 : Int32) (lv : xLv) (a0 : Nat) (fa0 : yAt T 14 4 0 a0) (g0 : xG lv 0 = some (.ref a0)) (g1 : xG lv 1 = some (.int l1)) (g2 : xG lv 2 = some (.int l2)) (g3 : xG lv 3 = some (.int l3)) (g4 : xG lv 4 = some (.int l4)) (hM : cR [0, 1, 2, 3, 4, 5, 6, 7] F ev T S hp) (h : k5 S l1 l2 l3 l4 = some v), yWE ev.2.1 (xstr ev) (xCalls ev xmi (xprog ev) prim (d + 0)) (pX8_inForce ev) (5, lv, [], hp, sz, 0) (ypP hp sz (.int v))) (S : yS) (l1 : Int32) (l2 : Int32) (l3 : Int32) (l4 : Int32) (t0 : Int32) (lv : xLv) (a0 : Nat) (fa0 : yAt T 14 4 0 a0) (g0 : xG lv 0 = some (.ref a0)) (g1 : xG lv 1 = some (.int l1)) (g2 : xG lv 2 = some (.int l2)) (g3 : xG lv 3 = some (.int l3)) (g4 : xG lv 4 = some (.int l4)) (hM : cR [0, 1, 2, 3, 4, 5, 6, 7] F ev T S hp) (h : f_X8r_inForce_41 N k5 S l1 l2 l3 l4 t0 = some v) : yWE ev.2.1 (xstr ev) (xCalls ev xmi (xprog ev) prim (d + 0)) (pX8_inForce ev) (41, lv, [.int t0], hp, sz, 0) (ypP hp sz (.int v)) := by
  unfold f_X8r_inForce_41 at h
  refine ye_p rfl rfl ?_
  have g0_z1 := xG_o1 (i := 5) (v := .int t0) g0 rfl
  have g1_z1 := xG_o1 (i := 5) (v := .int t0) g1 rfl
  have g2_z1 := xG_o1 (i := 5) (v := .int t0) g2 rfl
  have g3_z1 := xG_o1 (i := 5) (v := .int t0) g3 rfl
  have g4_z1 := xG_o1 (i := 5) (v := .int t0) g4 rfl
  have g5_z1 := xG_same lv 5 (.int t0)
  generalize xSt1 lv 5 (.int t0) = lvz1 at g0_z1 g1_z1 g2_z1 g3_z1 g4_z1 g5_z1 ⊢
  refine ye_iload rfl g5_z1 ?_
  refine ye_if_eq rfl (fun h1 => ?_) (fun h1 => ?_)
  · replace h := yiT h1 h
    exact w_X8r_inForce_72 (prim := prim) (d := d) N k5 u5 S l1 l2 l3 l4 lvz1 a0 fa0 g0_z1 g1_z1 g2_z1 g3_z1 g4_z1 hM h
  · replace h := yiN h1 h
    refine ye_iload rfl g3_z1 ?_
    refine ye_p rfl rfl ?_
    refine ye_icmp_eq rfl (fun h2 => ?_) (fun h2 => ?_)
    · replace h := yiT h2 h
      exact w_X8r_inForce_69 (prim := prim) (d := d) N k5 u5 S l1 l2 l4 lvz1 a0 fa0 g0_z1 g1_z1 g2_z1 g4_z1 hM h
    · replace h := yiN h2 h
      refine ye_aload rfl g0_z1 ?_
      refine ye_getr rfl (hM.obj fa0 ⟨rfl, rfl⟩) rfl (fun cx1 ecx1 => ?_)
      have fcx1 := yAt.row fa0 ecx1
      refine ye_iload rfl g4_z1 ?_
      obtain ⟨j1, ej1, ij1, h⟩ := gA_some h
      refine yj_ald rfl (hM.arr fcx1 yr_14_4) ij1 ej1 ?_
      refine ye_aload rfl g0_z1 ?_
      refine ye_getr rfl (hM.obj fa0 ⟨rfl, rfl⟩) rfl (fun cx2 ecx2 => ?_)
      have fcx2 := yAt.row fa0 ecx2
      refine ye_iload rfl g3_z1 ?_
      obtain ⟨j2, ej2, ij2, h⟩ := gA_some h
      refine yj_ald rfl (hM.arr fcx2 yr_14_4) ij2 ej2 ?_
      refine ye_icmp_lt rfl (fun h3 => ?_) (fun h3 => ?_)
      · replace h := yiT h3 h
        exact w_X8r_inForce_72 (prim := prim) (d := d) N k5 u5 S l1 l2 l3 l4 lvz1 a0 fa0 g0_z1 g1_z1 g2_z1 g3_z1 g4_z1 hM h
      · replace h := yiN h3 h
        exact w_X8r_inForce_69 (prim := prim) (d := d) N k5 u5 S l1 l2 l4 lvz1 a0 fa0 g0_z1 g1_z1 g2_z1 g4_z1 hM h

def f_X8r_inForce_40 (N : Nat) (k5 : yS → Int32 → Int32 → Int32 → Int32 → Option Int32) (S : yS) (l1 : Int32) (l2 : Int32) (l3 : Int32) (l4 : Int32) : Option Int32 := f_X8r_inForce_41 N k5 S l1 l2 l3 l4 0
set_option maxHeartbeats 4000000 in
set_option maxRecDepth 40000 in
theorem w_X8r_inForce_40 {F : xH} {ev : xEv} {prim : xRel} {d sz : Nat} {T : yT} {v : Int32} {hp : xH} (N : Nat) (k5 : yS → Int32 → Int32 → Int32 → Int32 → Option Int32) (u5 : ∀ (S : yS) (l1 : Int32) (l2 : Int32) (l3 : Int32) (l4 : Int32) (lv : xLv) (a0 : Nat) (fa0 : yAt T 14 4 0 a0) (g0 : xG lv 0 = some (.ref a0)) (g1 : xG lv 1 = some (.int l1)) (g2 : xG lv 2 = some (.int l2)) (g3 : xG lv 3 = some (.int l3)) (g4 : xG lv 4 = some (.int l4)) (hM : cR [0, 1, 2, 3, 4, 5, 6, 7] F ev T S hp) (h : k5 S l1 l2 l3 l4 = some v), yWE ev.2.1 (xstr ev) (xCalls ev xmi (xprog ev) prim (d + 0)) (pX8_inForce ev) (5, lv, [], hp, sz, 0) (ypP hp sz (.int v))) (S : yS) (l1 : Int32) (l2 : Int32) (l3 : Int32) (l4 : Int32) (lv : xLv) (a0 : Nat) (fa0 : yAt T 14 4 0 a0) (g0 : xG lv 0 = some (.ref a0)) (g1 : xG lv 1 = some (.int l1)) (g2 : xG lv 2 = some (.int l2)) (g3 : xG lv 3 = some (.int l3)) (g4 : xG lv 4 = some (.int l4)) (hM : cR [0, 1, 2, 3, 4, 5, 6, 7] F ev T S hp) (h : f_X8r_inForce_40 N k5 S l1 l2 l3 l4 = some v) : yWE ev.2.1 (xstr ev) (xCalls ev xmi (xprog ev) prim (d + 0)) (pX8_inForce ev) (40, lv, [], hp, sz, 0) (ypP hp sz (.int v)) := by
  unfold f_X8r_inForce_40 at h
  refine ye_p rfl rfl ?_
  exact w_X8r_inForce_41 (prim := prim) (d := d) N k5 u5 S l1 l2 l3 l4 0 lv a0 fa0 g0 g1 g2 g3 g4 hM h

def f_X8r_inForce_5 : Nat → Nat → yS → Int32 → Int32 → Int32 → Int32 → Option Int32
  | 0, _, _, _, _, _, _ => none
  | n + 1, N, S, l1, l2, l3, l4 => if (S.1 4 0) ≤ l4 then some l3 else gA 20 l4 fun j1 => if ¬ (S.2.1 4 3 j1) = l1 then f_X8r_inForce_40 N (fun S l1 l2 l3 l4 => f_X8r_inForce_5 n N S l1 l2 l3 l4) S l1 l2 l3 l4 else gA 20 l4 fun j2 => if l2 < (S.2.1 4 4 j2) then f_X8r_inForce_40 N (fun S l1 l2 l3 l4 => f_X8r_inForce_5 n N S l1 l2 l3 l4) S l1 l2 l3 l4 else f_X8r_inForce_41 N (fun S l1 l2 l3 l4 => f_X8r_inForce_5 n N S l1 l2 l3 l4) S l1 l2 l3 l4 1
set_option maxHeartbeats 4000000 in
set_option maxRecDepth 40000 in
theorem w_X8r_inForce_5 {F : xH} {ev : xEv} {prim : xRel} {d sz : Nat} {T : yT} {v : Int32} {hp : xH} (N : Nat) (n : Nat) : ∀ (S : yS) (l1 : Int32) (l2 : Int32) (l3 : Int32) (l4 : Int32) (lv : xLv) (a0 : Nat) (fa0 : yAt T 14 4 0 a0) (g0 : xG lv 0 = some (.ref a0)) (g1 : xG lv 1 = some (.int l1)) (g2 : xG lv 2 = some (.int l2)) (g3 : xG lv 3 = some (.int l3)) (g4 : xG lv 4 = some (.int l4)) (hM : cR [0, 1, 2, 3, 4, 5, 6, 7] F ev T S hp) (h : f_X8r_inForce_5 n N S l1 l2 l3 l4 = some v), yWE ev.2.1 (xstr ev) (xCalls ev xmi (xprog ev) prim (d + 0)) (pX8_inForce ev) (5, lv, [], hp, sz, 0) (ypP hp sz (.int v)) := by
  induction n with
  | zero => intro S l1 l2 l3 l4 lv a0 fa0 g0 g1 g2 g3 g4 hM h; exact n_some h
  | succ n ih =>
    intro S l1 l2 l3 l4 lv a0 fa0 g0 g1 g2 g3 g4 hM h
    unfold f_X8r_inForce_5 at h
    refine ye_iload rfl g4 ?_
    refine ye_aload rfl g0 ?_
    refine ye_getf rfl (hM.obj fa0 ⟨rfl, rfl⟩) rfl ?_
    refine ye_icmp_ge rfl (fun h1 => ?_) (fun h1 => ?_)
    · replace h := yiT h1 h
      refine ye_iload rfl g3 ?_
      exact ye_ret rfl rfl (rP h)
    · replace h := yiN h1 h
      refine ye_aload rfl g0 ?_
      refine ye_getr rfl (hM.obj fa0 ⟨rfl, rfl⟩) rfl (fun cx1 ecx1 => ?_)
      have fcx1 := yAt.row fa0 ecx1
      refine ye_iload rfl g4 ?_
      obtain ⟨j1, ej1, ij1, h⟩ := gA_some h
      refine yj_ald rfl (hM.arr fcx1 yr_14_3) ij1 ej1 ?_
      refine ye_iload rfl g1 ?_
      refine ye_icmp_ne rfl (fun h2 => ?_) (fun h2 => ?_)
      · replace h := yiT h2 h
        exact w_X8r_inForce_40 (prim := prim) (d := d) N (fun S l1 l2 l3 l4 => f_X8r_inForce_5 n N S l1 l2 l3 l4) ih S l1 l2 l3 l4 lv a0 fa0 g0 g1 g2 g3 g4 hM h
      · replace h := yiN h2 h
        refine ye_aload rfl g0 ?_
        refine ye_getr rfl (hM.obj fa0 ⟨rfl, rfl⟩) rfl (fun cx2 ecx2 => ?_)
        have fcx2 := yAt.row fa0 ecx2
        refine ye_iload rfl g4 ?_
        obtain ⟨j2, ej2, ij2, h⟩ := gA_some h
        refine yj_ald rfl (hM.arr fcx2 yr_14_4) ij2 ej2 ?_
        refine ye_iload rfl g2 ?_
        refine ye_icmp_gt rfl (fun h3 => ?_) (fun h3 => ?_)
        · replace h := yiT h3 h
          exact w_X8r_inForce_40 (prim := prim) (d := d) N (fun S l1 l2 l3 l4 => f_X8r_inForce_5 n N S l1 l2 l3 l4) ih S l1 l2 l3 l4 lv a0 fa0 g0 g1 g2 g3 g4 hM h
        · replace h := yiN h3 h
          refine ye_p rfl rfl ?_
          refine ye_p rfl rfl ?_
          exact w_X8r_inForce_41 (prim := prim) (d := d) N (fun S l1 l2 l3 l4 => f_X8r_inForce_5 n N S l1 l2 l3 l4) ih S l1 l2 l3 l4 1 lv a0 fa0 g0 g1 g2 g3 g4 hM h

def f_X8r_inForce_0 (N : Nat) (S : yS) (l1 : Int32) (l2 : Int32) : Option Int32 := f_X8r_inForce_5 N N S l1 l2 ((-1)) 0
set_option maxHeartbeats 4000000 in
set_option maxRecDepth 40000 in
theorem w_X8r_inForce_0 {F : xH} {ev : xEv} {prim : xRel} {d sz : Nat} {T : yT} {v : Int32} {hp : xH} (N : Nat) (S : yS) (l1 : Int32) (l2 : Int32) (lv : xLv) (a0 : Nat) (fa0 : yAt T 14 4 0 a0) (g0 : xG lv 0 = some (.ref a0)) (g1 : xG lv 1 = some (.int l1)) (g2 : xG lv 2 = some (.int l2)) (hM : cR [0, 1, 2, 3, 4, 5, 6, 7] F ev T S hp) (h : f_X8r_inForce_0 N S l1 l2 = some v) : yWE ev.2.1 (xstr ev) (xCalls ev xmi (xprog ev) prim (d + 0)) (pX8_inForce ev) (0, lv, [], hp, sz, 0) (ypP hp sz (.int v)) := by
  unfold f_X8r_inForce_0 at h
  refine ye_p rfl rfl ?_
  refine ye_p rfl rfl ?_
  have g0_z1 := xG_o1 (i := 3) (v := .int ((-1))) g0 rfl
  have g1_z1 := xG_o1 (i := 3) (v := .int ((-1))) g1 rfl
  have g2_z1 := xG_o1 (i := 3) (v := .int ((-1))) g2 rfl
  have g3_z1 := xG_same lv 3 (.int ((-1)))
  generalize xSt1 lv 3 (.int ((-1))) = lvz1 at g0_z1 g1_z1 g2_z1 g3_z1 ⊢
  refine ye_p rfl rfl ?_
  refine ye_p rfl rfl ?_
  have g0_z2 := xG_o1 (i := 4) (v := .int 0) g0_z1 rfl
  have g1_z2 := xG_o1 (i := 4) (v := .int 0) g1_z1 rfl
  have g2_z2 := xG_o1 (i := 4) (v := .int 0) g2_z1 rfl
  have g3_z2 := xG_o1 (i := 4) (v := .int 0) g3_z1 rfl
  have g4_z2 := xG_same lvz1 4 (.int 0)
  generalize xSt1 lvz1 4 (.int 0) = lvz2 at g0_z2 g1_z2 g2_z2 g3_z2 g4_z2 ⊢
  exact w_X8r_inForce_5 (prim := prim) (d := d) N N S l1 l2 ((-1)) 0 lvz2 a0 fa0 g0_z2 g1_z2 g2_z2 g3_z2 g4_z2 hM h
def f_X8r_inForce (N : Nat) (S : yS) (xl1 : Int32) (xl2 : Int32) : Option Int32 := f_X8r_inForce_0 N S xl1 xl2
theorem m_X8r_inForce {F : xH} {ev : xEv} {prim : xRel} {d : Nat} {T : yT} {v : Int32} (N : Nat) (S : yS) (xl1 : Int32) (xl2 : Int32) (a0 : Nat) (fa0 : yAt T 14 4 0 a0) (h : f_X8r_inForce N S xl1 xl2 = some v) : ykP [0, 1, 2, 3, 4, 5, 6, 7] F ev prim (d + 1) 87 T S [.ref a0, .int xl1, .int xl2] (.int v) :=
  ykP.of (pg_87 ev) mi_87 (Nat.le_of_ble_eq_true rfl) (fun hp sz hM => w_X8r_inForce_0 (prim := prim) (d := d) N S xl1 xl2 _ a0 fa0 rfl rfl rfl hM h)
