
def f_X0_putAt_50 (N : Nat) (S : yS) : Option (Int32 × yS) := some (0, S)
set_option maxHeartbeats 4000000 in
set_option maxRecDepth 40000 in
theorem w_X0_putAt_50 {F : xH} {ev : xEv} {prim : xRel} {d sz : Nat} {T : yT} {v : Int32} {S' : yS} (N : Nat) (S : yS) (hp : xH) (lv : xLv) (hM : cR [0, 1, 2, 3, 4, 5, 6, 7] F ev T S hp) (h : f_X0_putAt_50 N S = some (v, S')) : yWE ev.2.1 (xstr ev) (xCalls ev xmi (xprog ev) prim (d + 1)) (pX0_putAt ev) (50, lv, [], hp, sz, 0) (ypQ [0, 1, 2, 3, 4, 5, 6, 7] F ev T sz (none) S') := by
  unfold f_X0_putAt_50 at h
  exact ye_ret rfl rfl (rQV h hM)

def f_X0_putAt_0 (N : Nat) (S : yS) (p0 : Nat) (l1 : Int32) (l2 : Int32) : Option (Int32 × yS) := sq (yI S p0 6 ((-1))) fun S1 => sq (yI S1 p0 7 ((-1))) fun S2 => if ¬ l1 = (S2.1 p0 1) then sq (yI S2 p0 5 l1) fun S3 => bS (f_X0_addStep N S3 p0 l2 l1) fun w1 S4 => f_X0_putAt_50 N S4 else sq (yI S2 p0 5 ((-1))) fun S5 => sq (yI S5 p0 8 l2) fun S6 => bS (f_X0_addStep N S6 p0 l2 300) fun w2 S7 => f_X0_putAt_50 N S7
set_option maxHeartbeats 4000000 in
set_option maxRecDepth 40000 in
theorem w_X0_putAt_0 {F : xH} {ev : xEv} {prim : xRel} {d sz : Nat} {T : yT} {v : Int32} {S' : yS} (N : Nat) (S : yS) (p0 : Nat) (l1 : Int32) (l2 : Int32) (hp : xH) (lv : xLv) (a0 : Nat) (fa0 : yAt T 0 p0 0 a0) (g0 : xG lv 0 = some (.ref a0)) (g1 : xG lv 1 = some (.int l1)) (g2 : xG lv 2 = some (.int l2)) (hM : cR [0, 1, 2, 3, 4, 5, 6, 7] F ev T S hp) (h : f_X0_putAt_0 N S p0 l1 l2 = some (v, S')) : yWE ev.2.1 (xstr ev) (xCalls ev xmi (xprog ev) prim (d + 1)) (pX0_putAt ev) (0, lv, [], hp, sz, 0) (ypQ [0, 1, 2, 3, 4, 5, 6, 7] F ev T sz (none) S') := by
  unfold f_X0_putAt_0 at h
  refine ye_aload rfl g0 ?_
  refine ye_p rfl rfl ?_
  obtain ⟨S1, eS1, h⟩ := sq_some h
  refine yw_putI rfl hM fa0 rfl ⟨rfl, rfl⟩ (Nat.le_of_ble_eq_true rfl) rfl rfl (ys_0_6 ev T _ ((-1))) (fun q => absurd q (by decide)) eS1 (fun y1 M1 => ?_)
  refine ye_aload rfl g0 ?_
  refine ye_p rfl rfl ?_
  obtain ⟨S2, eS2, h⟩ := sq_some h
  refine yw_putI rfl M1 fa0 rfl ⟨rfl, rfl⟩ (Nat.le_of_ble_eq_true rfl) rfl rfl (ys_0_7 ev T _ ((-1))) (fun q => absurd q (by decide)) eS2 (fun y2 M2 => ?_)
  refine ye_iload rfl g1 ?_
  refine ye_aload rfl g0 ?_
  refine ye_getf rfl (M2.obj fa0 ⟨rfl, rfl⟩) rfl ?_
  refine ye_icmp_ne rfl (fun h1 => ?_) (fun h1 => ?_)
  · replace h := yiT h1 h
    refine ye_aload rfl g0 ?_
    refine ye_iload rfl g1 ?_
    obtain ⟨S3, eS3, h⟩ := sq_some h
    refine yw_putI rfl M2 fa0 rfl ⟨rfl, rfl⟩ (Nat.le_of_ble_eq_true rfl) rfl rfl (ys_0_5 ev T _ l1) (fun q => absurd q (by decide)) eS3 (fun y3 M3 => ?_)
    refine ye_aload rfl g0 ?_
    refine ye_iload rfl g2 ?_
    refine ye_iload rfl g1 ?_
    obtain ⟨w1, S4, hw1, h⟩ := bS_some h
    obtain ⟨y4, cy4, M4⟩ := (m_X0_addStep (d := d + 0) (T := T) N S3 p0 l2 l1 a0 fa0 hw1) y3 sz M3
    refine ye_callV (As := [.int l2, .int l1]) (rest := []) 0 (Or.inl rfl) rfl rfl rfl (Nat.le_of_ble_eq_true rfl) (M3.obj fa0 ⟨rfl, rfl⟩) cy4 ?_
    exact w_X0_putAt_50 (prim := prim) (d := d) N S4 y4 lv M4 h
  · replace h := yiN h1 h
    refine ye_aload rfl g0 ?_
    refine ye_p rfl rfl ?_
    obtain ⟨S5, eS5, h⟩ := sq_some h
    refine yw_putI rfl M2 fa0 rfl ⟨rfl, rfl⟩ (Nat.le_of_ble_eq_true rfl) rfl rfl (ys_0_5 ev T _ ((-1))) (fun q => absurd q (by decide)) eS5 (fun y5 M5 => ?_)
    refine ye_aload rfl g0 ?_
    refine ye_iload rfl g2 ?_
    obtain ⟨S6, eS6, h⟩ := sq_some h
    refine yw_putI rfl M5 fa0 rfl ⟨rfl, rfl⟩ (Nat.le_of_ble_eq_true rfl) rfl rfl (ys_0_8 ev T _ l2) (fun q => absurd q (by decide)) eS6 (fun y6 M6 => ?_)
    refine ye_aload rfl g0 ?_
    refine ye_iload rfl g2 ?_
    refine ye_p rfl rfl ?_
    obtain ⟨w2, S7, hw2, h⟩ := bS_some h
    obtain ⟨y7, cy7, M7⟩ := (m_X0_addStep (d := d + 0) (T := T) N S6 p0 l2 300 a0 fa0 hw2) y6 sz M6
    refine ye_callV (As := [.int l2, .int 300]) (rest := []) 0 (Or.inl rfl) rfl rfl rfl (Nat.le_of_ble_eq_true rfl) (M6.obj fa0 ⟨rfl, rfl⟩) cy7 ?_
    refine ye_p rfl rfl ?_
    exact w_X0_putAt_50 (prim := prim) (d := d) N S7 y7 lv M7 h
def f_X0_putAt (N : Nat) (S : yS) (xp0 : Nat) (xl1 : Int32) (xl2 : Int32) : Option (Int32 × yS) := f_X0_putAt_0 N S xp0 xl1 xl2
theorem m_X0_putAt {F : xH} {ev : xEv} {prim : xRel} {d : Nat} {T : yT} {v : Int32} {S' : yS} (N : Nat) (S : yS) (xp0 : Nat) (xl1 : Int32) (xl2 : Int32) (a0 : Nat) (fa0 : yAt T 0 xp0 0 a0) (h : f_X0_putAt N S xp0 xl1 xl2 = some (v, S')) : ykQ [0, 1, 2, 3, 4, 5, 6, 7] F ev prim (d + 2) 3 T S [.ref a0, .int xl1, .int xl2] (none) S' :=
  ykQ.of (pg_3 ev) mi_3 (Nat.le_of_ble_eq_true rfl) (fun hp sz hM => w_X0_putAt_0 (prim := prim) (d := d) N S xp0 xl1 xl2 hp _ a0 fa0 rfl rfl rfl hM h)

def f_X0_embark_0 (N : Nat) (S : yS) (p0 : Nat) (l1 : Int32) (l2 : Int32) : Option (Int32 × yS) := sq (yI S p0 5 ((-1))) fun S1 => sq (yI S1 p0 6 l1) fun S2 => bS (f_X0_addStep N S2 p0 l2 (100 + l1)) fun w1 S3 => some (0, S3)
set_option maxHeartbeats 4000000 in
set_option maxRecDepth 40000 in
theorem w_X0_embark_0 {F : xH} {ev : xEv} {prim : xRel} {d sz : Nat} {T : yT} {v : Int32} {S' : yS} (N : Nat) (S : yS) (p0 : Nat) (l1 : Int32) (l2 : Int32) (hp : xH) (lv : xLv) (a0 : Nat) (fa0 : yAt T 0 p0 0 a0) (g0 : xG lv 0 = some (.ref a0)) (g1 : xG lv 1 = some (.int l1)) (g2 : xG lv 2 = some (.int l2)) (hM : cR [0, 1, 2, 3, 4, 5, 6, 7] F ev T S hp) (h : f_X0_embark_0 N S p0 l1 l2 = some (v, S')) : yWE ev.2.1 (xstr ev) (xCalls ev xmi (xprog ev) prim (d + 1)) (pX0_embark ev) (0, lv, [], hp, sz, 0) (ypQ [0, 1, 2, 3, 4, 5, 6, 7] F ev T sz (none) S') := by
  unfold f_X0_embark_0 at h
  refine ye_aload rfl g0 ?_
  refine ye_p rfl rfl ?_
  obtain ⟨S1, eS1, h⟩ := sq_some h
  refine yw_putI rfl hM fa0 rfl ⟨rfl, rfl⟩ (Nat.le_of_ble_eq_true rfl) rfl rfl (ys_0_5 ev T _ ((-1))) (fun q => absurd q (by decide)) eS1 (fun y1 M1 => ?_)
  refine ye_aload rfl g0 ?_
  refine ye_iload rfl g1 ?_
  obtain ⟨S2, eS2, h⟩ := sq_some h
  refine yw_putI rfl M1 fa0 rfl ⟨rfl, rfl⟩ (Nat.le_of_ble_eq_true rfl) rfl rfl (ys_0_6 ev T _ l1) (fun q => absurd q (by decide)) eS2 (fun y2 M2 => ?_)
  refine ye_aload rfl g0 ?_
  refine ye_iload rfl g2 ?_
  refine ye_p rfl rfl ?_
  refine ye_iload rfl g1 ?_
  refine ye_p rfl rfl ?_
  obtain ⟨w1, S3, hw1, h⟩ := bS_some h
  obtain ⟨y3, cy3, M3⟩ := (m_X0_addStep (d := d + 0) (T := T) N S2 p0 l2 (100 + l1) a0 fa0 hw1) y2 sz M2
  refine ye_callV (As := [.int l2, .int (100 + l1)]) (rest := []) 0 (Or.inl rfl) rfl rfl rfl (Nat.le_of_ble_eq_true rfl) (M2.obj fa0 ⟨rfl, rfl⟩) cy3 ?_
  exact ye_ret rfl rfl (rQV h M3)
def f_X0_embark (N : Nat) (S : yS) (xp0 : Nat) (xl1 : Int32) (xl2 : Int32) : Option (Int32 × yS) := f_X0_embark_0 N S xp0 xl1 xl2
theorem m_X0_embark {F : xH} {ev : xEv} {prim : xRel} {d : Nat} {T : yT} {v : Int32} {S' : yS} (N : Nat) (S : yS) (xp0 : Nat) (xl1 : Int32) (xl2 : Int32) (a0 : Nat) (fa0 : yAt T 0 xp0 0 a0) (h : f_X0_embark N S xp0 xl1 xl2 = some (v, S')) : ykQ [0, 1, 2, 3, 4, 5, 6, 7] F ev prim (d + 2) 4 T S [.ref a0, .int xl1, .int xl2] (none) S' :=
  ykQ.of (pg_4 ev) mi_4 (Nat.le_of_ble_eq_true rfl) (fun hp sz hM => w_X0_embark_0 (prim := prim) (d := d) N S xp0 xl1 xl2 hp _ a0 fa0 rfl rfl rfl hM h)

def f_X0_entrain_0 (N : Nat) (S : yS) (p0 : Nat) (l1 : Int32) (l2 : Int32) : Option (Int32 × yS) := sq (yI S p0 5 ((-1))) fun S1 => sq (yI S1 p0 7 l2) fun S2 => bS (f_X0_addStep N S2 p0 l1 200) fun w1 S3 => some (0, S3)
set_option maxHeartbeats 4000000 in
set_option maxRecDepth 40000 in
theorem w_X0_entrain_0 {F : xH} {ev : xEv} {prim : xRel} {d sz : Nat} {T : yT} {v : Int32} {S' : yS} (N : Nat) (S : yS) (p0 : Nat) (l1 : Int32) (l2 : Int32) (hp : xH) (lv : xLv) (a0 : Nat) (fa0 : yAt T 0 p0 0 a0) (g0 : xG lv 0 = some (.ref a0)) (g1 : xG lv 1 = some (.int l1)) (g2 : xG lv 2 = some (.int l2)) (hM : cR [0, 1, 2, 3, 4, 5, 6, 7] F ev T S hp) (h : f_X0_entrain_0 N S p0 l1 l2 = some (v, S')) : yWE ev.2.1 (xstr ev) (xCalls ev xmi (xprog ev) prim (d + 1)) (pX0_entrain ev) (0, lv, [], hp, sz, 0) (ypQ [0, 1, 2, 3, 4, 5, 6, 7] F ev T sz (none) S') := by
  unfold f_X0_entrain_0 at h
  refine ye_aload rfl g0 ?_
  refine ye_p rfl rfl ?_
  obtain ⟨S1, eS1, h⟩ := sq_some h
  refine yw_putI rfl hM fa0 rfl ⟨rfl, rfl⟩ (Nat.le_of_ble_eq_true rfl) rfl rfl (ys_0_5 ev T _ ((-1))) (fun q => absurd q (by decide)) eS1 (fun y1 M1 => ?_)
  refine ye_aload rfl g0 ?_
  refine ye_iload rfl g2 ?_
  obtain ⟨S2, eS2, h⟩ := sq_some h
  refine yw_putI rfl M1 fa0 rfl ⟨rfl, rfl⟩ (Nat.le_of_ble_eq_true rfl) rfl rfl (ys_0_7 ev T _ l2) (fun q => absurd q (by decide)) eS2 (fun y2 M2 => ?_)
  refine ye_aload rfl g0 ?_
  refine ye_iload rfl g1 ?_
  refine ye_p rfl rfl ?_
  obtain ⟨w1, S3, hw1, h⟩ := bS_some h
  obtain ⟨y3, cy3, M3⟩ := (m_X0_addStep (d := d + 0) (T := T) N S2 p0 l1 200 a0 fa0 hw1) y2 sz M2
  refine ye_callV (As := [.int l1, .int 200]) (rest := []) 0 (Or.inl rfl) rfl rfl rfl (Nat.le_of_ble_eq_true rfl) (M2.obj fa0 ⟨rfl, rfl⟩) cy3 ?_
  exact ye_ret rfl rfl (rQV h M3)
def f_X0_entrain (N : Nat) (S : yS) (xp0 : Nat) (xl1 : Int32) (xl2 : Int32) : Option (Int32 × yS) := f_X0_entrain_0 N S xp0 xl1 xl2
theorem m_X0_entrain {F : xH} {ev : xEv} {prim : xRel} {d : Nat} {T : yT} {v : Int32} {S' : yS} (N : Nat) (S : yS) (xp0 : Nat) (xl1 : Int32) (xl2 : Int32) (a0 : Nat) (fa0 : yAt T 0 xp0 0 a0) (h : f_X0_entrain N S xp0 xl1 xl2 = some (v, S')) : ykQ [0, 1, 2, 3, 4, 5, 6, 7] F ev prim (d + 2) 5 T S [.ref a0, .int xl1, .int xl2] (none) S' :=
  ykQ.of (pg_5 ev) mi_5 (Nat.le_of_ble_eq_true rfl) (fun hp sz hM => w_X0_entrain_0 (prim := prim) (d := d) N S xp0 xl1 xl2 hp _ a0 fa0 rfl rfl rfl hM h)

def f_X0_giveBack_15 (N : Nat) (S : yS) : Option (Int32 × yS) := some (0, S)
set_option maxHeartbeats 4000000 in
set_option maxRecDepth 40000 in
theorem w_X0_giveBack_15 {F : xH} {ev : xEv} {prim : xRel} {d sz : Nat} {T : yT} {v : Int32} {S' : yS} (N : Nat) (S : yS) (hp : xH) (lv : xLv) (hM : cR [0, 1, 2, 3, 4, 5, 6, 7] F ev T S hp) (h : f_X0_giveBack_15 N S = some (v, S')) : yWE ev.2.1 (xstr ev) (xCalls ev xmi (xprog ev) prim (d + 1)) (pX0_giveBack ev) (15, lv, [], hp, sz, 0) (ypQ [0, 1, 2, 3, 4, 5, 6, 7] F ev T sz (none) S') := by
  unfold f_X0_giveBack_15 at h
  exact ye_ret rfl rfl (rQV h hM)

def f_X0_giveBack_0 (N : Nat) (S : yS) (p0 : Nat) : Option (Int32 × yS) := if S.1 p0 11 = 1 then gP (S.1 p0 11 = 1) (bS (f_X0_copy N S ((p0 + 64)) p0) fun w1 S1 => f_X0_giveBack_15 N S1) else f_X0_giveBack_15 N S
set_option maxHeartbeats 4000000 in
set_option maxRecDepth 40000 in
theorem w_X0_giveBack_0 {F : xH} {ev : xEv} {prim : xRel} {d sz : Nat} {T : yT} {v : Int32} {S' : yS} (N : Nat) (S : yS) (p0 : Nat) (hp : xH) (lv : xLv) (a0 : Nat) (fa0 : yAt T 0 p0 0 a0) (g0 : xG lv 0 = some (.ref a0)) (hM : cR [0, 1, 2, 3, 4, 5, 6, 7] F ev T S hp) (h : f_X0_giveBack_0 N S p0 = some (v, S')) : yWE ev.2.1 (xstr ev) (xCalls ev xmi (xprog ev) prim (d + 1)) (pX0_giveBack ev) (0, lv, [], hp, sz, 0) (ypQ [0, 1, 2, 3, 4, 5, 6, 7] F ev T sz (none) S') := by
  unfold f_X0_giveBack_0 at h
  refine ye_aload rfl g0 ?_
  refine ye_getf rfl (hM.obj fa0 ⟨rfl, rfl⟩) rfl ?_
  refine ye_ifnull rfl (fun h1 => ?_) (fun h1 => ?_)
  · replace h := yiT h1 h
    refine ye_aload rfl g0 ?_
    obtain ⟨i1, h⟩ := gP_some h
    refine ye_gNu rfl (hM.obj fa0 ⟨rfl, rfl⟩) rfl i1 (fun cx1 ecx1 => ?_)
    have fcx1 : yAt T 0 (p0 + 64) 0 cx1 := ⟨(hM.kept fa0 i1).1, (hM.kept fa0 i1).2, ecx1⟩
    refine ye_aload rfl g0 ?_
    obtain ⟨w1, S1, hw1, h⟩ := bS_some h
    obtain ⟨y1, cy1, M1⟩ := (m_X0_copy (d := d + 0) (T := T) N S ((p0 + 64)) p0 cx1 a0 fcx1 fa0 hw1) hp sz hM
    refine ye_callS (As := [.ref cx1, .ref a0]) (rest := []) 1 (Or.inl rfl) rfl rfl rfl (Nat.le_of_ble_eq_true rfl) cy1 ?_
    exact w_X0_giveBack_15 (prim := prim) (d := d) N S1 y1 lv M1 h
  · replace h := yiN h1 h
    exact w_X0_giveBack_15 (prim := prim) (d := d) N S hp lv hM h
def f_X0_giveBack (N : Nat) (S : yS) (xp0 : Nat) : Option (Int32 × yS) := f_X0_giveBack_0 N S xp0
theorem m_X0_giveBack {F : xH} {ev : xEv} {prim : xRel} {d : Nat} {T : yT} {v : Int32} {S' : yS} (N : Nat) (S : yS) (xp0 : Nat) (a0 : Nat) (fa0 : yAt T 0 xp0 0 a0) (h : f_X0_giveBack N S xp0 = some (v, S')) : ykQ [0, 1, 2, 3, 4, 5, 6, 7] F ev prim (d + 2) 8 T S [.ref a0] (none) S' :=
  ykQ.of (pg_8 ev) mi_8 (Nat.le_of_ble_eq_true rfl) (fun hp sz hM => w_X0_giveBack_0 (prim := prim) (d := d) N S xp0 hp _ a0 fa0 rfl hM h)

def f_X1_giveBack_15 (N : Nat) (S : yS) : Option (Int32 × yS) := some (0, S)
set_option maxHeartbeats 4000000 in
set_option maxRecDepth 40000 in
theorem w_X1_giveBack_15 {F : xH} {ev : xEv} {prim : xRel} {d sz : Nat} {T : yT} {v : Int32} {S' : yS} (N : Nat) (S : yS) (hp : xH) (lv : xLv) (hM : cR [0, 1, 2, 3, 4, 5, 6, 7] F ev T S hp) (h : f_X1_giveBack_15 N S = some (v, S')) : yWE ev.2.1 (xstr ev) (xCalls ev xmi (xprog ev) prim (d + 1)) (pX1_giveBack ev) (15, lv, [], hp, sz, 0) (ypQ [0, 1, 2, 3, 4, 5, 6, 7] F ev T sz (none) S') := by
  unfold f_X1_giveBack_15 at h
  exact ye_ret rfl rfl (rQV h hM)

def f_X1_giveBack_0 (N : Nat) (S : yS) (p0 : Nat) : Option (Int32 × yS) := if S.1 p0 10 = 1 then gP (S.1 p0 10 = 1) (bS (f_X1_copy N S ((p0 + 64)) p0) fun w1 S1 => f_X1_giveBack_15 N S1) else f_X1_giveBack_15 N S
set_option maxHeartbeats 4000000 in
set_option maxRecDepth 40000 in
theorem w_X1_giveBack_0 {F : xH} {ev : xEv} {prim : xRel} {d sz : Nat} {T : yT} {v : Int32} {S' : yS} (N : Nat) (S : yS) (p0 : Nat) (hp : xH) (lv : xLv) (a0 : Nat) (fa0 : yAt T 1 p0 0 a0) (g0 : xG lv 0 = some (.ref a0)) (hM : cR [0, 1, 2, 3, 4, 5, 6, 7] F ev T S hp) (h : f_X1_giveBack_0 N S p0 = some (v, S')) : yWE ev.2.1 (xstr ev) (xCalls ev xmi (xprog ev) prim (d + 1)) (pX1_giveBack ev) (0, lv, [], hp, sz, 0) (ypQ [0, 1, 2, 3, 4, 5, 6, 7] F ev T sz (none) S') := by
  unfold f_X1_giveBack_0 at h
  refine ye_aload rfl g0 ?_
  refine ye_getf rfl (hM.obj fa0 ⟨rfl, rfl⟩) rfl ?_
  refine ye_ifnull rfl (fun h1 => ?_) (fun h1 => ?_)
  · replace h := yiT h1 h
    refine ye_aload rfl g0 ?_
    obtain ⟨i1, h⟩ := gP_some h
    refine ye_gNu rfl (hM.obj fa0 ⟨rfl, rfl⟩) rfl i1 (fun cx1 ecx1 => ?_)
    have fcx1 : yAt T 1 (p0 + 64) 0 cx1 := ⟨(hM.kept fa0 i1).1, (hM.kept fa0 i1).2, ecx1⟩
    refine ye_aload rfl g0 ?_
    obtain ⟨w1, S1, hw1, h⟩ := bS_some h
    obtain ⟨y1, cy1, M1⟩ := (m_X1_copy (d := d + 0) (T := T) N S ((p0 + 64)) p0 cx1 a0 fcx1 fa0 hw1) hp sz hM
    refine ye_callS (As := [.ref cx1, .ref a0]) (rest := []) 1 (Or.inl rfl) rfl rfl rfl (Nat.le_of_ble_eq_true rfl) cy1 ?_
    exact w_X1_giveBack_15 (prim := prim) (d := d) N S1 y1 lv M1 h
  · replace h := yiN h1 h
    exact w_X1_giveBack_15 (prim := prim) (d := d) N S hp lv hM h
def f_X1_giveBack (N : Nat) (S : yS) (xp0 : Nat) : Option (Int32 × yS) := f_X1_giveBack_0 N S xp0
theorem m_X1_giveBack {F : xH} {ev : xEv} {prim : xRel} {d : Nat} {T : yT} {v : Int32} {S' : yS} (N : Nat) (S : yS) (xp0 : Nat) (a0 : Nat) (fa0 : yAt T 1 xp0 0 a0) (h : f_X1_giveBack N S xp0 = some (v, S')) : ykQ [0, 1, 2, 3, 4, 5, 6, 7] F ev prim (d + 2) 15 T S [.ref a0] (none) S' :=
  ykQ.of (pg_15 ev) mi_15 (Nat.le_of_ble_eq_true rfl) (fun hp sz hM => w_X1_giveBack_0 (prim := prim) (d := d) N S xp0 hp _ a0 fa0 rfl hM h)

def f_X2_cloudAt_24 (N : Nat) (S : yS) (t0 : Int32) : Option Int32 := some t0
set_option maxHeartbeats 4000000 in
set_option maxRecDepth 40000 in
theorem w_X2_cloudAt_24 {F : xH} {ev : xEv} {prim : xRel} {d sz : Nat} {T : yT} {v : Int32} {hp : xH} (N : Nat) (S : yS) (t0 : Int32) (lv : xLv) (hM : cR [0, 1, 2, 3, 4, 5, 6, 7] F ev T S hp) (h : f_X2_cloudAt_24 N S t0 = some v) : yWE ev.2.1 (xstr ev) (xCalls ev xmi (xprog ev) prim (d + 1)) (pX2_cloudAt ev) (24, lv, [.int t0], hp, sz, 0) (ypP hp sz (.int v)) := by
  unfold f_X2_cloudAt_24 at h
  exact ye_ret rfl rfl (rP h)

def f_X2_cloudAt_0 (N : Nat) (S : yS) (l1 : Int32) (l2 : Int32) : Option Int32 := bV (f_X2_toldFor N S l1 l2) fun w1 => if ¬ w1 = ((-1)) then gA 60 w1 fun j1 => f_X2_cloudAt_24 N S (S.2.1 1 10 j1) else f_X2_cloudAt_24 N S 200
set_option maxHeartbeats 4000000 in
set_option maxRecDepth 40000 in
theorem w_X2_cloudAt_0 {F : xH} {ev : xEv} {prim : xRel} {d sz : Nat} {T : yT} {v : Int32} {hp : xH} (N : Nat) (S : yS) (l1 : Int32) (l2 : Int32) (lv : xLv) (a0 : Nat) (fa0 : yAt T 2 1 0 a0) (g0 : xG lv 0 = some (.ref a0)) (g1 : xG lv 1 = some (.int l1)) (g2 : xG lv 2 = some (.int l2)) (hM : cR [0, 1, 2, 3, 4, 5, 6, 7] F ev T S hp) (h : f_X2_cloudAt_0 N S l1 l2 = some v) : yWE ev.2.1 (xstr ev) (xCalls ev xmi (xprog ev) prim (d + 1)) (pX2_cloudAt ev) (0, lv, [], hp, sz, 0) (ypP hp sz (.int v)) := by
  unfold f_X2_cloudAt_0 at h
  refine ye_aload rfl g0 ?_
  refine ye_iload rfl g1 ?_
  refine ye_iload rfl g2 ?_
  obtain ⟨w1, hw1, h⟩ := bV_some h
  refine ye_callV (As := [.int l1, .int l2]) (rest := []) 0 (Or.inl rfl) rfl rfl rfl (Nat.le_of_ble_eq_true rfl) (hM.obj fa0 ⟨rfl, rfl⟩) ((m_X2_toldFor (d := d + 0) (T := T) N S l1 l2 a0 fa0 hw1) hp sz hM) ?_
  refine ye_p rfl rfl ?_
  have g0_z1 := xG_o1 (i := 3) (v := .int w1) g0 rfl
  have g3_z1 := xG_same lv 3 (.int w1)
  generalize xSt1 lv 3 (.int w1) = lvz1 at g0_z1 g3_z1 ⊢
  refine ye_iload rfl g3_z1 ?_
  refine ye_p rfl rfl ?_
  refine ye_icmp_ne rfl (fun h1 => ?_) (fun h1 => ?_)
  · replace h := yiT h1 h
    refine ye_aload rfl g0_z1 ?_
    refine ye_getr rfl (hM.obj fa0 ⟨rfl, rfl⟩) rfl (fun cx1 ecx1 => ?_)
    have fcx1 := yAt.row fa0 ecx1
    refine ye_iload rfl g3_z1 ?_
    obtain ⟨j1, ej1, ij1, h⟩ := gA_some h
    refine yj_ald rfl (hM.arr fcx1 yr_2_10) ij1 ej1 ?_
    exact w_X2_cloudAt_24 (prim := prim) (d := d) N S (S.2.1 1 10 j1) lvz1 hM h
  · replace h := yiN h1 h
    refine ye_p rfl rfl ?_
    refine ye_p rfl rfl ?_
    exact w_X2_cloudAt_24 (prim := prim) (d := d) N S 200 lvz1 hM h
def f_X2_cloudAt (N : Nat) (S : yS) (xl1 : Int32) (xl2 : Int32) : Option Int32 := f_X2_cloudAt_0 N S xl1 xl2
theorem m_X2_cloudAt {F : xH} {ev : xEv} {prim : xRel} {d : Nat} {T : yT} {v : Int32} (N : Nat) (S : yS) (xl1 : Int32) (xl2 : Int32) (a0 : Nat) (fa0 : yAt T 2 1 0 a0) (h : f_X2_cloudAt N S xl1 xl2 = some v) : ykP [0, 1, 2, 3, 4, 5, 6, 7] F ev prim (d + 2) 22 T S [.ref a0, .int xl1, .int xl2] (.int v) :=
  ykP.of (pg_22 ev) mi_22 (Nat.le_of_ble_eq_true rfl) (fun hp sz hM => w_X2_cloudAt_0 (prim := prim) (d := d) N S xl1 xl2 _ a0 fa0 rfl rfl rfl hM h)

def f_X2_windAt_22 (N : Nat) (S : yS) (t0 : Int32) : Option Int32 := some t0
set_option maxHeartbeats 4000000 in
set_option maxRecDepth 40000 in
theorem w_X2_windAt_22 {F : xH} {ev : xEv} {prim : xRel} {d sz : Nat} {T : yT} {v : Int32} {hp : xH} (N : Nat) (S : yS) (t0 : Int32) (lv : xLv) (hM : cR [0, 1, 2, 3, 4, 5, 6, 7] F ev T S hp) (h : f_X2_windAt_22 N S t0 = some v) : yWE ev.2.1 (xstr ev) (xCalls ev xmi (xprog ev) prim (d + 1)) (pX2_windAt ev) (22, lv, [.int t0], hp, sz, 0) (ypP hp sz (.int v)) := by
  unfold f_X2_windAt_22 at h
  exact ye_ret rfl rfl (rP h)

def f_X2_windAt_0 (N : Nat) (S : yS) (l1 : Int32) (l2 : Int32) : Option Int32 := bV (f_X2_toldFor N S l1 l2) fun w1 => if ¬ w1 = ((-1)) then gA 60 w1 fun j1 => f_X2_windAt_22 N S (S.2.1 1 11 j1) else f_X2_windAt_22 N S 0
set_option maxHeartbeats 4000000 in
set_option maxRecDepth 40000 in
theorem w_X2_windAt_0 {F : xH} {ev : xEv} {prim : xRel} {d sz : Nat} {T : yT} {v : Int32} {hp : xH} (N : Nat) (S : yS) (l1 : Int32) (l2 : Int32) (lv : xLv) (a0 : Nat) (fa0 : yAt T 2 1 0 a0) (g0 : xG lv 0 = some (.ref a0)) (g1 : xG lv 1 = some (.int l1)) (g2 : xG lv 2 = some (.int l2)) (hM : cR [0, 1, 2, 3, 4, 5, 6, 7] F ev T S hp) (h : f_X2_windAt_0 N S l1 l2 = some v) : yWE ev.2.1 (xstr ev) (xCalls ev xmi (xprog ev) prim (d + 1)) (pX2_windAt ev) (0, lv, [], hp, sz, 0) (ypP hp sz (.int v)) := by
  unfold f_X2_windAt_0 at h
  refine ye_aload rfl g0 ?_
  refine ye_iload rfl g1 ?_
  refine ye_iload rfl g2 ?_
  obtain ⟨w1, hw1, h⟩ := bV_some h
  refine ye_callV (As := [.int l1, .int l2]) (rest := []) 0 (Or.inl rfl) rfl rfl rfl (Nat.le_of_ble_eq_true rfl) (hM.obj fa0 ⟨rfl, rfl⟩) ((m_X2_toldFor (d := d + 0) (T := T) N S l1 l2 a0 fa0 hw1) hp sz hM) ?_
  refine ye_p rfl rfl ?_
  have g0_z1 := xG_o1 (i := 3) (v := .int w1) g0 rfl
  have g3_z1 := xG_same lv 3 (.int w1)
  generalize xSt1 lv 3 (.int w1) = lvz1 at g0_z1 g3_z1 ⊢
  refine ye_iload rfl g3_z1 ?_
  refine ye_p rfl rfl ?_
  refine ye_icmp_ne rfl (fun h1 => ?_) (fun h1 => ?_)
  · replace h := yiT h1 h
    refine ye_aload rfl g0_z1 ?_
    refine ye_getr rfl (hM.obj fa0 ⟨rfl, rfl⟩) rfl (fun cx1 ecx1 => ?_)
    have fcx1 := yAt.row fa0 ecx1
    refine ye_iload rfl g3_z1 ?_
    obtain ⟨j1, ej1, ij1, h⟩ := gA_some h
    refine yj_ald rfl (hM.arr fcx1 yr_2_11) ij1 ej1 ?_
    exact w_X2_windAt_22 (prim := prim) (d := d) N S (S.2.1 1 11 j1) lvz1 hM h
  · replace h := yiN h1 h
    refine ye_p rfl rfl ?_
    refine ye_p rfl rfl ?_
    exact w_X2_windAt_22 (prim := prim) (d := d) N S 0 lvz1 hM h
def f_X2_windAt (N : Nat) (S : yS) (xl1 : Int32) (xl2 : Int32) : Option Int32 := f_X2_windAt_0 N S xl1 xl2
theorem m_X2_windAt {F : xH} {ev : xEv} {prim : xRel} {d : Nat} {T : yT} {v : Int32} (N : Nat) (S : yS) (xl1 : Int32) (xl2 : Int32) (a0 : Nat) (fa0 : yAt T 2 1 0 a0) (h : f_X2_windAt N S xl1 xl2 = some v) : ykP [0, 1, 2, 3, 4, 5, 6, 7] F ev prim (d + 2) 23 T S [.ref a0, .int xl1, .int xl2] (.int v) :=
  ykP.of (pg_23 ev) mi_23 (Nat.le_of_ble_eq_true rfl) (fun hp sz hM => w_X2_windAt_0 (prim := prim) (d := d) N S xl1 xl2 _ a0 fa0 rfl rfl rfl hM h)

def f_X3_bestGround_49 (N : Nat) (k5 : yS → Nat → Int32 → Int32 → Int32 → Int32 → Option Int32) (S : yS) (p0 : Nat) (l1 : Int32) (l2 : Int32) (l3 : Int32) (l4 : Int32) : Option Int32 := k5 S p0 l1 l2 l3 (l4 + 1)
set_option maxHeartbeats 4000000 in
set_option maxRecDepth 40000 in
theorem w_X3_bestGround_49 {F : xH} {ev : xEv} {prim : xRel} {d sz : Nat} {T : yT} {v : Int32} {hp : xH} (N : Nat) (k5 : yS → Nat → Int32 → Int32 → Int32 → Int32 → Option Int32) (u5 : ∀ (S : yS) (p0 : Nat) (l1 : Int32) (l2 : Int32) (l3 : Int32) (l4 : Int32) (lv : xLv) (a0 : Nat) (fa0 : yAt T 3 p0 0 a0) (g0 : xG lv 0 = some (.ref a0)) (g1 : xG lv 1 = some (.int l1)) (g2 : xG lv 2 = some (.int l2)) (g3 : xG lv 3 = some (.int l3)) (g4 : xG lv 4 = some (.int l4)) (hM : cR [0, 1, 2, 3, 4, 5, 6, 7] F ev T S hp) (h : k5 S p0 l1 l2 l3 l4 = some v), yWE ev.2.1 (xstr ev) (xCalls ev xmi (xprog ev) prim (d + 1)) (pX3_bestGround ev) (5, lv, [], hp, sz, 0) (ypP hp sz (.int v))) (S : yS) (p0 : Nat) (l1 : Int32) (l2 : Int32) (l3 : Int32) (l4 : Int32) (lv : xLv) (a0 : Nat) (fa0 : yAt T 3 p0 0 a0) (g0 : xG lv 0 = some (.ref a0)) (g1 : xG lv 1 = some (.int l1)) (g2 : xG lv 2 = some (.int l2)) (g3 : xG lv 3 = some (.int l3)) (g4 : xG lv 4 = some (.int l4)) (hM : cR [0, 1, 2, 3, 4, 5, 6, 7] F ev T S hp) (h : f_X3_bestGround_49 N k5 S p0 l1 l2 l3 l4 = some v) : yWE ev.2.1 (xstr ev) (xCalls ev xmi (xprog ev) prim (d + 1)) (pX3_bestGround ev) (49, lv, [], hp, sz, 0) (ypP hp sz (.int v)) := by
  unfold f_X3_bestGround_49 at h
  refine ye_iinc rfl g4 ?_
  have g0_z1 := xG_o1 (i := 4) (v := .int (l4 + 1)) g0 rfl
  have g1_z1 := xG_o1 (i := 4) (v := .int (l4 + 1)) g1 rfl
  have g2_z1 := xG_o1 (i := 4) (v := .int (l4 + 1)) g2 rfl
  have g3_z1 := xG_o1 (i := 4) (v := .int (l4 + 1)) g3 rfl
  have g4_z1 := xG_same lv 4 (.int (l4 + 1))
  generalize xSt1 lv 4 (.int (l4 + 1)) = lvz1 at g0_z1 g1_z1 g2_z1 g3_z1 g4_z1 ⊢
  refine ye_p rfl rfl ?_
  exact u5 S p0 l1 l2 l3 (l4 + 1) lvz1 a0 fa0 g0_z1 g1_z1 g2_z1 g3_z1 g4_z1 hM h

def f_X3_bestGround_46 (N : Nat) (k5 : yS → Nat → Int32 → Int32 → Int32 → Int32 → Option Int32) (S : yS) (p0 : Nat) (l1 : Int32) (l2 : Int32) (l4 : Int32) : Option Int32 := f_X3_bestGround_49 N k5 S p0 l1 l2 l4 l4
set_option maxHeartbeats 4000000 in
set_option maxRecDepth 40000 in
theorem w_X3_bestGround_46 {F : xH} {ev : xEv} {prim : xRel} {d sz : Nat} {T : yT} {v : Int32} {hp : xH} (N : Nat) (k5 : yS → Nat → Int32 → Int32 → Int32 → Int32 → Option Int32) (u5 : ∀ (S : yS) (p0 : Nat) (l1 : Int32) (l2 : Int32) (l3 : Int32) (l4 : Int32) (lv : xLv) (a0 : Nat) (fa0 : yAt T 3 p0 0 a0) (g0 : xG lv 0 = some (.ref a0)) (g1 : xG lv 1 = some (.int l1)) (g2 : xG lv 2 = some (.int l2)) (g3 : xG lv 3 = some (.int l3)) (g4 : xG lv 4 = some (.int l4)) (hM : cR [0, 1, 2, 3, 4, 5, 6, 7] F ev T S hp) (h : k5 S p0 l1 l2 l3 l4 = some v), yWE ev.2.1 (xstr ev) (xCalls ev xmi (xprog ev) prim (d + 1)) (pX3_bestGround ev) (5, lv, [], hp, sz, 0) (ypP hp sz (.int v))) (S : yS) (p0 : Nat) (l1 : Int32) (l2 : Int32) (l4 : Int32) (lv : xLv) (a0 : Nat) (fa0 : yAt T 3 p0 0 a0) (g0 : xG lv 0 = some (.ref a0)) (g1 : xG lv 1 = some (.int l1)) (g2 : xG lv 2 = some (.int l2)) (g4 : xG lv 4 = some (.int l4)) (hM : cR [0, 1, 2, 3, 4, 5, 6, 7] F ev T S hp) (h : f_X3_bestGround_46 N k5 S p0 l1 l2 l4 = some v) : yWE ev.2.1 (xstr ev) (xCalls ev xmi (xprog ev) prim (d + 1)) (pX3_bestGround ev) (46, lv, [], hp, sz, 0) (ypP hp sz (.int v)) := by
  unfold f_X3_bestGround_46 at h
  refine ye_iload rfl g4 ?_
  refine ye_p rfl rfl ?_
  have g0_z1 := xG_o1 (i := 3) (v := .int l4) g0 rfl
  have g1_z1 := xG_o1 (i := 3) (v := .int l4) g1 rfl
  have g2_z1 := xG_o1 (i := 3) (v := .int l4) g2 rfl
  have g4_z1 := xG_o1 (i := 3) (v := .int l4) g4 rfl
  have g3_z1 := xG_same lv 3 (.int l4)
  generalize xSt1 lv 3 (.int l4) = lvz1 at g0_z1 g1_z1 g2_z1 g4_z1 g3_z1 ⊢
  exact w_X3_bestGround_49 (prim := prim) (d := d) N k5 u5 S p0 l1 l2 l4 l4 lvz1 a0 fa0 g0_z1 g1_z1 g2_z1 g3_z1 g4_z1 hM h

def f_X3_bestGround_5 : Nat → Nat → yS → Nat → Int32 → Int32 → Int32 → Int32 → Option Int32
  | 0, _, _, _, _, _, _, _ => none
  | n + 1, N, S, p0, l1, l2, l3, l4 => if (S.1 p0 4) ≤ l4 then some l3 else gA 4 l4 fun j1 => if l2 < (if 0 ≤ ((S.2.1 p0 5 j1) - l1) then ((S.2.1 p0 5 j1) - l1) else 0 - ((S.2.1 p0 5 j1) - l1)) then f_X3_bestGround_49 N (fun S p0 l1 l2 l3 l4 => f_X3_bestGround_5 n N S p0 l1 l2 l3 l4) S p0 l1 l2 l3 l4 else if l3 = ((-1)) then f_X3_bestGround_46 N (fun S p0 l1 l2 l3 l4 => f_X3_bestGround_5 n N S p0 l1 l2 l3 l4) S p0 l1 l2 l4 else bV (f_X3_isBetter N S p0 l4 l3 l1) fun w1 => if w1 = 0 then f_X3_bestGround_49 N (fun S p0 l1 l2 l3 l4 => f_X3_bestGround_5 n N S p0 l1 l2 l3 l4) S p0 l1 l2 l3 l4 else f_X3_bestGround_46 N (fun S p0 l1 l2 l3 l4 => f_X3_bestGround_5 n N S p0 l1 l2 l3 l4) S p0 l1 l2 l4
set_option maxHeartbeats 4000000 in
set_option maxRecDepth 40000 in
theorem w_X3_bestGround_5 {F : xH} {ev : xEv} {prim : xRel} {d sz : Nat} {T : yT} {v : Int32} {hp : xH} (N : Nat) (n : Nat) : ∀ (S : yS) (p0 : Nat) (l1 : Int32) (l2 : Int32) (l3 : Int32) (l4 : Int32) (lv : xLv) (a0 : Nat) (fa0 : yAt T 3 p0 0 a0) (g0 : xG lv 0 = some (.ref a0)) (g1 : xG lv 1 = some (.int l1)) (g2 : xG lv 2 = some (.int l2)) (g3 : xG lv 3 = some (.int l3)) (g4 : xG lv 4 = some (.int l4)) (hM : cR [0, 1, 2, 3, 4, 5, 6, 7] F ev T S hp) (h : f_X3_bestGround_5 n N S p0 l1 l2 l3 l4 = some v), yWE ev.2.1 (xstr ev) (xCalls ev xmi (xprog ev) prim (d + 1)) (pX3_bestGround ev) (5, lv, [], hp, sz, 0) (ypP hp sz (.int v)) := by
  induction n with
  | zero => intro S p0 l1 l2 l3 l4 lv a0 fa0 g0 g1 g2 g3 g4 hM h; exact n_some h
  | succ n ih =>
    intro S p0 l1 l2 l3 l4 lv a0 fa0 g0 g1 g2 g3 g4 hM h
    unfold f_X3_bestGround_5 at h
    refine ye_iload rfl g4 ?_
    refine ye_aload rfl g0 ?_
    refine ye_getf rfl (hM.obj fa0 ⟨rfl, rfl⟩) rfl ?_
    refine ye_icmp_ge rfl (fun h1 => ?_) (fun h1 => ?_)
    · replace h := yiT h1 h
      refine ye_iload rfl g3 ?_
      exact ye_ret rfl rfl (rP h)
    · replace h := yiN h1 h
      refine ye_aload rfl g0 ?_
      refine ye_getr rfl (hM.obj fa0 ⟨rfl, rfl⟩) rfl (fun cx1 ecx1 => ?_)
      have fcx1 := yAt.row fa0 ecx1
      refine ye_iload rfl g4 ?_
      obtain ⟨j1, ej1, ij1, h⟩ := gA_some h
      refine yj_ald rfl (hM.arr fcx1 yr_3_5) ij1 ej1 ?_
      refine ye_iload rfl g1 ?_
      refine ye_p rfl rfl ?_
      refine ye_p rfl rfl ?_
      refine ye_iload rfl g2 ?_
      refine ye_icmp_gt rfl (fun h2 => ?_) (fun h2 => ?_)
      · replace h := yiT h2 h
        exact w_X3_bestGround_49 (prim := prim) (d := d) N (fun S p0 l1 l2 l3 l4 => f_X3_bestGround_5 n N S p0 l1 l2 l3 l4) ih S p0 l1 l2 l3 l4 lv a0 fa0 g0 g1 g2 g3 g4 hM h
      · replace h := yiN h2 h
        refine ye_iload rfl g3 ?_
        refine ye_p rfl rfl ?_
        refine ye_icmp_eq rfl (fun h3 => ?_) (fun h3 => ?_)
        · replace h := yiT h3 h
          exact w_X3_bestGround_46 (prim := prim) (d := d) N (fun S p0 l1 l2 l3 l4 => f_X3_bestGround_5 n N S p0 l1 l2 l3 l4) ih S p0 l1 l2 l4 lv a0 fa0 g0 g1 g2 g4 hM h
        · replace h := yiN h3 h
          refine ye_aload rfl g0 ?_
          refine ye_iload rfl g4 ?_
          refine ye_iload rfl g3 ?_
          refine ye_iload rfl g1 ?_
          obtain ⟨w1, hw1, h⟩ := bV_some h
          refine ye_callV (As := [.int l4, .int l3, .int l1]) (rest := []) 0 (Or.inl rfl) rfl rfl rfl (Nat.le_of_ble_eq_true rfl) (hM.obj fa0 ⟨rfl, rfl⟩) ((m_X3_isBetter (d := d + 0) (T := T) N S p0 l4 l3 l1 a0 fa0 hw1) hp sz hM) ?_
          refine ye_if_eq rfl (fun h4 => ?_) (fun h4 => ?_)
          · replace h := yiT h4 h
            exact w_X3_bestGround_49 (prim := prim) (d := d) N (fun S p0 l1 l2 l3 l4 => f_X3_bestGround_5 n N S p0 l1 l2 l3 l4) ih S p0 l1 l2 l3 l4 lv a0 fa0 g0 g1 g2 g3 g4 hM h
          · replace h := yiN h4 h
            exact w_X3_bestGround_46 (prim := prim) (d := d) N (fun S p0 l1 l2 l3 l4 => f_X3_bestGround_5 n N S p0 l1 l2 l3 l4) ih S p0 l1 l2 l4 lv a0 fa0 g0 g1 g2 g4 hM h

def f_X3_bestGround_0 (N : Nat) (S : yS) (p0 : Nat) (l1 : Int32) (l2 : Int32) : Option Int32 := f_X3_bestGround_5 N N S p0 l1 l2 ((-1)) 0
set_option maxHeartbeats 4000000 in
set_option maxRecDepth 40000 in
theorem w_X3_bestGround_0 {F : xH} {ev : xEv} {prim : xRel} {d sz : Nat} {T : yT} {v : Int32} {hp : xH} (N : Nat) (S : yS) (p0 : Nat) (l1 : Int32) (l2 : Int32) (lv : xLv) (a0 : Nat) (fa0 : yAt T 3 p0 0 a0) (g0 : xG lv 0 = some (.ref a0)) (g1 : xG lv 1 = some (.int l1)) (g2 : xG lv 2 = some (.int l2)) (hM : cR [0, 1, 2, 3, 4, 5, 6, 7] F ev T S hp) (h : f_X3_bestGround_0 N S p0 l1 l2 = some v) : yWE ev.2.1 (xstr ev) (xCalls ev xmi (xprog ev) prim (d + 1)) (pX3_bestGround ev) (0, lv, [], hp, sz, 0) (ypP hp sz (.int v)) := by
  unfold f_X3_bestGround_0 at h
  refine ye_p rfl rfl ?_
  refine ye_p rfl rfl ?_
  have g0_z1 := xG_o1 (i := 3) (v := .int ((-1))) g0 rfl
  have g1_z1 := xG_o1 (i := 3) (v := .int ((-1))) g1 rfl
  have g2_z1 := xG_o1 (i := 3) (v := .int ((-1))) g2 rfl
  have g3_z1 := xG_same lv 3 (.int ((-1)))
  generalize xSt1 lv 3 (.int ((-1))) = lvz1 at g0_z1 g1_z1 g2_z1 g3_z1 ⊢
  refine ye_p rfl rfl ?_
  refine ye_p rfl rfl ?_
  have g0_z2 := xG_o1 (i := 4) (v := .int 0) g0_z1 rfl
  have g1_z2 := xG_o1 (i := 4) (v := .int 0) g1_z1 rfl
  have g2_z2 := xG_o1 (i := 4) (v := .int 0) g2_z1 rfl
  have g3_z2 := xG_o1 (i := 4) (v := .int 0) g3_z1 rfl
  have g4_z2 := xG_same lvz1 4 (.int 0)
  generalize xSt1 lvz1 4 (.int 0) = lvz2 at g0_z2 g1_z2 g2_z2 g3_z2 g4_z2 ⊢
  exact w_X3_bestGround_5 (prim := prim) (d := d) N N S p0 l1 l2 ((-1)) 0 lvz2 a0 fa0 g0_z2 g1_z2 g2_z2 g3_z2 g4_z2 hM h
def f_X3_bestGround (N : Nat) (S : yS) (xp0 : Nat) (xl1 : Int32) (xl2 : Int32) : Option Int32 := f_X3_bestGround_0 N S xp0 xl1 xl2
theorem m_X3_bestGround {F : xH} {ev : xEv} {prim : xRel} {d : Nat} {T : yT} {v : Int32} (N : Nat) (S : yS) (xp0 : Nat) (xl1 : Int32) (xl2 : Int32) (a0 : Nat) (fa0 : yAt T 3 xp0 0 a0) (h : f_X3_bestGround N S xp0 xl1 xl2 = some v) : ykP [0, 1, 2, 3, 4, 5, 6, 7] F ev prim (d + 2) 31 T S [.ref a0, .int xl1, .int xl2] (.int v) :=
  ykP.of (pg_31 ev) mi_31 (Nat.le_of_ble_eq_true rfl) (fun hp sz hM => w_X3_bestGround_0 (prim := prim) (d := d) N S xp0 xl1 xl2 _ a0 fa0 rfl rfl rfl hM h)

def f_X3_mileOf_24 (N : Nat) (S : yS) (t0 : Int32) : Option Int32 := some t0
set_option maxHeartbeats 4000000 in
set_option maxRecDepth 40000 in
theorem w_X3_mileOf_24 {F : xH} {ev : xEv} {prim : xRel} {d sz : Nat} {T : yT} {v : Int32} {hp : xH} (N : Nat) (S : yS) (t0 : Int32) (lv : xLv) (hM : cR [0, 1, 2, 3, 4, 5, 6, 7] F ev T S hp) (h : f_X3_mileOf_24 N S t0 = some v) : yWE ev.2.1 (xstr ev) (xCalls ev xmi (xprog ev) prim (d + 1)) (pX3_mileOf ev) (24, lv, [.int t0], hp, sz, 0) (ypP hp sz (.int v)) := by
  unfold f_X3_mileOf_24 at h
  exact ye_ret rfl rfl (rP h)

def f_X3_mileOf_0 (N : Nat) (S : yS) (p0 : Nat) (l1 : Int32) : Option Int32 := bV (f_X11_within N S l1 0 ((S.1 p0 4) - 1)) fun w1 => if w1 = 0 then f_X3_mileOf_24 N S ((-1)) else gA 4 l1 fun j1 => f_X3_mileOf_24 N S (S.2.1 p0 5 j1)
set_option maxHeartbeats 4000000 in
set_option maxRecDepth 40000 in
theorem w_X3_mileOf_0 {F : xH} {ev : xEv} {prim : xRel} {d sz : Nat} {T : yT} {v : Int32} {hp : xH} (N : Nat) (S : yS) (p0 : Nat) (l1 : Int32) (lv : xLv) (a0 : Nat) (fa0 : yAt T 3 p0 0 a0) (g0 : xG lv 0 = some (.ref a0)) (g1 : xG lv 1 = some (.int l1)) (hM : cR [0, 1, 2, 3, 4, 5, 6, 7] F ev T S hp) (h : f_X3_mileOf_0 N S p0 l1 = some v) : yWE ev.2.1 (xstr ev) (xCalls ev xmi (xprog ev) prim (d + 1)) (pX3_mileOf ev) (0, lv, [], hp, sz, 0) (ypP hp sz (.int v)) := by
  unfold f_X3_mileOf_0 at h
  refine ye_iload rfl g1 ?_
  refine ye_p rfl rfl ?_
  refine ye_aload rfl g0 ?_
  refine ye_getf rfl (hM.obj fa0 ⟨rfl, rfl⟩) rfl ?_
  refine ye_p rfl rfl ?_
  refine ye_p rfl rfl ?_
  obtain ⟨w1, hw1, h⟩ := bV_some h
  refine ye_callS (As := [.int l1, .int 0, .int ((S.1 p0 4) - 1)]) (rest := []) 3 (Or.inr rfl) rfl rfl rfl (Nat.le_of_ble_eq_true rfl) ((m_X11_within (d := d + 0) (T := T) N S l1 0 ((S.1 p0 4) - 1) hw1) hp sz hM) ?_
  refine ye_if_eq rfl (fun h1 => ?_) (fun h1 => ?_)
  · replace h := yiT h1 h
    refine ye_p rfl rfl ?_
    exact w_X3_mileOf_24 (prim := prim) (d := d) N S ((-1)) lv hM h
  · replace h := yiN h1 h
    refine ye_aload rfl g0 ?_
    refine ye_getr rfl (hM.obj fa0 ⟨rfl, rfl⟩) rfl (fun cx1 ecx1 => ?_)
    have fcx1 := yAt.row fa0 ecx1
    refine ye_iload rfl g1 ?_
    obtain ⟨j1, ej1, ij1, h⟩ := gA_some h
    refine yj_ald rfl (hM.arr fcx1 yr_3_5) ij1 ej1 ?_
    refine ye_p rfl rfl ?_
    exact w_X3_mileOf_24 (prim := prim) (d := d) N S (S.2.1 p0 5 j1) lv hM h
def f_X3_mileOf (N : Nat) (S : yS) (xp0 : Nat) (xl1 : Int32) : Option Int32 := f_X3_mileOf_0 N S xp0 xl1
theorem m_X3_mileOf {F : xH} {ev : xEv} {prim : xRel} {d : Nat} {T : yT} {v : Int32} (N : Nat) (S : yS) (xp0 : Nat) (xl1 : Int32) (a0 : Nat) (fa0 : yAt T 3 xp0 0 a0) (h : f_X3_mileOf N S xp0 xl1 = some v) : ykP [0, 1, 2, 3, 4, 5, 6, 7] F ev prim (d + 2) 33 T S [.ref a0, .int xl1] (.int v) :=
  ykP.of (pg_33 ev) mi_33 (Nat.le_of_ble_eq_true rfl) (fun hp sz hM => w_X3_mileOf_0 (prim := prim) (d := d) N S xp0 xl1 _ a0 fa0 rfl rfl hM h)

def f_X3_roughOf_24 (N : Nat) (S : yS) (t0 : Int32) : Option Int32 := some t0
set_option maxHeartbeats 4000000 in
set_option maxRecDepth 40000 in
theorem w_X3_roughOf_24 {F : xH} {ev : xEv} {prim : xRel} {d sz : Nat} {T : yT} {v : Int32} {hp : xH} (N : Nat) (S : yS) (t0 : Int32) (lv : xLv) (hM : cR [0, 1, 2, 3, 4, 5, 6, 7] F ev T S hp) (h : f_X3_roughOf_24 N S t0 = some v) : yWE ev.2.1 (xstr ev) (xCalls ev xmi (xprog ev) prim (d + 1)) (pX3_roughOf ev) (24, lv, [.int t0], hp, sz, 0) (ypP hp sz (.int v)) := by
  unfold f_X3_roughOf_24 at h
  exact ye_ret rfl rfl (rP h)

def f_X3_roughOf_0 (N : Nat) (S : yS) (p0 : Nat) (l1 : Int32) : Option Int32 := bV (f_X11_within N S l1 0 ((S.1 p0 4) - 1)) fun w1 => if w1 = 0 then f_X3_roughOf_24 N S ((-1)) else gA 4 l1 fun j1 => f_X3_roughOf_24 N S (S.2.1 p0 6 j1)
set_option maxHeartbeats 4000000 in
set_option maxRecDepth 40000 in
theorem w_X3_roughOf_0 {F : xH} {ev : xEv} {prim : xRel} {d sz : Nat} {T : yT} {v : Int32} {hp : xH} (N : Nat) (S : yS) (p0 : Nat) (l1 : Int32) (lv : xLv) (a0 : Nat) (fa0 : yAt T 3 p0 0 a0) (g0 : xG lv 0 = some (.ref a0)) (g1 : xG lv 1 = some (.int l1)) (hM : cR [0, 1, 2, 3, 4, 5, 6, 7] F ev T S hp) (h : f_X3_roughOf_0 N S p0 l1 = some v) : yWE ev.2.1 (xstr ev) (xCalls ev xmi (xprog ev) prim (d + 1)) (pX3_roughOf ev) (0, lv, [], hp, sz, 0) (ypP hp sz (.int v)) := by
  unfold f_X3_roughOf_0 at h
  refine ye_iload rfl g1 ?_
  refine ye_p rfl rfl ?_
  refine ye_aload rfl g0 ?_
  refine ye_getf rfl (hM.obj fa0 ⟨rfl, rfl⟩) rfl ?_
  refine ye_p rfl rfl ?_
  refine ye_p rfl rfl ?_
  obtain ⟨w1, hw1, h⟩ := bV_some h
  refine ye_callS (As := [.int l1, .int 0, .int ((S.1 p0 4) - 1)]) (rest := []) 3 (Or.inr rfl) rfl rfl rfl (Nat.le_of_ble_eq_true rfl) ((m_X11_within (d := d + 0) (T := T) N S l1 0 ((S.1 p0 4) - 1) hw1) hp sz hM) ?_
  refine ye_if_eq rfl (fun h1 => ?_) (fun h1 => ?_)
  · replace h := yiT h1 h
    refine ye_p rfl rfl ?_
    exact w_X3_roughOf_24 (prim := prim) (d := d) N S ((-1)) lv hM h
  · replace h := yiN h1 h
    refine ye_aload rfl g0 ?_
    refine ye_getr rfl (hM.obj fa0 ⟨rfl, rfl⟩) rfl (fun cx1 ecx1 => ?_)
    have fcx1 := yAt.row fa0 ecx1
    refine ye_iload rfl g1 ?_
    obtain ⟨j1, ej1, ij1, h⟩ := gA_some h
    refine yj_ald rfl (hM.arr fcx1 yr_3_6) ij1 ej1 ?_
    refine ye_p rfl rfl ?_
    exact w_X3_roughOf_24 (prim := prim) (d := d) N S (S.2.1 p0 6 j1) lv hM h
def f_X3_roughOf (N : Nat) (S : yS) (xp0 : Nat) (xl1 : Int32) : Option Int32 := f_X3_roughOf_0 N S xp0 xl1
theorem m_X3_roughOf {F : xH} {ev : xEv} {prim : xRel} {d : Nat} {T : yT} {v : Int32} (N : Nat) (S : yS) (xp0 : Nat) (xl1 : Int32) (a0 : Nat) (fa0 : yAt T 3 xp0 0 a0) (h : f_X3_roughOf N S xp0 xl1 = some v) : ykP [0, 1, 2, 3, 4, 5, 6, 7] F ev prim (d + 2) 34 T S [.ref a0, .int xl1] (.int v) :=
  ykP.of (pg_34 ev) mi_34 (Nat.le_of_ble_eq_true rfl) (fun hp sz hM => w_X3_roughOf_0 (prim := prim) (d := d) N S xp0 xl1 _ a0 fa0 rfl rfl hM h)

def f_X4_takesEmptyCondition_0 (N : Nat) (S : yS) : Option (Int32 × yS) := bS (f_X4_write N S 1) fun w1 S1 => sq (yI S1 7 9 3) fun S2 => some (1, S2)
set_option maxHeartbeats 4000000 in
set_option maxRecDepth 40000 in
theorem w_X4_takesEmptyCondition_0 {F : xH} {ev : xEv} {prim : xRel} {d sz : Nat} {T : yT} {v : Int32} {S' : yS} (N : Nat) (S : yS) (hp : xH) (lv : xLv) (a0 : Nat) (fa0 : yAt T 4 7 0 a0) (g0 : xG lv 0 = some (.ref a0)) (hM : cR [0, 1, 2, 3, 4, 5, 6, 7] F ev T S hp) (h : f_X4_takesEmptyCondition_0 N S = some (v, S')) : yWE ev.2.1 (xstr ev) (xCalls ev xmi (xprog ev) prim (d + 1)) (pX4_takesEmptyCondition ev) (0, lv, [], hp, sz, 0) (ypQ [0, 1, 2, 3, 4, 5, 6, 7] F ev T sz (some (.int v)) S') := by
  unfold f_X4_takesEmptyCondition_0 at h
  refine ye_aload rfl g0 ?_
  refine ye_p rfl rfl ?_
  obtain ⟨w1, S1, hw1, h⟩ := bS_some h
  obtain ⟨y1, cy1, M1⟩ := (m_X4_write (d := d + 0) (T := T) N S 1 a0 fa0 hw1) hp sz hM
  refine ye_callV (As := [.int 1]) (rest := []) 0 (Or.inl rfl) rfl rfl rfl (Nat.le_of_ble_eq_true rfl) (hM.obj fa0 ⟨rfl, rfl⟩) cy1 ?_
  refine ye_aload rfl g0 ?_
  refine ye_p rfl rfl ?_
  obtain ⟨S2, eS2, h⟩ := sq_some h
  refine yw_putI rfl M1 fa0 rfl ⟨rfl, rfl⟩ (Nat.le_of_ble_eq_true rfl) rfl rfl (ys_4_9 ev T _ 3) (fun q => absurd q (by decide)) eS2 (fun y2 M2 => ?_)
  refine ye_p rfl rfl ?_
  exact ye_ret rfl rfl (rQ h M2)
def f_X4_takesEmptyCondition (N : Nat) (S : yS) : Option (Int32 × yS) := f_X4_takesEmptyCondition_0 N S
theorem m_X4_takesEmptyCondition {F : xH} {ev : xEv} {prim : xRel} {d : Nat} {T : yT} {v : Int32} {S' : yS} (N : Nat) (S : yS) (a0 : Nat) (fa0 : yAt T 4 7 0 a0) (h : f_X4_takesEmptyCondition N S = some (v, S')) : ykQ [0, 1, 2, 3, 4, 5, 6, 7] F ev prim (d + 2) 46 T S [.ref a0] (some (.int v)) S' :=
  ykQ.of (pg_46 ev) mi_46 (Nat.le_of_ble_eq_true rfl) (fun hp sz hM => w_X4_takesEmptyCondition_0 (prim := prim) (d := d) N S hp _ a0 fa0 rfl hM h)

def f_X4_takesThing_165 (N : Nat) (S : yS) : Option (Int32 × yS) := some (1, S)
set_option maxHeartbeats 4000000 in
set_option maxRecDepth 40000 in
theorem w_X4_takesThing_165 {F : xH} {ev : xEv} {prim : xRel} {d sz : Nat} {T : yT} {v : Int32} {S' : yS} (N : Nat) (S : yS) (hp : xH) (lv : xLv) (hM : cR [0, 1, 2, 3, 4, 5, 6, 7] F ev T S hp) (h : f_X4_takesThing_165 N S = some (v, S')) : yWE ev.2.1 (xstr ev) (xCalls ev xmi (xprog ev) prim (d + 4)) (pX4_takesThing ev) (165, lv, [], hp, sz, 0) (ypQ [0, 1, 2, 3, 4, 5, 6, 7] F ev T sz (some (.int v)) S') := by
  unfold f_X4_takesThing_165 at h
  refine ye_p rfl rfl ?_
  exact ye_ret rfl rfl (rQ h hM)

def f_X4_takesThing_103 (N : Nat) (S : yS) (t1 : Int32) : Option (Int32 × yS) := bS (f_X4_hold N S t1) fun w1 S1 => sq (yI S1 7 9 1) fun S2 => f_X4_takesThing_165 N S2
set_option maxHeartbeats 4000000 in
set_option maxRecDepth 40000 in
theorem w_X4_takesThing_103 {F : xH} {ev : xEv} {prim : xRel} {d sz : Nat} {T : yT} {v : Int32} {S' : yS} (N : Nat) (S : yS) (t1 : Int32) (hp : xH) (lv : xLv) (a0 : Nat) (b0 : Nat) (fa0 : yAt T 4 7 0 a0) (fb0 : yAt T 4 7 0 b0) (g0 : xG lv 0 = some (.ref a0)) (hM : cR [0, 1, 2, 3, 4, 5, 6, 7] F ev T S hp) (h : f_X4_takesThing_103 N S t1 = some (v, S')) : yWE ev.2.1 (xstr ev) (xCalls ev xmi (xprog ev) prim (d + 4)) (pX4_takesThing ev) (103, lv, [.int t1, .ref b0], hp, sz, 0) (ypQ [0, 1, 2, 3, 4, 5, 6, 7] F ev T sz (some (.int v)) S') := by
  unfold f_X4_takesThing_103 at h
  obtain ⟨w1, S1, hw1, h⟩ := bS_some h
  obtain ⟨y1, cy1, M1⟩ := (m_X4_hold (d := d + 3) (T := T) N S t1 b0 fb0 hw1) hp sz hM
  refine ye_callV (As := [.int t1]) (rest := []) 0 (Or.inl rfl) rfl rfl rfl (Nat.le_of_ble_eq_true rfl) (hM.obj fb0 ⟨rfl, rfl⟩) cy1 ?_
  refine ye_aload rfl g0 ?_
  refine ye_p rfl rfl ?_
  obtain ⟨S2, eS2, h⟩ := sq_some h
  refine yw_putI rfl M1 fa0 rfl ⟨rfl, rfl⟩ (Nat.le_of_ble_eq_true rfl) rfl rfl (ys_4_9 ev T _ 1) (fun q => absurd q (by decide)) eS2 (fun y2 M2 => ?_)
  refine ye_p rfl rfl ?_
  exact w_X4_takesThing_165 (prim := prim) (d := d) N S2 y2 lv M2 h

def f_X4_takesThing_89 (N : Nat) (S : yS) (l1 : Int32) : Option (Int32 × yS) := if ¬ l1 = 33 then f_X4_takesThing_103 N S 126 else f_X4_takesThing_103 N S 33
set_option maxHeartbeats 4000000 in
set_option maxRecDepth 40000 in
theorem w_X4_takesThing_89 {F : xH} {ev : xEv} {prim : xRel} {d sz : Nat} {T : yT} {v : Int32} {S' : yS} (N : Nat) (S : yS) (l1 : Int32) (hp : xH) (lv : xLv) (a0 : Nat) (fa0 : yAt T 4 7 0 a0) (g0 : xG lv 0 = some (.ref a0)) (g1 : xG lv 1 = some (.int l1)) (hM : cR [0, 1, 2, 3, 4, 5, 6, 7] F ev T S hp) (h : f_X4_takesThing_89 N S l1 = some (v, S')) : yWE ev.2.1 (xstr ev) (xCalls ev xmi (xprog ev) prim (d + 4)) (pX4_takesThing ev) (89, lv, [], hp, sz, 0) (ypQ [0, 1, 2, 3, 4, 5, 6, 7] F ev T sz (some (.int v)) S') := by
  unfold f_X4_takesThing_89 at h
  refine ye_aload rfl g0 ?_
  refine ye_iload rfl g1 ?_
  refine ye_p rfl rfl ?_
  refine ye_icmp_ne rfl (fun h1 => ?_) (fun h1 => ?_)
  · replace h := yiT h1 h
    refine ye_p rfl rfl ?_
    exact w_X4_takesThing_103 (prim := prim) (d := d) N S 126 hp lv a0 a0 fa0 fa0 g0 hM h
  · replace h := yiN h1 h
    refine ye_p rfl rfl ?_
    refine ye_p rfl rfl ?_
    exact w_X4_takesThing_103 (prim := prim) (d := d) N S 33 hp lv a0 a0 fa0 fa0 g0 hM h

def f_X4_takesThing_163 (N : Nat) (S : yS) : Option (Int32 × yS) := some (0, S)
set_option maxHeartbeats 4000000 in
set_option maxRecDepth 40000 in
theorem w_X4_takesThing_163 {F : xH} {ev : xEv} {prim : xRel} {d sz : Nat} {T : yT} {v : Int32} {S' : yS} (N : Nat) (S : yS) (hp : xH) (lv : xLv) (hM : cR [0, 1, 2, 3, 4, 5, 6, 7] F ev T S hp) (h : f_X4_takesThing_163 N S = some (v, S')) : yWE ev.2.1 (xstr ev) (xCalls ev xmi (xprog ev) prim (d + 4)) (pX4_takesThing ev) (163, lv, [], hp, sz, 0) (ypQ [0, 1, 2, 3, 4, 5, 6, 7] F ev T sz (some (.int v)) S') := by
  unfold f_X4_takesThing_163 at h
  refine ye_p rfl rfl ?_
  exact ye_ret rfl rfl (rQ h hM)

def f_X4_takesThing_15 (N : Nat) (S : yS) (l1 : Int32) (n0 : Nat) : Option (Int32 × yS) := bV (f_X4_isDigit N S l1) fun w1 => if w1 = 0 then gP (n0 < 4) (if (sIdx n0 ((l1.toUInt32 % 65536).toInt32)) < 0 then if l1 = 33 then f_X4_takesThing_89 N S l1 else if ¬ l1 = 45 then if ¬ l1 = 40 then f_X4_takesThing_163 N S else if 60 ≤ (S.1 7 5) then f_X4_takesThing_163 N S else bS (f_X4_hold N S 40) fun w3 S1 => sq (yI S1 7 5 ((S1.1 7 5) + 1)) fun S2 => gA 61 (S2.1 7 5) fun j1 => sq (yA S2 7 4 (upd (S2.2.1 7 4) j1 (vp_nar .boolean 0))) fun S3 => sq (yI S3 7 9 1) fun S4 => f_X4_takesThing_165 N S4 else f_X4_takesThing_89 N S l1 else bS (f_X4_write N S ((1000 + l1) - 97)) fun w4 S5 => bS (f_X4_takeNoDigits N S5) fun w5 S6 => sq (yI S6 7 9 2) fun S7 => f_X4_takesThing_165 N S7) else bS (f_X4_write N S (l1 - 48)) fun w6 S8 => sq (yI S8 7 6 1) fun S9 => sq (yI S9 7 9 2) fun S10 => f_X4_takesThing_165 N S10
set_option maxHeartbeats 4000000 in
set_option maxRecDepth 40000 in
theorem w_X4_takesThing_15 {F : xH} {ev : xEv} {prim : xRel} {d sz : Nat} {T : yT} {v : Int32} {S' : yS} (N : Nat) (S : yS) (l1 : Int32) (n0 : Nat) (hp : xH) (lv : xLv) (a0 : Nat) (fa0 : yAt T 4 7 0 a0) (g0 : xG lv 0 = some (.ref a0)) (g1 : xG lv 1 = some (.int l1)) (hM : cR [0, 1, 2, 3, 4, 5, 6, 7] F ev T S hp) (h : f_X4_takesThing_15 N S l1 n0 = some (v, S')) : yWE ev.2.1 (xstr ev) (xCalls ev xmi (xprog ev) prim (d + 4)) (pX4_takesThing ev) (15, lv, [.ref (ev.2.1 n0)], hp, sz, 0) (ypQ [0, 1, 2, 3, 4, 5, 6, 7] F ev T sz (some (.int v)) S') := by
  unfold f_X4_takesThing_15 at h
  refine ye_p rfl rfl ?_
  have g0_z1 := xG_o1 (i := 2) (v := .ref (ev.2.1 n0)) g0 rfl
  have g1_z1 := xG_o1 (i := 2) (v := .ref (ev.2.1 n0)) g1 rfl
  have g2_z1 := xG_same lv 2 (.ref (ev.2.1 n0))
  generalize xSt1 lv 2 (.ref (ev.2.1 n0)) = lvz1 at g0_z1 g1_z1 g2_z1 ⊢
  refine ye_iload rfl g1_z1 ?_
  obtain ⟨w1, hw1, h⟩ := bV_some h
  refine ye_callS (As := [.int l1]) (rest := []) 1 (Or.inl rfl) rfl rfl rfl (Nat.le_of_ble_eq_true rfl) ((m_X4_isDigit (d := d + 3) (T := T) N S l1 hw1) hp sz hM) ?_
  refine ye_if_eq rfl (fun h1 => ?_) (fun h1 => ?_)
  · replace h := yiT h1 h
    refine ye_aload rfl g2_z1 ?_
    refine ye_iload rfl g1_z1 ?_
    refine ye_p rfl rfl ?_
    obtain ⟨i1, h⟩ := gP_some h
    refine ye_callT (i := n0) (As := [.int ((l1.toUInt32 % 65536).toInt32)]) (rest := []) rfl i1 rfl rfl (Nat.le_of_ble_eq_true rfl) (y_indexOf (d := d + 0) n0 ((l1.toUInt32 % 65536).toInt32) i1 hp sz) ?_
    refine ye_if_lt rfl (fun h2 => ?_) (fun h2 => ?_)
    · replace h := yiT h2 h
      refine ye_iload rfl g1_z1 ?_
      refine ye_p rfl rfl ?_
      refine ye_icmp_eq rfl (fun h3 => ?_) (fun h3 => ?_)
      · replace h := yiT h3 h
        exact w_X4_takesThing_89 (prim := prim) (d := d) N S l1 hp lvz1 a0 fa0 g0_z1 g1_z1 hM h
      · replace h := yiN h3 h
        refine ye_iload rfl g1_z1 ?_
        refine ye_p rfl rfl ?_
        refine ye_icmp_ne rfl (fun h4 => ?_) (fun h4 => ?_)
        · replace h := yiT h4 h
          refine ye_iload rfl g1_z1 ?_
          refine ye_p rfl rfl ?_
          refine ye_icmp_ne rfl (fun h5 => ?_) (fun h5 => ?_)
          · replace h := yiT h5 h
            exact w_X4_takesThing_163 (prim := prim) (d := d) N S hp lvz1 hM h
          · replace h := yiN h5 h
            refine ye_aload rfl g0_z1 ?_
            refine ye_getf rfl (hM.obj fa0 ⟨rfl, rfl⟩) rfl ?_
            refine ye_p rfl rfl ?_
            refine ye_icmp_ge rfl (fun h6 => ?_) (fun h6 => ?_)
            · replace h := yiT h6 h
              exact w_X4_takesThing_163 (prim := prim) (d := d) N S hp lvz1 hM h
            · replace h := yiN h6 h
              refine ye_aload rfl g0_z1 ?_
              refine ye_p rfl rfl ?_
              obtain ⟨w3, S1, hw3, h⟩ := bS_some h
              obtain ⟨y1, cy1, M1⟩ := (m_X4_hold (d := d + 3) (T := T) N S 40 a0 fa0 hw3) hp sz hM
              refine ye_callV (As := [.int 40]) (rest := []) 0 (Or.inl rfl) rfl rfl rfl (Nat.le_of_ble_eq_true rfl) (hM.obj fa0 ⟨rfl, rfl⟩) cy1 ?_
              refine ye_aload rfl g0_z1 ?_
              refine ye_p rfl rfl ?_
              refine ye_getf rfl (M1.obj fa0 ⟨rfl, rfl⟩) rfl ?_
              refine ye_p rfl rfl ?_
              refine ye_p rfl rfl ?_
              obtain ⟨S2, eS2, h⟩ := sq_some h
              refine yw_putI rfl M1 fa0 rfl ⟨rfl, rfl⟩ (Nat.le_of_ble_eq_true rfl) rfl rfl (ys_4_5 ev T _ ((S1.1 7 5) + 1)) (fun q => absurd q (by decide)) eS2 (fun y2 M2 => ?_)
              refine ye_aload rfl g0_z1 ?_
              refine ye_getr rfl (M2.obj fa0 ⟨rfl, rfl⟩) rfl (fun cx1 ecx1 => ?_)
              have fcx1 := yAt.row fa0 ecx1
              refine ye_aload rfl g0_z1 ?_
              refine ye_getf rfl (M2.obj fa0 ⟨rfl, rfl⟩) rfl ?_
              refine ye_p rfl rfl ?_
              obtain ⟨j1, ej1, ij1, h⟩ := gA_some h
              obtain ⟨S3, eS3, h⟩ := sq_some h
              refine yw_ast rfl M2 fcx1 yr_4_4 (by decide) ij1 ej1 eS3 (fun y3 M3 => ?_)
              refine ye_aload rfl g0_z1 ?_
              refine ye_p rfl rfl ?_
              obtain ⟨S4, eS4, h⟩ := sq_some h
              refine yw_putI rfl M3 fa0 rfl ⟨rfl, rfl⟩ (Nat.le_of_ble_eq_true rfl) rfl rfl (ys_4_9 ev T _ 1) (fun q => absurd q (by decide)) eS4 (fun y4 M4 => ?_)
              refine ye_p rfl rfl ?_
              exact w_X4_takesThing_165 (prim := prim) (d := d) N S4 y4 lvz1 M4 h
        · replace h := yiN h4 h
          exact w_X4_takesThing_89 (prim := prim) (d := d) N S l1 hp lvz1 a0 fa0 g0_z1 g1_z1 hM h
    · replace h := yiN h2 h
      refine ye_aload rfl g0_z1 ?_
      refine ye_p rfl rfl ?_
      refine ye_iload rfl g1_z1 ?_
      refine ye_p rfl rfl ?_
      refine ye_p rfl rfl ?_
      refine ye_p rfl rfl ?_
      obtain ⟨w4, S5, hw4, h⟩ := bS_some h
      obtain ⟨y5, cy5, M5⟩ := (m_X4_write (d := d + 3) (T := T) N S ((1000 + l1) - 97) a0 fa0 hw4) hp sz hM
      refine ye_callV (As := [.int ((1000 + l1) - 97)]) (rest := []) 0 (Or.inl rfl) rfl rfl rfl (Nat.le_of_ble_eq_true rfl) (hM.obj fa0 ⟨rfl, rfl⟩) cy5 ?_
      refine ye_aload rfl g0_z1 ?_
      obtain ⟨w5, S6, hw5, h⟩ := bS_some h
      obtain ⟨y6, cy6, M6⟩ := (m_X4_takeNoDigits (d := d + 3) (T := T) N S5 a0 fa0 hw5) y5 sz M5
      refine ye_callV (As := []) (rest := []) 0 (Or.inl rfl) rfl rfl rfl (Nat.le_of_ble_eq_true rfl) (M5.obj fa0 ⟨rfl, rfl⟩) cy6 ?_
      refine ye_aload rfl g0_z1 ?_
      refine ye_p rfl rfl ?_
      obtain ⟨S7, eS7, h⟩ := sq_some h
      refine yw_putI rfl M6 fa0 rfl ⟨rfl, rfl⟩ (Nat.le_of_ble_eq_true rfl) rfl rfl (ys_4_9 ev T _ 2) (fun q => absurd q (by decide)) eS7 (fun y7 M7 => ?_)
      refine ye_p rfl rfl ?_
      exact w_X4_takesThing_165 (prim := prim) (d := d) N S7 y7 lvz1 M7 h
  · replace h := yiN h1 h
    refine ye_aload rfl g0_z1 ?_
    refine ye_iload rfl g1_z1 ?_
    refine ye_p rfl rfl ?_
    refine ye_p rfl rfl ?_
    obtain ⟨w6, S8, hw6, h⟩ := bS_some h
    obtain ⟨y8, cy8, M8⟩ := (m_X4_write (d := d + 3) (T := T) N S (l1 - 48) a0 fa0 hw6) hp sz hM
    refine ye_callV (As := [.int (l1 - 48)]) (rest := []) 0 (Or.inl rfl) rfl rfl rfl (Nat.le_of_ble_eq_true rfl) (hM.obj fa0 ⟨rfl, rfl⟩) cy8 ?_
    refine ye_aload rfl g0_z1 ?_
    refine ye_p rfl rfl ?_
    obtain ⟨S9, eS9, h⟩ := sq_some h
    refine yw_putI rfl M8 fa0 rfl ⟨rfl, rfl⟩ (Nat.le_of_ble_eq_true rfl) rfl rfl (ys_4_6 ev T _ 1) (fun q => absurd q (by decide)) eS9 (fun y9 M9 => ?_)
    refine ye_aload rfl g0_z1 ?_
    refine ye_p rfl rfl ?_
    obtain ⟨S10, eS10, h⟩ := sq_some h
    refine yw_putI rfl M9 fa0 rfl ⟨rfl, rfl⟩ (Nat.le_of_ble_eq_true rfl) rfl rfl (ys_4_9 ev T _ 2) (fun q => absurd q (by decide)) eS10 (fun y10 M10 => ?_)
    refine ye_p rfl rfl ?_
    exact w_X4_takesThing_165 (prim := prim) (d := d) N S10 y10 lvz1 M10 h

def f_X4_takesThing_0 (N : Nat) (S : yS) (l1 : Int32) : Option (Int32 × yS) := if ¬ (S.1 7 8) = 2 then f_X4_takesThing_15 N S l1 1 else f_X4_takesThing_15 N S l1 0
set_option maxHeartbeats 4000000 in
set_option maxRecDepth 40000 in
theorem w_X4_takesThing_0 {F : xH} {ev : xEv} {prim : xRel} {d sz : Nat} {T : yT} {v : Int32} {S' : yS} (N : Nat) (S : yS) (l1 : Int32) (hp : xH) (lv : xLv) (a0 : Nat) (fa0 : yAt T 4 7 0 a0) (g0 : xG lv 0 = some (.ref a0)) (g1 : xG lv 1 = some (.int l1)) (hM : cR [0, 1, 2, 3, 4, 5, 6, 7] F ev T S hp) (h : f_X4_takesThing_0 N S l1 = some (v, S')) : yWE ev.2.1 (xstr ev) (xCalls ev xmi (xprog ev) prim (d + 4)) (pX4_takesThing ev) (0, lv, [], hp, sz, 0) (ypQ [0, 1, 2, 3, 4, 5, 6, 7] F ev T sz (some (.int v)) S') := by
  unfold f_X4_takesThing_0 at h
  refine ye_aload rfl g0 ?_
  refine ye_getf rfl (hM.obj fa0 ⟨rfl, rfl⟩) rfl ?_
  refine ye_p rfl rfl ?_
  refine ye_icmp_ne rfl (fun h1 => ?_) (fun h1 => ?_)
  · replace h := yiT h1 h
    refine ye_p rfl rfl ?_
    exact w_X4_takesThing_15 (prim := prim) (d := d) N S l1 1 hp lv a0 fa0 g0 g1 hM h
  · replace h := yiN h1 h
    refine ye_p rfl rfl ?_
    refine ye_p rfl rfl ?_
    exact w_X4_takesThing_15 (prim := prim) (d := d) N S l1 0 hp lv a0 fa0 g0 g1 hM h
def f_X4_takesThing (N : Nat) (S : yS) (xl1 : Int32) : Option (Int32 × yS) := f_X4_takesThing_0 N S xl1
theorem m_X4_takesThing {F : xH} {ev : xEv} {prim : xRel} {d : Nat} {T : yT} {v : Int32} {S' : yS} (N : Nat) (S : yS) (xl1 : Int32) (a0 : Nat) (fa0 : yAt T 4 7 0 a0) (h : f_X4_takesThing N S xl1 = some (v, S')) : ykQ [0, 1, 2, 3, 4, 5, 6, 7] F ev prim (d + 5) 47 T S [.ref a0, .int xl1] (some (.int v)) S' :=
  ykQ.of (pg_47 ev) mi_47 (Nat.le_of_ble_eq_true rfl) (fun hp sz hM => w_X4_takesThing_0 (prim := prim) (d := d) N S xl1 hp _ a0 fa0 rfl rfl hM h)

def f_X4_takesAct_14 (N : Nat) (S : yS) (l1 : Int32) (n0 : Nat) : Option (Int32 × yS) := gP (n0 < 4) (if 0 ≤ (sIdx n0 ((l1.toUInt32 % 65536).toInt32)) then bS (f_X4_write N S (3000 + l1)) fun w2 S1 => sq (yI S1 7 9 4) fun S2 => some (1, S2) else some (0, S))
set_option maxHeartbeats 4000000 in
set_option maxRecDepth 40000 in
theorem w_X4_takesAct_14 {F : xH} {ev : xEv} {prim : xRel} {d sz : Nat} {T : yT} {v : Int32} {S' : yS} (N : Nat) (S : yS) (l1 : Int32) (n0 : Nat) (hp : xH) (lv : xLv) (a0 : Nat) (fa0 : yAt T 4 7 0 a0) (g0 : xG lv 0 = some (.ref a0)) (g1 : xG lv 1 = some (.int l1)) (hM : cR [0, 1, 2, 3, 4, 5, 6, 7] F ev T S hp) (h : f_X4_takesAct_14 N S l1 n0 = some (v, S')) : yWE ev.2.1 (xstr ev) (xCalls ev xmi (xprog ev) prim (d + 4)) (pX4_takesAct ev) (14, lv, [.ref (ev.2.1 n0)], hp, sz, 0) (ypQ [0, 1, 2, 3, 4, 5, 6, 7] F ev T sz (some (.int v)) S') := by
  unfold f_X4_takesAct_14 at h
  refine ye_p rfl rfl ?_
  have g0_z1 := xG_o1 (i := 2) (v := .ref (ev.2.1 n0)) g0 rfl
  have g1_z1 := xG_o1 (i := 2) (v := .ref (ev.2.1 n0)) g1 rfl
  have g2_z1 := xG_same lv 2 (.ref (ev.2.1 n0))
  generalize xSt1 lv 2 (.ref (ev.2.1 n0)) = lvz1 at g0_z1 g1_z1 g2_z1 ⊢
  refine ye_aload rfl g2_z1 ?_
  refine ye_iload rfl g1_z1 ?_
  refine ye_p rfl rfl ?_
  obtain ⟨i1, h⟩ := gP_some h
  refine ye_callT (i := n0) (As := [.int ((l1.toUInt32 % 65536).toInt32)]) (rest := []) rfl i1 rfl rfl (Nat.le_of_ble_eq_true rfl) (y_indexOf (d := d + 0) n0 ((l1.toUInt32 % 65536).toInt32) i1 hp sz) ?_
  refine ye_if_ge rfl (fun h1 => ?_) (fun h1 => ?_)
  · replace h := yiT h1 h
    refine ye_aload rfl g0_z1 ?_
    refine ye_p rfl rfl ?_
    refine ye_iload rfl g1_z1 ?_
    refine ye_p rfl rfl ?_
    obtain ⟨w2, S1, hw2, h⟩ := bS_some h
    obtain ⟨y1, cy1, M1⟩ := (m_X4_write (d := d + 3) (T := T) N S (3000 + l1) a0 fa0 hw2) hp sz hM
    refine ye_callV (As := [.int (3000 + l1)]) (rest := []) 0 (Or.inl rfl) rfl rfl rfl (Nat.le_of_ble_eq_true rfl) (hM.obj fa0 ⟨rfl, rfl⟩) cy1 ?_
    refine ye_aload rfl g0_z1 ?_
    refine ye_p rfl rfl ?_
    obtain ⟨S2, eS2, h⟩ := sq_some h
    refine yw_putI rfl M1 fa0 rfl ⟨rfl, rfl⟩ (Nat.le_of_ble_eq_true rfl) rfl rfl (ys_4_9 ev T _ 4) (fun q => absurd q (by decide)) eS2 (fun y2 M2 => ?_)
    refine ye_p rfl rfl ?_
    exact ye_ret rfl rfl (rQ h M2)
  · replace h := yiN h1 h
    refine ye_p rfl rfl ?_
    exact ye_ret rfl rfl (rQ h hM)

def f_X4_takesAct_0 (N : Nat) (S : yS) (l1 : Int32) : Option (Int32 × yS) := if ¬ (S.1 7 8) = 0 then f_X4_takesAct_14 N S l1 3 else f_X4_takesAct_14 N S l1 2
set_option maxHeartbeats 4000000 in
set_option maxRecDepth 40000 in
theorem w_X4_takesAct_0 {F : xH} {ev : xEv} {prim : xRel} {d sz : Nat} {T : yT} {v : Int32} {S' : yS} (N : Nat) (S : yS) (l1 : Int32) (hp : xH) (lv : xLv) (a0 : Nat) (fa0 : yAt T 4 7 0 a0) (g0 : xG lv 0 = some (.ref a0)) (g1 : xG lv 1 = some (.int l1)) (hM : cR [0, 1, 2, 3, 4, 5, 6, 7] F ev T S hp) (h : f_X4_takesAct_0 N S l1 = some (v, S')) : yWE ev.2.1 (xstr ev) (xCalls ev xmi (xprog ev) prim (d + 4)) (pX4_takesAct ev) (0, lv, [], hp, sz, 0) (ypQ [0, 1, 2, 3, 4, 5, 6, 7] F ev T sz (some (.int v)) S') := by
  unfold f_X4_takesAct_0 at h
  refine ye_aload rfl g0 ?_
  refine ye_getf rfl (hM.obj fa0 ⟨rfl, rfl⟩) rfl ?_
  refine ye_if_ne rfl (fun h1 => ?_) (fun h1 => ?_)
  · replace h := yiT h1 h
    refine ye_p rfl rfl ?_
    exact w_X4_takesAct_14 (prim := prim) (d := d) N S l1 3 hp lv a0 fa0 g0 g1 hM h
  · replace h := yiN h1 h
    refine ye_p rfl rfl ?_
    refine ye_p rfl rfl ?_
    exact w_X4_takesAct_14 (prim := prim) (d := d) N S l1 2 hp lv a0 fa0 g0 g1 hM h
def f_X4_takesAct (N : Nat) (S : yS) (xl1 : Int32) : Option (Int32 × yS) := f_X4_takesAct_0 N S xl1
theorem m_X4_takesAct {F : xH} {ev : xEv} {prim : xRel} {d : Nat} {T : yT} {v : Int32} {S' : yS} (N : Nat) (S : yS) (xl1 : Int32) (a0 : Nat) (fa0 : yAt T 4 7 0 a0) (h : f_X4_takesAct N S xl1 = some (v, S')) : ykQ [0, 1, 2, 3, 4, 5, 6, 7] F ev prim (d + 5) 55 T S [.ref a0, .int xl1] (some (.int v)) S' :=
  ykQ.of (pg_55 ev) mi_55 (Nat.le_of_ble_eq_true rfl) (fun hp sz hM => w_X4_takesAct_0 (prim := prim) (d := d) N S xl1 hp _ a0 fa0 rfl rfl hM h)

def f_X4_releaseDownTo_49 (N : Nat) (S : yS) : Option (Int32 × yS) := some (0, S)
set_option maxHeartbeats 4000000 in
set_option maxRecDepth 40000 in
theorem w_X4_releaseDownTo_49 {F : xH} {ev : xEv} {prim : xRel} {d sz : Nat} {T : yT} {v : Int32} {S' : yS} (N : Nat) (S : yS) (hp : xH) (lv : xLv) (hM : cR [0, 1, 2, 3, 4, 5, 6, 7] F ev T S hp) (h : f_X4_releaseDownTo_49 N S = some (v, S')) : yWE ev.2.1 (xstr ev) (xCalls ev xmi (xprog ev) prim (d + 1)) (pX4_releaseDownTo ev) (49, lv, [], hp, sz, 0) (ypQ [0, 1, 2, 3, 4, 5, 6, 7] F ev T sz (none) S') := by
  unfold f_X4_releaseDownTo_49 at h
  exact ye_ret rfl rfl (rQV h hM)

def f_X4_releaseDownTo_7 : Nat → Nat → yS → Int32 → Int32 → Option (Int32 × yS)
  | 0, _, _, _, _ => none
  | n + 1, N, S, l1, l2 => if l2 < 0 then f_X4_releaseDownTo_49 N S else gA 60 l2 fun j1 => bV (f_X4_strengthOf N S (S.2.1 7 2 j1)) fun w1 => if w1 < l1 then f_X4_releaseDownTo_49 N S else gA 60 l2 fun j2 => bS (f_X4_write N S (2000 + (S.2.1 7 2 j2))) fun w2 S1 => sq (yI S1 7 3 l2) fun S2 => f_X4_releaseDownTo_7 n N S2 l1 (l2 + (-1))
set_option maxHeartbeats 4000000 in
set_option maxRecDepth 40000 in
theorem w_X4_releaseDownTo_7 {F : xH} {ev : xEv} {prim : xRel} {d sz : Nat} {T : yT} {v : Int32} {S' : yS} (N : Nat) (n : Nat) : ∀ (S : yS) (l1 : Int32) (l2 : Int32) (hp : xH) (lv : xLv) (a0 : Nat) (fa0 : yAt T 4 7 0 a0) (g0 : xG lv 0 = some (.ref a0)) (g1 : xG lv 1 = some (.int l1)) (g2 : xG lv 2 = some (.int l2)) (hM : cR [0, 1, 2, 3, 4, 5, 6, 7] F ev T S hp) (h : f_X4_releaseDownTo_7 n N S l1 l2 = some (v, S')), yWE ev.2.1 (xstr ev) (xCalls ev xmi (xprog ev) prim (d + 1)) (pX4_releaseDownTo ev) (7, lv, [], hp, sz, 0) (ypQ [0, 1, 2, 3, 4, 5, 6, 7] F ev T sz (none) S') := by
  induction n with
  | zero => intro S l1 l2 hp lv a0 fa0 g0 g1 g2 hM h; exact n_some h
  | succ n ih =>
    intro S l1 l2 hp lv a0 fa0 g0 g1 g2 hM h
    unfold f_X4_releaseDownTo_7 at h
    refine ye_iload rfl g2 ?_
    refine ye_if_lt rfl (fun h1 => ?_) (fun h1 => ?_)
    · replace h := yiT h1 h
      exact w_X4_releaseDownTo_49 (prim := prim) (d := d) N S hp lv hM h
    · replace h := yiN h1 h
      refine ye_aload rfl g0 ?_
      refine ye_getr rfl (hM.obj fa0 ⟨rfl, rfl⟩) rfl (fun cx1 ecx1 => ?_)
      have fcx1 := yAt.row fa0 ecx1
      refine ye_iload rfl g2 ?_
      obtain ⟨j1, ej1, ij1, h⟩ := gA_some h
      refine yj_ald rfl (hM.arr fcx1 yr_4_2) ij1 ej1 ?_
      obtain ⟨w1, hw1, h⟩ := bV_some h
      refine ye_callS (As := [.int (S.2.1 7 2 j1)]) (rest := []) 1 (Or.inl rfl) rfl rfl rfl (Nat.le_of_ble_eq_true rfl) ((m_X4_strengthOf (d := d + 0) (T := T) N S (S.2.1 7 2 j1) hw1) hp sz hM) ?_
      refine ye_iload rfl g1 ?_
      refine ye_icmp_lt rfl (fun h2 => ?_) (fun h2 => ?_)
      · replace h := yiT h2 h
        exact w_X4_releaseDownTo_49 (prim := prim) (d := d) N S hp lv hM h
      · replace h := yiN h2 h
        refine ye_aload rfl g0 ?_
        refine ye_p rfl rfl ?_
        refine ye_aload rfl g0 ?_
        refine ye_getr rfl (hM.obj fa0 ⟨rfl, rfl⟩) rfl (fun cx2 ecx2 => ?_)
        have fcx2 := yAt.row fa0 ecx2
        refine ye_iload rfl g2 ?_
        obtain ⟨j2, ej2, ij2, h⟩ := gA_some h
        refine yj_ald rfl (hM.arr fcx2 yr_4_2) ij2 ej2 ?_
        refine ye_p rfl rfl ?_
        obtain ⟨w2, S1, hw2, h⟩ := bS_some h
        obtain ⟨y1, cy1, M1⟩ := (m_X4_write (d := d + 0) (T := T) N S (2000 + (S.2.1 7 2 j2)) a0 fa0 hw2) hp sz hM
        refine ye_callV (As := [.int (2000 + (S.2.1 7 2 j2))]) (rest := []) 0 (Or.inl rfl) rfl rfl rfl (Nat.le_of_ble_eq_true rfl) (hM.obj fa0 ⟨rfl, rfl⟩) cy1 ?_
        refine ye_aload rfl g0 ?_
        refine ye_iload rfl g2 ?_
        obtain ⟨S2, eS2, h⟩ := sq_some h
        refine yw_putI rfl M1 fa0 rfl ⟨rfl, rfl⟩ (Nat.le_of_ble_eq_true rfl) rfl rfl (ys_4_3 ev T _ l2) (fun q => absurd q (by decide)) eS2 (fun y2 M2 => ?_)
        refine ye_iinc rfl g2 ?_
        have g0_z1 := xG_o1 (i := 2) (v := .int (l2 + (-1))) g0 rfl
        have g1_z1 := xG_o1 (i := 2) (v := .int (l2 + (-1))) g1 rfl
        have g2_z1 := xG_same lv 2 (.int (l2 + (-1)))
        generalize xSt1 lv 2 (.int (l2 + (-1))) = lvz1 at g0_z1 g1_z1 g2_z1 ⊢
        refine ye_p rfl rfl ?_
        exact ih S2 l1 (l2 + (-1)) y2 lvz1 a0 fa0 g0_z1 g1_z1 g2_z1 M2 h

def f_X4_releaseDownTo_0 (N : Nat) (S : yS) (l1 : Int32) : Option (Int32 × yS) := f_X4_releaseDownTo_7 N N S l1 ((S.1 7 3) - 1)
set_option maxHeartbeats 4000000 in
set_option maxRecDepth 40000 in
theorem w_X4_releaseDownTo_0 {F : xH} {ev : xEv} {prim : xRel} {d sz : Nat} {T : yT} {v : Int32} {S' : yS} (N : Nat) (S : yS) (l1 : Int32) (hp : xH) (lv : xLv) (a0 : Nat) (fa0 : yAt T 4 7 0 a0) (g0 : xG lv 0 = some (.ref a0)) (g1 : xG lv 1 = some (.int l1)) (hM : cR [0, 1, 2, 3, 4, 5, 6, 7] F ev T S hp) (h : f_X4_releaseDownTo_0 N S l1 = some (v, S')) : yWE ev.2.1 (xstr ev) (xCalls ev xmi (xprog ev) prim (d + 1)) (pX4_releaseDownTo ev) (0, lv, [], hp, sz, 0) (ypQ [0, 1, 2, 3, 4, 5, 6, 7] F ev T sz (none) S') := by
  unfold f_X4_releaseDownTo_0 at h
  refine ye_aload rfl g0 ?_
  refine ye_getf rfl (hM.obj fa0 ⟨rfl, rfl⟩) rfl ?_
  refine ye_p rfl rfl ?_
  refine ye_p rfl rfl ?_
  refine ye_p rfl rfl ?_
  have g0_z1 := xG_o1 (i := 2) (v := .int ((S.1 7 3) - 1)) g0 rfl
  have g1_z1 := xG_o1 (i := 2) (v := .int ((S.1 7 3) - 1)) g1 rfl
  have g2_z1 := xG_same lv 2 (.int ((S.1 7 3) - 1))
  generalize xSt1 lv 2 (.int ((S.1 7 3) - 1)) = lvz1 at g0_z1 g1_z1 g2_z1 ⊢
  exact w_X4_releaseDownTo_7 (prim := prim) (d := d) N N S l1 ((S.1 7 3) - 1) hp lvz1 a0 fa0 g0_z1 g1_z1 g2_z1 hM h
def f_X4_releaseDownTo (N : Nat) (S : yS) (xl1 : Int32) : Option (Int32 × yS) := f_X4_releaseDownTo_0 N S xl1
theorem m_X4_releaseDownTo {F : xH} {ev : xEv} {prim : xRel} {d : Nat} {T : yT} {v : Int32} {S' : yS} (N : Nat) (S : yS) (xl1 : Int32) (a0 : Nat) (fa0 : yAt T 4 7 0 a0) (h : f_X4_releaseDownTo N S xl1 = some (v, S')) : ykQ [0, 1, 2, 3, 4, 5, 6, 7] F ev prim (d + 2) 56 T S [.ref a0, .int xl1] (none) S' :=
  ykQ.of (pg_56 ev) mi_56 (Nat.le_of_ble_eq_true rfl) (fun hp sz hM => w_X4_releaseDownTo_0 (prim := prim) (d := d) N S xl1 hp _ a0 fa0 rfl rfl hM h)

def f_X4_closeChoices_40 (N : Nat) (S : yS) : Option (Int32 × yS) := some (0, S)
set_option maxHeartbeats 4000000 in
set_option maxRecDepth 40000 in
theorem w_X4_closeChoices_40 {F : xH} {ev : xEv} {prim : xRel} {d sz : Nat} {T : yT} {v : Int32} {S' : yS} (N : Nat) (S : yS) (hp : xH) (lv : xLv) (hM : cR [0, 1, 2, 3, 4, 5, 6, 7] F ev T S hp) (h : f_X4_closeChoices_40 N S = some (v, S')) : yWE ev.2.1 (xstr ev) (xCalls ev xmi (xprog ev) prim (d + 1)) (pX4_closeChoices ev) (40, lv, [], hp, sz, 0) (ypQ [0, 1, 2, 3, 4, 5, 6, 7] F ev T sz (none) S') := by
  unfold f_X4_closeChoices_40 at h
  exact ye_ret rfl rfl (rQV h hM)

def f_X4_closeChoices_7 : Nat → Nat → yS → Int32 → Option (Int32 × yS)
  | 0, _, _, _ => none
  | n + 1, N, S, l1 => if l1 < 0 then f_X4_closeChoices_40 N S else gA 60 l1 fun j1 => if ¬ (S.2.1 7 2 j1) = 58 then f_X4_closeChoices_40 N S else bS (f_X4_write N S 2063) fun w1 S1 => sq (yI S1 7 3 l1) fun S2 => f_X4_closeChoices_7 n N S2 (l1 + (-1))
set_option maxHeartbeats 4000000 in
set_option maxRecDepth 40000 in
theorem w_X4_closeChoices_7 {F : xH} {ev : xEv} {prim : xRel} {d sz : Nat} {T : yT} {v : Int32} {S' : yS} (N : Nat) (n : Nat) : ∀ (S : yS) (l1 : Int32) (hp : xH) (lv : xLv) (a0 : Nat) (fa0 : yAt T 4 7 0 a0) (g0 : xG lv 0 = some (.ref a0)) (g1 : xG lv 1 = some (.int l1)) (hM : cR [0, 1, 2, 3, 4, 5, 6, 7] F ev T S hp) (h : f_X4_closeChoices_7 n N S l1 = some (v, S')), yWE ev.2.1 (xstr ev) (xCalls ev xmi (xprog ev) prim (d + 1)) (pX4_closeChoices ev) (7, lv, [], hp, sz, 0) (ypQ [0, 1, 2, 3, 4, 5, 6, 7] F ev T sz (none) S') := by
  induction n with
  | zero => intro S l1 hp lv a0 fa0 g0 g1 hM h; exact n_some h
  | succ n ih =>
    intro S l1 hp lv a0 fa0 g0 g1 hM h
    unfold f_X4_closeChoices_7 at h
    refine ye_iload rfl g1 ?_
    refine ye_if_lt rfl (fun h1 => ?_) (fun h1 => ?_)
    · replace h := yiT h1 h
      exact w_X4_closeChoices_40 (prim := prim) (d := d) N S hp lv hM h
    · replace h := yiN h1 h
      refine ye_aload rfl g0 ?_
      refine ye_getr rfl (hM.obj fa0 ⟨rfl, rfl⟩) rfl (fun cx1 ecx1 => ?_)
      have fcx1 := yAt.row fa0 ecx1
      refine ye_iload rfl g1 ?_
      obtain ⟨j1, ej1, ij1, h⟩ := gA_some h
      refine yj_ald rfl (hM.arr fcx1 yr_4_2) ij1 ej1 ?_
      refine ye_p rfl rfl ?_
      refine ye_icmp_ne rfl (fun h2 => ?_) (fun h2 => ?_)
      · replace h := yiT h2 h
        exact w_X4_closeChoices_40 (prim := prim) (d := d) N S hp lv hM h
      · replace h := yiN h2 h
        refine ye_aload rfl g0 ?_
        refine ye_p rfl rfl ?_
        obtain ⟨w1, S1, hw1, h⟩ := bS_some h
        obtain ⟨y1, cy1, M1⟩ := (m_X4_write (d := d + 0) (T := T) N S 2063 a0 fa0 hw1) hp sz hM
        refine ye_callV (As := [.int 2063]) (rest := []) 0 (Or.inl rfl) rfl rfl rfl (Nat.le_of_ble_eq_true rfl) (hM.obj fa0 ⟨rfl, rfl⟩) cy1 ?_
        refine ye_aload rfl g0 ?_
        refine ye_iload rfl g1 ?_
        obtain ⟨S2, eS2, h⟩ := sq_some h
        refine yw_putI rfl M1 fa0 rfl ⟨rfl, rfl⟩ (Nat.le_of_ble_eq_true rfl) rfl rfl (ys_4_3 ev T _ l1) (fun q => absurd q (by decide)) eS2 (fun y2 M2 => ?_)
        refine ye_iinc rfl g1 ?_
        have g0_z1 := xG_o1 (i := 1) (v := .int (l1 + (-1))) g0 rfl
        have g1_z1 := xG_same lv 1 (.int (l1 + (-1)))
        generalize xSt1 lv 1 (.int (l1 + (-1))) = lvz1 at g0_z1 g1_z1 ⊢
        refine ye_p rfl rfl ?_
        exact ih S2 (l1 + (-1)) y2 lvz1 a0 fa0 g0_z1 g1_z1 M2 h

def f_X4_closeChoices_0 (N : Nat) (S : yS) : Option (Int32 × yS) := f_X4_closeChoices_7 N N S ((S.1 7 3) - 1)
set_option maxHeartbeats 4000000 in
set_option maxRecDepth 40000 in
theorem w_X4_closeChoices_0 {F : xH} {ev : xEv} {prim : xRel} {d sz : Nat} {T : yT} {v : Int32} {S' : yS} (N : Nat) (S : yS) (hp : xH) (lv : xLv) (a0 : Nat) (fa0 : yAt T 4 7 0 a0) (g0 : xG lv 0 = some (.ref a0)) (hM : cR [0, 1, 2, 3, 4, 5, 6, 7] F ev T S hp) (h : f_X4_closeChoices_0 N S = some (v, S')) : yWE ev.2.1 (xstr ev) (xCalls ev xmi (xprog ev) prim (d + 1)) (pX4_closeChoices ev) (0, lv, [], hp, sz, 0) (ypQ [0, 1, 2, 3, 4, 5, 6, 7] F ev T sz (none) S') := by
  unfold f_X4_closeChoices_0 at h
  refine ye_aload rfl g0 ?_
  refine ye_getf rfl (hM.obj fa0 ⟨rfl, rfl⟩) rfl ?_
  refine ye_p rfl rfl ?_
  refine ye_p rfl rfl ?_
  refine ye_p rfl rfl ?_
  have g0_z1 := xG_o1 (i := 1) (v := .int ((S.1 7 3) - 1)) g0 rfl
  have g1_z1 := xG_same lv 1 (.int ((S.1 7 3) - 1))
  generalize xSt1 lv 1 (.int ((S.1 7 3) - 1)) = lvz1 at g0_z1 g1_z1 ⊢
  exact w_X4_closeChoices_7 (prim := prim) (d := d) N N S ((S.1 7 3) - 1) hp lvz1 a0 fa0 g0_z1 g1_z1 hM h
def f_X4_closeChoices (N : Nat) (S : yS) : Option (Int32 × yS) := f_X4_closeChoices_0 N S
theorem m_X4_closeChoices {F : xH} {ev : xEv} {prim : xRel} {d : Nat} {T : yT} {v : Int32} {S' : yS} (N : Nat) (S : yS) (a0 : Nat) (fa0 : yAt T 4 7 0 a0) (h : f_X4_closeChoices N S = some (v, S')) : ykQ [0, 1, 2, 3, 4, 5, 6, 7] F ev prim (d + 2) 57 T S [.ref a0] (none) S' :=
  ykQ.of (pg_57 ev) mi_57 (Nat.le_of_ble_eq_true rfl) (fun hp sz hM => w_X4_closeChoices_0 (prim := prim) (d := d) N S hp _ a0 fa0 rfl hM h)

def f_X5_giveBack_15 (N : Nat) (S : yS) : Option (Int32 × yS) := some (0, S)
set_option maxHeartbeats 4000000 in
set_option maxRecDepth 40000 in
theorem w_X5_giveBack_15 {F : xH} {ev : xEv} {prim : xRel} {d sz : Nat} {T : yT} {v : Int32} {S' : yS} (N : Nat) (S : yS) (hp : xH) (lv : xLv) (hM : cR [0, 1, 2, 3, 4, 5, 6, 7] F ev T S hp) (h : f_X5_giveBack_15 N S = some (v, S')) : yWE ev.2.1 (xstr ev) (xCalls ev xmi (xprog ev) prim (d + 1)) (pX5_giveBack ev) (15, lv, [], hp, sz, 0) (ypQ [0, 1, 2, 3, 4, 5, 6, 7] F ev T sz (none) S') := by
  unfold f_X5_giveBack_15 at h
  exact ye_ret rfl rfl (rQV h hM)

def f_X5_giveBack_0 (N : Nat) (S : yS) (p0 : Nat) : Option (Int32 × yS) := if S.1 p0 4 = 1 then gP (S.1 p0 4 = 1) (bS (f_X5_copy N S ((p0 + 64)) p0) fun w1 S1 => f_X5_giveBack_15 N S1) else f_X5_giveBack_15 N S
set_option maxHeartbeats 4000000 in
set_option maxRecDepth 40000 in
theorem w_X5_giveBack_0 {F : xH} {ev : xEv} {prim : xRel} {d sz : Nat} {T : yT} {v : Int32} {S' : yS} (N : Nat) (S : yS) (p0 : Nat) (hp : xH) (lv : xLv) (a0 : Nat) (fa0 : yAt T 5 p0 0 a0) (g0 : xG lv 0 = some (.ref a0)) (hM : cR [0, 1, 2, 3, 4, 5, 6, 7] F ev T S hp) (h : f_X5_giveBack_0 N S p0 = some (v, S')) : yWE ev.2.1 (xstr ev) (xCalls ev xmi (xprog ev) prim (d + 1)) (pX5_giveBack ev) (0, lv, [], hp, sz, 0) (ypQ [0, 1, 2, 3, 4, 5, 6, 7] F ev T sz (none) S') := by
  unfold f_X5_giveBack_0 at h
  refine ye_aload rfl g0 ?_
  refine ye_getf rfl (hM.obj fa0 ⟨rfl, rfl⟩) rfl ?_
  refine ye_ifnull rfl (fun h1 => ?_) (fun h1 => ?_)
  · replace h := yiT h1 h
    refine ye_aload rfl g0 ?_
    obtain ⟨i1, h⟩ := gP_some h
    refine ye_gNu rfl (hM.obj fa0 ⟨rfl, rfl⟩) rfl i1 (fun cx1 ecx1 => ?_)
    have fcx1 : yAt T 5 (p0 + 64) 0 cx1 := ⟨(hM.kept fa0 i1).1, (hM.kept fa0 i1).2, ecx1⟩
    refine ye_aload rfl g0 ?_
    obtain ⟨w1, S1, hw1, h⟩ := bS_some h
    obtain ⟨y1, cy1, M1⟩ := (m_X5_copy (d := d + 0) (T := T) N S ((p0 + 64)) p0 cx1 a0 fcx1 fa0 hw1) hp sz hM
    refine ye_callS (As := [.ref cx1, .ref a0]) (rest := []) 1 (Or.inl rfl) rfl rfl rfl (Nat.le_of_ble_eq_true rfl) cy1 ?_
    exact w_X5_giveBack_15 (prim := prim) (d := d) N S1 y1 lv M1 h
  · replace h := yiN h1 h
    exact w_X5_giveBack_15 (prim := prim) (d := d) N S hp lv hM h
def f_X5_giveBack (N : Nat) (S : yS) (xp0 : Nat) : Option (Int32 × yS) := f_X5_giveBack_0 N S xp0
theorem m_X5_giveBack {F : xH} {ev : xEv} {prim : xRel} {d : Nat} {T : yT} {v : Int32} {S' : yS} (N : Nat) (S : yS) (xp0 : Nat) (a0 : Nat) (fa0 : yAt T 5 xp0 0 a0) (h : f_X5_giveBack N S xp0 = some (v, S')) : ykQ [0, 1, 2, 3, 4, 5, 6, 7] F ev prim (d + 2) 66 T S [.ref a0] (none) S' :=
  ykQ.of (pg_66 ev) mi_66 (Nat.le_of_ble_eq_true rfl) (fun hp sz hM => w_X5_giveBack_0 (prim := prim) (d := d) N S xp0 hp _ a0 fa0 rfl hM h)

def f_X6_giveBack_15 (N : Nat) (S : yS) : Option (Int32 × yS) := some (0, S)
set_option maxHeartbeats 4000000 in
set_option maxRecDepth 40000 in
theorem w_X6_giveBack_15 {F : xH} {ev : xEv} {prim : xRel} {d sz : Nat} {T : yT} {v : Int32} {S' : yS} (N : Nat) (S : yS) (hp : xH) (lv : xLv) (hM : cR [0, 1, 2, 3, 4, 5, 6, 7] F ev T S hp) (h : f_X6_giveBack_15 N S = some (v, S')) : yWE ev.2.1 (xstr ev) (xCalls ev xmi (xprog ev) prim (d + 1)) (pX6_giveBack ev) (15, lv, [], hp, sz, 0) (ypQ [0, 1, 2, 3, 4, 5, 6, 7] F ev T sz (none) S') := by
  unfold f_X6_giveBack_15 at h
  exact ye_ret rfl rfl (rQV h hM)

def f_X6_giveBack_0 (N : Nat) (S : yS) (p0 : Nat) : Option (Int32 × yS) := if S.1 p0 20 = 1 then gP (S.1 p0 20 = 1) (bS (f_X6_copy N S ((p0 + 64)) p0) fun w1 S1 => f_X6_giveBack_15 N S1) else f_X6_giveBack_15 N S
set_option maxHeartbeats 4000000 in
set_option maxRecDepth 40000 in
theorem w_X6_giveBack_0 {F : xH} {ev : xEv} {prim : xRel} {d sz : Nat} {T : yT} {v : Int32} {S' : yS} (N : Nat) (S : yS) (p0 : Nat) (hp : xH) (lv : xLv) (a0 : Nat) (fa0 : yAt T 6 p0 0 a0) (g0 : xG lv 0 = some (.ref a0)) (hM : cR [0, 1, 2, 3, 4, 5, 6, 7] F ev T S hp) (h : f_X6_giveBack_0 N S p0 = some (v, S')) : yWE ev.2.1 (xstr ev) (xCalls ev xmi (xprog ev) prim (d + 1)) (pX6_giveBack ev) (0, lv, [], hp, sz, 0) (ypQ [0, 1, 2, 3, 4, 5, 6, 7] F ev T sz (none) S') := by
  unfold f_X6_giveBack_0 at h
  refine ye_aload rfl g0 ?_
  refine ye_getf rfl (hM.obj fa0 ⟨rfl, rfl⟩) rfl ?_
  refine ye_ifnull rfl (fun h1 => ?_) (fun h1 => ?_)
  · replace h := yiT h1 h
    refine ye_aload rfl g0 ?_
    obtain ⟨i1, h⟩ := gP_some h
    refine ye_gNu rfl (hM.obj fa0 ⟨rfl, rfl⟩) rfl i1 (fun cx1 ecx1 => ?_)
    have fcx1 : yAt T 6 (p0 + 64) 0 cx1 := ⟨(hM.kept fa0 i1).1, (hM.kept fa0 i1).2, ecx1⟩
    refine ye_aload rfl g0 ?_
    obtain ⟨w1, S1, hw1, h⟩ := bS_some h
    obtain ⟨y1, cy1, M1⟩ := (m_X6_copy (d := d + 0) (T := T) N S ((p0 + 64)) p0 cx1 a0 fcx1 fa0 hw1) hp sz hM
    refine ye_callS (As := [.ref cx1, .ref a0]) (rest := []) 1 (Or.inl rfl) rfl rfl rfl (Nat.le_of_ble_eq_true rfl) cy1 ?_
    exact w_X6_giveBack_15 (prim := prim) (d := d) N S1 y1 lv M1 h
  · replace h := yiN h1 h
    exact w_X6_giveBack_15 (prim := prim) (d := d) N S hp lv hM h
def f_X6_giveBack (N : Nat) (S : yS) (xp0 : Nat) : Option (Int32 × yS) := f_X6_giveBack_0 N S xp0
theorem m_X6_giveBack {F : xH} {ev : xEv} {prim : xRel} {d : Nat} {T : yT} {v : Int32} {S' : yS} (N : Nat) (S : yS) (xp0 : Nat) (a0 : Nat) (fa0 : yAt T 6 xp0 0 a0) (h : f_X6_giveBack N S xp0 = some (v, S')) : ykQ [0, 1, 2, 3, 4, 5, 6, 7] F ev prim (d + 2) 75 T S [.ref a0] (none) S' :=
  ykQ.of (pg_75 ev) mi_75 (Nat.le_of_ble_eq_true rfl) (fun hp sz hM => w_X6_giveBack_0 (prim := prim) (d := d) N S xp0 hp _ a0 fa0 rfl hM h)

def f_X7_quarters_0 (N : Nat) (S : yS) (l1 : Int32) (l2 : Int32) : Option Int32 := bV (f_X2_milesBetween N S l1 l2) fun w1 => bV (f_X11_roundUp N S w1 8) fun w2 => some w2
set_option maxHeartbeats 4000000 in
set_option maxRecDepth 40000 in
theorem w_X7_quarters_0 {F : xH} {ev : xEv} {prim : xRel} {d sz : Nat} {T : yT} {v : Int32} {hp : xH} (N : Nat) (S : yS) (l1 : Int32) (l2 : Int32) (lv : xLv) (a0 : Nat) (fa0 : yAt T 2 1 0 a0) (g0 : xG lv 0 = some (.ref a0)) (g1 : xG lv 1 = some (.int l1)) (g2 : xG lv 2 = some (.int l2)) (hM : cR [0, 1, 2, 3, 4, 5, 6, 7] F ev T S hp) (h : f_X7_quarters_0 N S l1 l2 = some v) : yWE ev.2.1 (xstr ev) (xCalls ev xmi (xprog ev) prim (d + 1)) (pX7_quarters ev) (0, lv, [], hp, sz, 0) (ypP hp sz (.int v)) := by
  unfold f_X7_quarters_0 at h
  refine ye_aload rfl g0 ?_
  refine ye_iload rfl g1 ?_
  refine ye_iload rfl g2 ?_
  obtain ⟨w1, hw1, h⟩ := bV_some h
  refine ye_callV (As := [.int l1, .int l2]) (rest := []) 0 (Or.inl rfl) rfl rfl rfl (Nat.le_of_ble_eq_true rfl) (hM.obj fa0 ⟨rfl, rfl⟩) ((m_X2_milesBetween (d := d + 0) (T := T) N S l1 l2 a0 fa0 hw1) hp sz hM) ?_
  refine ye_p rfl rfl ?_
  obtain ⟨w2, hw2, h⟩ := bV_some h
  refine ye_callS (As := [.int w1, .int 8]) (rest := []) 3 (Or.inr rfl) rfl rfl rfl (Nat.le_of_ble_eq_true rfl) ((m_X11_roundUp (d := d + 0) (T := T) N S w1 8 hw2) hp sz hM) ?_
  exact ye_ret rfl rfl (rP h)
def f_X7_quarters (N : Nat) (S : yS) (xl1 : Int32) (xl2 : Int32) : Option Int32 := f_X7_quarters_0 N S xl1 xl2
theorem m_X7_quarters {F : xH} {ev : xEv} {prim : xRel} {d : Nat} {T : yT} {v : Int32} (N : Nat) (S : yS) (xl1 : Int32) (xl2 : Int32) (a0 : Nat) (fa0 : yAt T 2 1 0 a0) (h : f_X7_quarters N S xl1 xl2 = some v) : ykP [0, 1, 2, 3, 4, 5, 6, 7] F ev prim (d + 2) 78 T S [.ref a0, .int xl1, .int xl2] (.int v) :=
  ykP.of (pg_78 ev) mi_78 (Nat.le_of_ble_eq_true rfl) (fun hp sz hM => w_X7_quarters_0 (prim := prim) (d := d) N S xl1 xl2 _ a0 fa0 rfl rfl rfl hM h)

def f_X7_price_92 (N : Nat) (k2 : yS → Int32 → Int32 → Option (Int32 × yS)) (S : yS) (l2 : Int32) (l3 : Int32) (t1 : Int32) (t2 : Int64) : Option (Int32 × yS) := gA 8 t1 fun j1 => sq (yJ S 6 3 (vp_updL (S.2.2 6 3) j1 t2)) fun S1 => k2 S1 l2 (l3 + 1)
set_option maxHeartbeats 4000000 in
set_option maxRecDepth 40000 in
theorem w_X7_price_92 {F : xH} {ev : xEv} {prim : xRel} {d sz : Nat} {T : yT} {v : Int32} {S' : yS} (N : Nat) (k2 : yS → Int32 → Int32 → Option (Int32 × yS)) (u2 : ∀ (S : yS) (l2 : Int32) (l3 : Int32) (hp : xH) (lv : xLv) (a0 : Nat) (a1 : Nat) (fa0 : yAt T 7 6 0 a0) (fa1 : yAt T 10 2 0 a1) (g0 : xG lv 0 = some (.ref a0)) (g1 : xG lv 1 = some (.ref a1)) (g2 : xG lv 2 = some (.int l2)) (g3 : xG lv 3 = some (.int l3)) (hM : cR [0, 1, 2, 3, 4, 5, 6, 7] F ev T S hp) (h : k2 S l2 l3 = some (v, S')), yWE ev.2.1 (xstr ev) (xCalls ev xmi (xprog ev) prim (d + 2)) (pX7_price ev) (2, lv, [], hp, sz, 0) (ypQ [0, 1, 2, 3, 4, 5, 6, 7] F ev T sz (none) S')) (S : yS) (l2 : Int32) (l3 : Int32) (t1 : Int32) (t2 : Int64) (hp : xH) (lv : xLv) (a0 : Nat) (a1 : Nat) (b0 : Nat) (fa0 : yAt T 7 6 0 a0) (fa1 : yAt T 10 2 0 a1) (fb0 : yAt T 7 6 4 b0) (g0 : xG lv 0 = some (.ref a0)) (g1 : xG lv 1 = some (.ref a1)) (g2 : xG lv 2 = some (.int l2)) (g3 : xG lv 3 = some (.int l3)) (hM : cR [0, 1, 2, 3, 4, 5, 6, 7] F ev T S hp) (h : f_X7_price_92 N k2 S l2 l3 t1 t2 = some (v, S')) : yWE ev.2.1 (xstr ev) (xCalls ev xmi (xprog ev) prim (d + 2)) (pX7_price ev) (92, lv, [.long t2, .int t1, .ref b0], hp, sz, 0) (ypQ [0, 1, 2, 3, 4, 5, 6, 7] F ev T sz (none) S') := by
  unfold f_X7_price_92 at h
  obtain ⟨j1, ej1, ij1, h⟩ := gA_some h
  obtain ⟨S1, eS1, h⟩ := sq_some h
  refine yw_last rfl hM fb0 yr_7_3 ij1 ej1 eS1 (fun y1 M1 => ?_)
  refine ye_iinc rfl g3 ?_
  have g0_z1 := xG_o1 (i := 3) (v := .int (l3 + 1)) g0 rfl
  have g1_z1 := xG_o1 (i := 3) (v := .int (l3 + 1)) g1 rfl
  have g2_z1 := xG_o1 (i := 3) (v := .int (l3 + 1)) g2 rfl
  have g3_z1 := xG_same lv 3 (.int (l3 + 1))
  generalize xSt1 lv 3 (.int (l3 + 1)) = lvz1 at g0_z1 g1_z1 g2_z1 g3_z1 ⊢
  refine ye_p rfl rfl ?_
  exact u2 S1 l2 (l3 + 1) y1 lvz1 a0 a1 fa0 fa1 g0_z1 g1_z1 g2_z1 g3_z1 M1 h

def f_X7_price_46 (N : Nat) (k2 : yS → Int32 → Int32 → Option (Int32 × yS)) (S : yS) (l2 : Int32) (l3 : Int32) (l4 : Int32) (t0 : Int32) : Option (Int32 × yS) := bV (f_X7_quarters N S l2 l4) fun w1 => if t0 = 0 then f_X7_price_92 N k2 S l2 l3 l3 1152921504606846976 else gA 8 l3 fun j1 => f_X7_price_92 N k2 S l2 l3 l3 ((w1.toInt64 * 43046721) + (l2.toInt64 * (xPl j1)))
set_option maxHeartbeats 4000000 in
set_option maxRecDepth 40000 in
theorem w_X7_price_46 {F : xH} {ev : xEv} {prim : xRel} {d sz : Nat} {T : yT} {v : Int32} {S' : yS} (N : Nat) (k2 : yS → Int32 → Int32 → Option (Int32 × yS)) (u2 : ∀ (S : yS) (l2 : Int32) (l3 : Int32) (hp : xH) (lv : xLv) (a0 : Nat) (a1 : Nat) (fa0 : yAt T 7 6 0 a0) (fa1 : yAt T 10 2 0 a1) (g0 : xG lv 0 = some (.ref a0)) (g1 : xG lv 1 = some (.ref a1)) (g2 : xG lv 2 = some (.int l2)) (g3 : xG lv 3 = some (.int l3)) (hM : cR [0, 1, 2, 3, 4, 5, 6, 7] F ev T S hp) (h : k2 S l2 l3 = some (v, S')), yWE ev.2.1 (xstr ev) (xCalls ev xmi (xprog ev) prim (d + 2)) (pX7_price ev) (2, lv, [], hp, sz, 0) (ypQ [0, 1, 2, 3, 4, 5, 6, 7] F ev T sz (none) S')) (S : yS) (l2 : Int32) (l3 : Int32) (l4 : Int32) (t0 : Int32) (hp : xH) (lv : xLv) (a0 : Nat) (a1 : Nat) (fa0 : yAt T 7 6 0 a0) (fa1 : yAt T 10 2 0 a1) (g0 : xG lv 0 = some (.ref a0)) (g1 : xG lv 1 = some (.ref a1)) (g2 : xG lv 2 = some (.int l2)) (g3 : xG lv 3 = some (.int l3)) (g4 : xG lv 4 = some (.int l4)) (hM : cR [0, 1, 2, 3, 4, 5, 6, 7] F ev T S hp) (h : f_X7_price_46 N k2 S l2 l3 l4 t0 = some (v, S')) : yWE ev.2.1 (xstr ev) (xCalls ev xmi (xprog ev) prim (d + 2)) (pX7_price ev) (46, lv, [.int t0], hp, sz, 0) (ypQ [0, 1, 2, 3, 4, 5, 6, 7] F ev T sz (none) S') := by
  unfold f_X7_price_46 at h
  refine ye_p rfl rfl ?_
  have g0_z1 := xG_o1 (i := 5) (v := .int t0) g0 rfl
  have g1_z1 := xG_o1 (i := 5) (v := .int t0) g1 rfl
  have g2_z1 := xG_o1 (i := 5) (v := .int t0) g2 rfl
  have g3_z1 := xG_o1 (i := 5) (v := .int t0) g3 rfl
  have g4_z1 := xG_o1 (i := 5) (v := .int t0) g4 rfl
  have g5_z1 := xG_same lv 5 (.int t0)
  generalize xSt1 lv 5 (.int t0) = lvz1 at g0_z1 g1_z1 g2_z1 g3_z1 g4_z1 g5_z1 ⊢
  refine ye_aload rfl g1_z1 ?_
  refine ye_getr rfl (hM.obj fa1 ⟨rfl, rfl⟩) rfl (fun cx1 ecx1 => ?_)
  have fcx1 := hM.root 2 0 (by decide) rfl ecx1
  refine ye_iload rfl g2_z1 ?_
  refine ye_iload rfl g4_z1 ?_
  obtain ⟨w1, hw1, h⟩ := bV_some h
  refine ye_callS (As := [.ref cx1, .int l2, .int l4]) (rest := []) 1 (Or.inl rfl) rfl rfl rfl (Nat.le_of_ble_eq_true rfl) ((m_X7_quarters (d := d + 0) (T := T) N S l2 l4 cx1 fcx1 hw1) hp sz hM) ?_
  refine ye_p rfl rfl ?_
  refine ye_p rfl rfl ?_
  refine ye_p rfl rfl ?_
  refine ye_p rfl rfl ?_
  have g0_z2 := xG_o2 (i := 6) (v := .long (w1.toInt64 * 43046721)) g0_z1 rfl
  have g1_z2 := xG_o2 (i := 6) (v := .long (w1.toInt64 * 43046721)) g1_z1 rfl
  have g2_z2 := xG_o2 (i := 6) (v := .long (w1.toInt64 * 43046721)) g2_z1 rfl
  have g3_z2 := xG_o2 (i := 6) (v := .long (w1.toInt64 * 43046721)) g3_z1 rfl
  have g5_z2 := xG_o2 (i := 6) (v := .long (w1.toInt64 * 43046721)) g5_z1 rfl
  have g6_z2 := xG_same2 lvz1 6 (.long (w1.toInt64 * 43046721))
  generalize xSt2 lvz1 6 (.long (w1.toInt64 * 43046721)) = lvz2 at g0_z2 g1_z2 g2_z2 g3_z2 g5_z2 g6_z2 ⊢
  refine ye_aload rfl g0_z2 ?_
  refine ye_getr rfl (hM.obj fa0 ⟨rfl, rfl⟩) rfl (fun cx2 ecx2 => ?_)
  have fcx2 := yAt.row fa0 ecx2
  refine ye_iload rfl g3_z2 ?_
  refine ye_iload rfl g5_z2 ?_
  refine ye_if_eq rfl (fun h1 => ?_) (fun h1 => ?_)
  · replace h := yiT h1 h
    refine ye_p rfl rfl ?_
    exact w_X7_price_92 (prim := prim) (d := d) N k2 u2 S l2 l3 l3 1152921504606846976 hp lvz2 a0 a1 cx2 fa0 fa1 fcx2 g0_z2 g1_z2 g2_z2 g3_z2 hM h
  · replace h := yiN h1 h
    refine ye_lload rfl g6_z2 ?_
    refine ye_iload rfl g2_z2 ?_
    refine ye_p rfl rfl ?_
    refine ye_p rfl rfl ?_
    refine ye_iload rfl g3_z2 ?_
    obtain ⟨j1, ej1, ij1, h⟩ := gA_some h
    refine ye_laldP rfl ij1 ej1 ?_
    refine ye_p rfl rfl ?_
    refine ye_p rfl rfl ?_
    refine ye_p rfl rfl ?_
    exact w_X7_price_92 (prim := prim) (d := d) N k2 u2 S l2 l3 l3 ((w1.toInt64 * 43046721) + (l2.toInt64 * (xPl j1))) hp lvz2 a0 a1 cx2 fa0 fa1 fcx2 g0_z2 g1_z2 g2_z2 g3_z2 hM h

def f_X7_price_2 : Nat → Nat → yS → Int32 → Int32 → Option (Int32 × yS)
  | 0, _, _, _, _ => none
  | n + 1, N, S, l2, l3 => if (S.1 6 2) ≤ l3 then some (0, S) else gA 8 l3 fun j1 => gR (S.2.1 2 4) 8 (S.2.1 6 0 j1) fun j2 => bV (f_X2_milesBetween N S l2 (S.1 ((128 + j2)) 8)) fun w1 => if 1000000 ≤ w1 then f_X7_price_46 N (fun S l2 l3 => f_X7_price_2 n N S l2 l3) S l2 l3 (S.1 ((128 + j2)) 8) 0 else f_X7_price_46 N (fun S l2 l3 => f_X7_price_2 n N S l2 l3) S l2 l3 (S.1 ((128 + j2)) 8) 1
set_option maxHeartbeats 4000000 in
set_option maxRecDepth 40000 in
theorem w_X7_price_2 {F : xH} {ev : xEv} {prim : xRel} {d sz : Nat} {T : yT} {v : Int32} {S' : yS} (N : Nat) (n : Nat) : ∀ (S : yS) (l2 : Int32) (l3 : Int32) (hp : xH) (lv : xLv) (a0 : Nat) (a1 : Nat) (fa0 : yAt T 7 6 0 a0) (fa1 : yAt T 10 2 0 a1) (g0 : xG lv 0 = some (.ref a0)) (g1 : xG lv 1 = some (.ref a1)) (g2 : xG lv 2 = some (.int l2)) (g3 : xG lv 3 = some (.int l3)) (hM : cR [0, 1, 2, 3, 4, 5, 6, 7] F ev T S hp) (h : f_X7_price_2 n N S l2 l3 = some (v, S')), yWE ev.2.1 (xstr ev) (xCalls ev xmi (xprog ev) prim (d + 2)) (pX7_price ev) (2, lv, [], hp, sz, 0) (ypQ [0, 1, 2, 3, 4, 5, 6, 7] F ev T sz (none) S') := by
  induction n with
  | zero => intro S l2 l3 hp lv a0 a1 fa0 fa1 g0 g1 g2 g3 hM h; exact n_some h
  | succ n ih =>
    intro S l2 l3 hp lv a0 a1 fa0 fa1 g0 g1 g2 g3 hM h
    unfold f_X7_price_2 at h
    refine ye_iload rfl g3 ?_
    refine ye_aload rfl g0 ?_
    refine ye_getf rfl (hM.obj fa0 ⟨rfl, rfl⟩) rfl ?_
    refine ye_icmp_ge rfl (fun h1 => ?_) (fun h1 => ?_)
    · replace h := yiT h1 h
      exact ye_ret rfl rfl (rQV h hM)
    · replace h := yiN h1 h
      refine ye_aload rfl g1 ?_
      refine ye_getr rfl (hM.obj fa1 ⟨rfl, rfl⟩) rfl (fun cx1 ecx1 => ?_)
      have fcx1 := yAt.row fa1 ecx1
      refine ye_aload rfl g0 ?_
      refine ye_getr rfl (hM.obj fa0 ⟨rfl, rfl⟩) rfl (fun cx2 ecx2 => ?_)
      have fcx2 := yAt.row fa0 ecx2
      refine ye_iload rfl g3 ?_
      obtain ⟨j1, ej1, ij1, h⟩ := gA_some h
      refine yj_ald rfl (hM.arr fcx2 yr_7_0) ij1 ej1 ?_
      obtain ⟨j2, ej2, ij2, rj2, h⟩ := gR_some h
      refine ye_aaldR (t := 5) rfl (hM.arr fcx1 yr_10_4) ij2 ej2 rj2 (fun cx3 ecx3 => ?_)
      have fcx3 : yAt T 6 (128 + j2) 0 cx3 := ⟨hM.refd fcx1 yr_10_4 (by decide) rj2, oc_128 (by have := vp_lt ij2; omega), ecx3⟩
      refine ye_getf rfl (hM.obj fcx3 ⟨rfl, rfl⟩) rfl ?_
      refine ye_p rfl rfl ?_
      have g0_z1 := xG_o1 (i := 4) (v := .int (S.1 ((128 + j2)) 8)) g0 rfl
      have g1_z1 := xG_o1 (i := 4) (v := .int (S.1 ((128 + j2)) 8)) g1 rfl
      have g2_z1 := xG_o1 (i := 4) (v := .int (S.1 ((128 + j2)) 8)) g2 rfl
      have g3_z1 := xG_o1 (i := 4) (v := .int (S.1 ((128 + j2)) 8)) g3 rfl
      have g4_z1 := xG_same lv 4 (.int (S.1 ((128 + j2)) 8))
      generalize xSt1 lv 4 (.int (S.1 ((128 + j2)) 8)) = lvz1 at g0_z1 g1_z1 g2_z1 g3_z1 g4_z1 ⊢
      refine ye_aload rfl g1_z1 ?_
      refine ye_getr rfl (hM.obj fa1 ⟨rfl, rfl⟩) rfl (fun cx4 ecx4 => ?_)
      have fcx4 := hM.root 2 0 (by decide) rfl ecx4
      refine ye_iload rfl g2_z1 ?_
      refine ye_iload rfl g4_z1 ?_
      obtain ⟨w1, hw1, h⟩ := bV_some h
      refine ye_callV (As := [.int l2, .int (S.1 ((128 + j2)) 8)]) (rest := []) 0 (Or.inl rfl) rfl rfl rfl (Nat.le_of_ble_eq_true rfl) (hM.obj fcx4 ⟨rfl, rfl⟩) ((m_X2_milesBetween (d := d + 1) (T := T) N S l2 (S.1 ((128 + j2)) 8) cx4 fcx4 hw1) hp sz hM) ?_
      refine ye_p rfl rfl ?_
      refine ye_icmp_ge rfl (fun h2 => ?_) (fun h2 => ?_)
      · replace h := yiT h2 h
        refine ye_p rfl rfl ?_
        exact w_X7_price_46 (prim := prim) (d := d) N (fun S l2 l3 => f_X7_price_2 n N S l2 l3) ih S l2 l3 (S.1 ((128 + j2)) 8) 0 hp lvz1 a0 a1 fa0 fa1 g0_z1 g1_z1 g2_z1 g3_z1 g4_z1 hM h
      · replace h := yiN h2 h
        refine ye_p rfl rfl ?_
        refine ye_p rfl rfl ?_
        exact w_X7_price_46 (prim := prim) (d := d) N (fun S l2 l3 => f_X7_price_2 n N S l2 l3) ih S l2 l3 (S.1 ((128 + j2)) 8) 1 hp lvz1 a0 a1 fa0 fa1 g0_z1 g1_z1 g2_z1 g3_z1 g4_z1 hM h

def f_X7_price_0 (N : Nat) (S : yS) (l2 : Int32) : Option (Int32 × yS) := f_X7_price_2 N N S l2 0
set_option maxHeartbeats 4000000 in
set_option maxRecDepth 40000 in
theorem w_X7_price_0 {F : xH} {ev : xEv} {prim : xRel} {d sz : Nat} {T : yT} {v : Int32} {S' : yS} (N : Nat) (S : yS) (l2 : Int32) (hp : xH) (lv : xLv) (a0 : Nat) (a1 : Nat) (fa0 : yAt T 7 6 0 a0) (fa1 : yAt T 10 2 0 a1) (g0 : xG lv 0 = some (.ref a0)) (g1 : xG lv 1 = some (.ref a1)) (g2 : xG lv 2 = some (.int l2)) (hM : cR [0, 1, 2, 3, 4, 5, 6, 7] F ev T S hp) (h : f_X7_price_0 N S l2 = some (v, S')) : yWE ev.2.1 (xstr ev) (xCalls ev xmi (xprog ev) prim (d + 2)) (pX7_price ev) (0, lv, [], hp, sz, 0) (ypQ [0, 1, 2, 3, 4, 5, 6, 7] F ev T sz (none) S') := by
  unfold f_X7_price_0 at h
  refine ye_p rfl rfl ?_
  refine ye_p rfl rfl ?_
  have g0_z1 := xG_o1 (i := 3) (v := .int 0) g0 rfl
  have g1_z1 := xG_o1 (i := 3) (v := .int 0) g1 rfl
  have g2_z1 := xG_o1 (i := 3) (v := .int 0) g2 rfl
  have g3_z1 := xG_same lv 3 (.int 0)
  generalize xSt1 lv 3 (.int 0) = lvz1 at g0_z1 g1_z1 g2_z1 g3_z1 ⊢
  exact w_X7_price_2 (prim := prim) (d := d) N N S l2 0 hp lvz1 a0 a1 fa0 fa1 g0_z1 g1_z1 g2_z1 g3_z1 hM h
def f_X7_price (N : Nat) (S : yS) (xl2 : Int32) : Option (Int32 × yS) := f_X7_price_0 N S xl2
theorem m_X7_price {F : xH} {ev : xEv} {prim : xRel} {d : Nat} {T : yT} {v : Int32} {S' : yS} (N : Nat) (S : yS) (xl2 : Int32) (a0 : Nat) (a1 : Nat) (fa0 : yAt T 7 6 0 a0) (fa1 : yAt T 10 2 0 a1) (h : f_X7_price N S xl2 = some (v, S')) : ykQ [0, 1, 2, 3, 4, 5, 6, 7] F ev prim (d + 3) 81 T S [.ref a0, .ref a1, .int xl2] (none) S' :=
  ykQ.of (pg_81 ev) mi_81 (Nat.le_of_ble_eq_true rfl) (fun hp sz hM => w_X7_price_0 (prim := prim) (d := d) N S xl2 hp _ a0 a1 fa0 fa1 rfl rfl rfl hM h)

def f_X8r_work_44 (N : Nat) (S : yS) (l2 : Int32) (t1 : Int32) (t2 : Int32) : Option (Int32 × yS) := gA 60 t1 fun j1 => sq (yA S 4 7 (upd (S.2.1 4 7) j1 t2)) fun S1 => some (l2 + 1, S1)
set_option maxHeartbeats 4000000 in
set_option maxRecDepth 40000 in
theorem w_X8r_work_44 {F : xH} {ev : xEv} {prim : xRel} {d sz : Nat} {T : yT} {v : Int32} {S' : yS} (N : Nat) (S : yS) (l2 : Int32) (t1 : Int32) (t2 : Int32) (hp : xH) (lv : xLv) (b0 : Nat) (fb0 : yAt T 14 4 8 b0) (g2 : xG lv 2 = some (.int l2)) (hM : cR [0, 1, 2, 3, 4, 5, 6, 7] F ev T S hp) (h : f_X8r_work_44 N S l2 t1 t2 = some (v, S')) : yWE ev.2.1 (xstr ev) (xCalls ev xmi (xprog ev) prim (d + 1)) (pX8_work ev) (44, lv, [.int t2, .int t1, .ref b0], hp, sz, 0) (ypQ [0, 1, 2, 3, 4, 5, 6, 7] F ev T sz (some (.int v)) S') := by
  unfold f_X8r_work_44 at h
  obtain ⟨j1, ej1, ij1, h⟩ := gA_some h
  obtain ⟨S1, eS1, h⟩ := sq_some h
  refine yw_ast rfl hM fb0 yr_14_7 (by decide) ij1 ej1 eS1 (fun y1 M1 => ?_)
  refine ye_iload rfl g2 ?_
  refine ye_p rfl rfl ?_
  refine ye_p rfl rfl ?_
  exact ye_ret rfl rfl (rQ h M1)

def f_X8r_work_113 (N : Nat) (S : yS) (l2 : Int32) : Option (Int32 × yS) := some (l2, S)
set_option maxHeartbeats 4000000 in
set_option maxRecDepth 40000 in
theorem w_X8r_work_113 {F : xH} {ev : xEv} {prim : xRel} {d sz : Nat} {T : yT} {v : Int32} {S' : yS} (N : Nat) (S : yS) (l2 : Int32) (hp : xH) (lv : xLv) (g2 : xG lv 2 = some (.int l2)) (hM : cR [0, 1, 2, 3, 4, 5, 6, 7] F ev T S hp) (h : f_X8r_work_113 N S l2 = some (v, S')) : yWE ev.2.1 (xstr ev) (xCalls ev xmi (xprog ev) prim (d + 1)) (pX8_work ev) (113, lv, [], hp, sz, 0) (ypQ [0, 1, 2, 3, 4, 5, 6, 7] F ev T sz (some (.int v)) S') := by
  unfold f_X8r_work_113 at h
  refine ye_iload rfl g2 ?_
  exact ye_ret rfl rfl (rQ h hM)

def f_X8r_work_112 (N : Nat) (S : yS) (l2 : Int32) (t1 : Int32) (t2 : Int32) : Option (Int32 × yS) := gA 60 t1 fun j1 => sq (yA S 4 7 (upd (S.2.1 4 7) j1 t2)) fun S1 => f_X8r_work_113 N S1 l2
set_option maxHeartbeats 4000000 in
set_option maxRecDepth 40000 in
theorem w_X8r_work_112 {F : xH} {ev : xEv} {prim : xRel} {d sz : Nat} {T : yT} {v : Int32} {S' : yS} (N : Nat) (S : yS) (l2 : Int32) (t1 : Int32) (t2 : Int32) (hp : xH) (lv : xLv) (b0 : Nat) (fb0 : yAt T 14 4 8 b0) (g2 : xG lv 2 = some (.int l2)) (hM : cR [0, 1, 2, 3, 4, 5, 6, 7] F ev T S hp) (h : f_X8r_work_112 N S l2 t1 t2 = some (v, S')) : yWE ev.2.1 (xstr ev) (xCalls ev xmi (xprog ev) prim (d + 1)) (pX8_work ev) (112, lv, [.int t2, .int t1, .ref b0], hp, sz, 0) (ypQ [0, 1, 2, 3, 4, 5, 6, 7] F ev T sz (some (.int v)) S') := by
  unfold f_X8r_work_112 at h
  obtain ⟨j1, ej1, ij1, h⟩ := gA_some h
  obtain ⟨S1, eS1, h⟩ := sq_some h
  refine yw_ast rfl hM fb0 yr_14_7 (by decide) ij1 ej1 eS1 (fun y1 M1 => ?_)
  exact w_X8r_work_113 (prim := prim) (d := d) N S1 l2 y1 lv g2 M1 h

def f_X8r_work_67 (N : Nat) (S : yS) (l2 : Int32) (l3 : Int32) : Option (Int32 × yS) := if l2 ≤ 0 then f_X8r_work_113 N S l2 else if ¬ l3 = 126 then gA 60 (l2 - 1) fun j1 => if ¬ (S.2.1 4 7 j1) = 0 then f_X8r_work_112 N S l2 (l2 - 1) 0 else f_X8r_work_112 N S l2 (l2 - 1) 1 else gA 60 (l2 - 1) fun j2 => f_X8r_work_112 N S l2 (l2 - 1) (-(S.2.1 4 7 j2))
set_option maxHeartbeats 4000000 in
set_option maxRecDepth 40000 in
theorem w_X8r_work_67 {F : xH} {ev : xEv} {prim : xRel} {d sz : Nat} {T : yT} {v : Int32} {S' : yS} (N : Nat) (S : yS) (l2 : Int32) (l3 : Int32) (hp : xH) (lv : xLv) (a0 : Nat) (fa0 : yAt T 14 4 0 a0) (g0 : xG lv 0 = some (.ref a0)) (g2 : xG lv 2 = some (.int l2)) (g3 : xG lv 3 = some (.int l3)) (hM : cR [0, 1, 2, 3, 4, 5, 6, 7] F ev T S hp) (h : f_X8r_work_67 N S l2 l3 = some (v, S')) : yWE ev.2.1 (xstr ev) (xCalls ev xmi (xprog ev) prim (d + 1)) (pX8_work ev) (67, lv, [], hp, sz, 0) (ypQ [0, 1, 2, 3, 4, 5, 6, 7] F ev T sz (some (.int v)) S') := by
  unfold f_X8r_work_67 at h
  refine ye_iload rfl g2 ?_
  refine ye_if_le rfl (fun h1 => ?_) (fun h1 => ?_)
  · replace h := yiT h1 h
    exact w_X8r_work_113 (prim := prim) (d := d) N S l2 hp lv g2 hM h
  · replace h := yiN h1 h
    refine ye_aload rfl g0 ?_
    refine ye_getr rfl (hM.obj fa0 ⟨rfl, rfl⟩) rfl (fun cx1 ecx1 => ?_)
    have fcx1 := yAt.row fa0 ecx1
    refine ye_iload rfl g2 ?_
    refine ye_p rfl rfl ?_
    refine ye_p rfl rfl ?_
    refine ye_iload rfl g3 ?_
    refine ye_p rfl rfl ?_
    refine ye_icmp_ne rfl (fun h2 => ?_) (fun h2 => ?_)
    · replace h := yiT h2 h
      refine ye_aload rfl g0 ?_
      refine ye_getr rfl (hM.obj fa0 ⟨rfl, rfl⟩) rfl (fun cx2 ecx2 => ?_)
      have fcx2 := yAt.row fa0 ecx2
      refine ye_iload rfl g2 ?_
      refine ye_p rfl rfl ?_
      refine ye_p rfl rfl ?_
      obtain ⟨j1, ej1, ij1, h⟩ := gA_some h
      refine yj_ald rfl (hM.arr fcx2 yr_14_7) ij1 ej1 ?_
      refine ye_if_ne rfl (fun h3 => ?_) (fun h3 => ?_)
      · replace h := yiT h3 h
        refine ye_p rfl rfl ?_
        exact w_X8r_work_112 (prim := prim) (d := d) N S l2 (l2 - 1) 0 hp lv cx1 fcx1 g2 hM h
      · replace h := yiN h3 h
        refine ye_p rfl rfl ?_
        refine ye_p rfl rfl ?_
        exact w_X8r_work_112 (prim := prim) (d := d) N S l2 (l2 - 1) 1 hp lv cx1 fcx1 g2 hM h
    · replace h := yiN h2 h
      refine ye_aload rfl g0 ?_
      refine ye_getr rfl (hM.obj fa0 ⟨rfl, rfl⟩) rfl (fun cx3 ecx3 => ?_)
      have fcx3 := yAt.row fa0 ecx3
      refine ye_iload rfl g2 ?_
      refine ye_p rfl rfl ?_
      refine ye_p rfl rfl ?_
      obtain ⟨j2, ej2, ij2, h⟩ := gA_some h
      refine yj_ald rfl (hM.arr fcx3 yr_14_7) ij2 ej2 ?_
      refine ye_p rfl rfl ?_
      refine ye_p rfl rfl ?_
      exact w_X8r_work_112 (prim := prim) (d := d) N S l2 (l2 - 1) (-(S.2.1 4 7 j2)) hp lv cx1 fcx1 g2 hM h

def f_X8r_work_164 (N : Nat) (S : yS) (l2 : Int32) : Option (Int32 × yS) := some (l2 - 2, S)
set_option maxHeartbeats 4000000 in
set_option maxRecDepth 40000 in
theorem w_X8r_work_164 {F : xH} {ev : xEv} {prim : xRel} {d sz : Nat} {T : yT} {v : Int32} {S' : yS} (N : Nat) (S : yS) (l2 : Int32) (hp : xH) (lv : xLv) (g2 : xG lv 2 = some (.int l2)) (hM : cR [0, 1, 2, 3, 4, 5, 6, 7] F ev T S hp) (h : f_X8r_work_164 N S l2 = some (v, S')) : yWE ev.2.1 (xstr ev) (xCalls ev xmi (xprog ev) prim (d + 1)) (pX8_work ev) (164, lv, [], hp, sz, 0) (ypQ [0, 1, 2, 3, 4, 5, 6, 7] F ev T sz (some (.int v)) S') := by
  unfold f_X8r_work_164 at h
  refine ye_iload rfl g2 ?_
  refine ye_p rfl rfl ?_
  refine ye_p rfl rfl ?_
  exact ye_ret rfl rfl (rQ h hM)

def f_X8r_work_163 (N : Nat) (S : yS) (l2 : Int32) (t1 : Int32) (t2 : Int32) : Option (Int32 × yS) := gA 60 t1 fun j1 => sq (yA S 4 7 (upd (S.2.1 4 7) j1 t2)) fun S1 => f_X8r_work_164 N S1 l2
set_option maxHeartbeats 4000000 in
set_option maxRecDepth 40000 in
theorem w_X8r_work_163 {F : xH} {ev : xEv} {prim : xRel} {d sz : Nat} {T : yT} {v : Int32} {S' : yS} (N : Nat) (S : yS) (l2 : Int32) (t1 : Int32) (t2 : Int32) (hp : xH) (lv : xLv) (b0 : Nat) (fb0 : yAt T 14 4 8 b0) (g2 : xG lv 2 = some (.int l2)) (hM : cR [0, 1, 2, 3, 4, 5, 6, 7] F ev T S hp) (h : f_X8r_work_163 N S l2 t1 t2 = some (v, S')) : yWE ev.2.1 (xstr ev) (xCalls ev xmi (xprog ev) prim (d + 1)) (pX8_work ev) (163, lv, [.int t2, .int t1, .ref b0], hp, sz, 0) (ypQ [0, 1, 2, 3, 4, 5, 6, 7] F ev T sz (some (.int v)) S') := by
  unfold f_X8r_work_163 at h
  obtain ⟨j1, ej1, ij1, h⟩ := gA_some h
  obtain ⟨S1, eS1, h⟩ := sq_some h
  refine yw_ast rfl hM fb0 yr_14_7 (by decide) ij1 ej1 eS1 (fun y1 M1 => ?_)
  exact w_X8r_work_164 (prim := prim) (d := d) N S1 l2 y1 lv g2 M1 h

def f_X8r_work_201 (N : Nat) (S : yS) (l2 : Int32) : Option (Int32 × yS) := some (l2 - 1, S)
set_option maxHeartbeats 4000000 in
set_option maxRecDepth 40000 in
theorem w_X8r_work_201 {F : xH} {ev : xEv} {prim : xRel} {d sz : Nat} {T : yT} {v : Int32} {S' : yS} (N : Nat) (S : yS) (l2 : Int32) (hp : xH) (lv : xLv) (g2 : xG lv 2 = some (.int l2)) (hM : cR [0, 1, 2, 3, 4, 5, 6, 7] F ev T S hp) (h : f_X8r_work_201 N S l2 = some (v, S')) : yWE ev.2.1 (xstr ev) (xCalls ev xmi (xprog ev) prim (d + 1)) (pX8_work ev) (201, lv, [], hp, sz, 0) (ypQ [0, 1, 2, 3, 4, 5, 6, 7] F ev T sz (some (.int v)) S') := by
  unfold f_X8r_work_201 at h
  refine ye_iload rfl g2 ?_
  refine ye_p rfl rfl ?_
  refine ye_p rfl rfl ?_
  exact ye_ret rfl rfl (rQ h hM)

def f_X8r_work_0 (N : Nat) (S : yS) (l1 : Int32) (l2 : Int32) : Option (Int32 × yS) := if 2000 ≤ l1 then if (l1 - 2000) = 33 then f_X8r_work_67 N S l2 (l1 - 2000) else if ¬ (l1 - 2000) = 126 then if ¬ (l1 - 2000) = 63 then if l2 ≤ 1 then f_X8r_work_201 N S l2 else gA 60 (l2 - 2) fun j1 => gA 60 (l2 - 1) fun j2 => bV (f_X8_join N S (l1 - 2000) (S.2.1 4 7 j1) (S.2.1 4 7 j2)) fun w1 => gA 60 (l2 - 2) fun j3 => sq (yA S 4 7 (upd (S.2.1 4 7) j3 w1)) fun S1 => f_X8r_work_201 N S1 l2 else if l2 ≤ 2 then f_X8r_work_164 N S l2 else gA 60 (l2 - 3) fun j4 => if (S.2.1 4 7 j4) = 0 then gA 60 (l2 - 1) fun j5 => f_X8r_work_163 N S l2 (l2 - 3) (S.2.1 4 7 j5) else gA 60 (l2 - 2) fun j6 => f_X8r_work_163 N S l2 (l2 - 3) (S.2.1 4 7 j6) else f_X8r_work_67 N S l2 (l1 - 2000) else if l2 < (Int32.ofNat 60) then if 1000 ≤ l1 then gA 26 (l1 - 1000) fun j7 => f_X8r_work_44 N S l2 l2 (S.2.1 4 2 j7) else f_X8r_work_44 N S l2 l2 l1 else some (l2, S)
set_option maxHeartbeats 4000000 in
set_option maxRecDepth 40000 in
theorem w_X8r_work_0 {F : xH} {ev : xEv} {prim : xRel} {d sz : Nat} {T : yT} {v : Int32} {S' : yS} (N : Nat) (S : yS) (l1 : Int32) (l2 : Int32) (hp : xH) (lv : xLv) (a0 : Nat) (fa0 : yAt T 14 4 0 a0) (g0 : xG lv 0 = some (.ref a0)) (g1 : xG lv 1 = some (.int l1)) (g2 : xG lv 2 = some (.int l2)) (hM : cR [0, 1, 2, 3, 4, 5, 6, 7] F ev T S hp) (h : f_X8r_work_0 N S l1 l2 = some (v, S')) : yWE ev.2.1 (xstr ev) (xCalls ev xmi (xprog ev) prim (d + 1)) (pX8_work ev) (0, lv, [], hp, sz, 0) (ypQ [0, 1, 2, 3, 4, 5, 6, 7] F ev T sz (some (.int v)) S') := by
  unfold f_X8r_work_0 at h
  refine ye_iload rfl g1 ?_
  refine ye_p rfl rfl ?_
  refine ye_icmp_ge rfl (fun h1 => ?_) (fun h1 => ?_)
  · replace h := yiT h1 h
    refine ye_iload rfl g1 ?_
    refine ye_p rfl rfl ?_
    refine ye_p rfl rfl ?_
    refine ye_p rfl rfl ?_
    have g0_z1 := xG_o1 (i := 3) (v := .int (l1 - 2000)) g0 rfl
    have g2_z1 := xG_o1 (i := 3) (v := .int (l1 - 2000)) g2 rfl
    have g3_z1 := xG_same lv 3 (.int (l1 - 2000))
    generalize xSt1 lv 3 (.int (l1 - 2000)) = lvz1 at g0_z1 g2_z1 g3_z1 ⊢
    refine ye_iload rfl g3_z1 ?_
    refine ye_p rfl rfl ?_
    refine ye_icmp_eq rfl (fun h2 => ?_) (fun h2 => ?_)
    · replace h := yiT h2 h
      exact w_X8r_work_67 (prim := prim) (d := d) N S l2 (l1 - 2000) hp lvz1 a0 fa0 g0_z1 g2_z1 g3_z1 hM h
    · replace h := yiN h2 h
      refine ye_iload rfl g3_z1 ?_
      refine ye_p rfl rfl ?_
      refine ye_icmp_ne rfl (fun h3 => ?_) (fun h3 => ?_)
      · replace h := yiT h3 h
        refine ye_iload rfl g3_z1 ?_
        refine ye_p rfl rfl ?_
        refine ye_icmp_ne rfl (fun h4 => ?_) (fun h4 => ?_)
        · replace h := yiT h4 h
          refine ye_iload rfl g2_z1 ?_
          refine ye_p rfl rfl ?_
          refine ye_icmp_le rfl (fun h5 => ?_) (fun h5 => ?_)
          · replace h := yiT h5 h
            exact w_X8r_work_201 (prim := prim) (d := d) N S l2 hp lvz1 g2_z1 hM h
          · replace h := yiN h5 h
            refine ye_aload rfl g0_z1 ?_
            refine ye_getr rfl (hM.obj fa0 ⟨rfl, rfl⟩) rfl (fun cx1 ecx1 => ?_)
            have fcx1 := yAt.row fa0 ecx1
            refine ye_iload rfl g2_z1 ?_
            refine ye_p rfl rfl ?_
            refine ye_p rfl rfl ?_
            refine ye_iload rfl g3_z1 ?_
            refine ye_aload rfl g0_z1 ?_
            refine ye_getr rfl (hM.obj fa0 ⟨rfl, rfl⟩) rfl (fun cx2 ecx2 => ?_)
            have fcx2 := yAt.row fa0 ecx2
            refine ye_iload rfl g2_z1 ?_
            refine ye_p rfl rfl ?_
            refine ye_p rfl rfl ?_
            obtain ⟨j1, ej1, ij1, h⟩ := gA_some h
            refine yj_ald rfl (hM.arr fcx2 yr_14_7) ij1 ej1 ?_
            refine ye_aload rfl g0_z1 ?_
            refine ye_getr rfl (hM.obj fa0 ⟨rfl, rfl⟩) rfl (fun cx3 ecx3 => ?_)
            have fcx3 := yAt.row fa0 ecx3
            refine ye_iload rfl g2_z1 ?_
            refine ye_p rfl rfl ?_
            refine ye_p rfl rfl ?_
            obtain ⟨j2, ej2, ij2, h⟩ := gA_some h
            refine yj_ald rfl (hM.arr fcx3 yr_14_7) ij2 ej2 ?_
            obtain ⟨w1, hw1, h⟩ := bV_some h
            refine ye_callS (As := [.int (l1 - 2000), .int (S.2.1 4 7 j1), .int (S.2.1 4 7 j2)]) (rest := [.int (l2 - 2), .ref cx1]) 1 (Or.inl rfl) rfl rfl rfl (Nat.le_of_ble_eq_true rfl) ((m_X8_join (d := d + 0) (T := T) N S (l1 - 2000) (S.2.1 4 7 j1) (S.2.1 4 7 j2) hw1) hp sz hM) ?_
            obtain ⟨j3, ej3, ij3, h⟩ := gA_some h
            obtain ⟨S1, eS1, h⟩ := sq_some h
            refine yw_ast rfl hM fcx1 yr_14_7 (by decide) ij3 ej3 eS1 (fun y1 M1 => ?_)
            exact w_X8r_work_201 (prim := prim) (d := d) N S1 l2 y1 lvz1 g2_z1 M1 h
        · replace h := yiN h4 h
          refine ye_iload rfl g2_z1 ?_
          refine ye_p rfl rfl ?_
          refine ye_icmp_le rfl (fun h6 => ?_) (fun h6 => ?_)
          · replace h := yiT h6 h
            exact w_X8r_work_164 (prim := prim) (d := d) N S l2 hp lvz1 g2_z1 hM h
          · replace h := yiN h6 h
            refine ye_aload rfl g0_z1 ?_
            refine ye_getr rfl (hM.obj fa0 ⟨rfl, rfl⟩) rfl (fun cx4 ecx4 => ?_)
            have fcx4 := yAt.row fa0 ecx4
            refine ye_iload rfl g2_z1 ?_
            refine ye_p rfl rfl ?_
            refine ye_p rfl rfl ?_
            refine ye_aload rfl g0_z1 ?_
            refine ye_getr rfl (hM.obj fa0 ⟨rfl, rfl⟩) rfl (fun cx5 ecx5 => ?_)
            have fcx5 := yAt.row fa0 ecx5
            refine ye_iload rfl g2_z1 ?_
            refine ye_p rfl rfl ?_
            refine ye_p rfl rfl ?_
            obtain ⟨j4, ej4, ij4, h⟩ := gA_some h
            refine yj_ald rfl (hM.arr fcx5 yr_14_7) ij4 ej4 ?_
            refine ye_if_eq rfl (fun h7 => ?_) (fun h7 => ?_)
            · replace h := yiT h7 h
              refine ye_aload rfl g0_z1 ?_
              refine ye_getr rfl (hM.obj fa0 ⟨rfl, rfl⟩) rfl (fun cx6 ecx6 => ?_)
              have fcx6 := yAt.row fa0 ecx6
              refine ye_iload rfl g2_z1 ?_
              refine ye_p rfl rfl ?_
              refine ye_p rfl rfl ?_
              obtain ⟨j5, ej5, ij5, h⟩ := gA_some h
              refine yj_ald rfl (hM.arr fcx6 yr_14_7) ij5 ej5 ?_
              exact w_X8r_work_163 (prim := prim) (d := d) N S l2 (l2 - 3) (S.2.1 4 7 j5) hp lvz1 cx4 fcx4 g2_z1 hM h
            · replace h := yiN h7 h
              refine ye_aload rfl g0_z1 ?_
              refine ye_getr rfl (hM.obj fa0 ⟨rfl, rfl⟩) rfl (fun cx7 ecx7 => ?_)
              have fcx7 := yAt.row fa0 ecx7
              refine ye_iload rfl g2_z1 ?_
              refine ye_p rfl rfl ?_
              refine ye_p rfl rfl ?_
              obtain ⟨j6, ej6, ij6, h⟩ := gA_some h
              refine yj_ald rfl (hM.arr fcx7 yr_14_7) ij6 ej6 ?_
              refine ye_p rfl rfl ?_
              exact w_X8r_work_163 (prim := prim) (d := d) N S l2 (l2 - 3) (S.2.1 4 7 j6) hp lvz1 cx4 fcx4 g2_z1 hM h
      · replace h := yiN h3 h
        exact w_X8r_work_67 (prim := prim) (d := d) N S l2 (l1 - 2000) hp lvz1 a0 fa0 g0_z1 g2_z1 g3_z1 hM h
  · replace h := yiN h1 h
    refine ye_iload rfl g2 ?_
    refine ye_aload rfl g0 ?_
    refine ye_getr rfl (hM.obj fa0 ⟨rfl, rfl⟩) rfl (fun cx8 ecx8 => ?_)
    have fcx8 := yAt.row fa0 ecx8
    refine ye_alen rfl (hM.arr fcx8 yr_14_7) ?_
    refine ye_icmp_lt rfl (fun h8 => ?_) (fun h8 => ?_)
    · replace h := yiT h8 h
      refine ye_aload rfl g0 ?_
      refine ye_getr rfl (hM.obj fa0 ⟨rfl, rfl⟩) rfl (fun cx9 ecx9 => ?_)
      have fcx9 := yAt.row fa0 ecx9
      refine ye_iload rfl g2 ?_
      refine ye_iload rfl g1 ?_
      refine ye_p rfl rfl ?_
      refine ye_icmp_ge rfl (fun h9 => ?_) (fun h9 => ?_)
      · replace h := yiT h9 h
        refine ye_aload rfl g0 ?_
        refine ye_getr rfl (hM.obj fa0 ⟨rfl, rfl⟩) rfl (fun cx10 ecx10 => ?_)
        have fcx10 := yAt.row fa0 ecx10
        refine ye_iload rfl g1 ?_
        refine ye_p rfl rfl ?_
        refine ye_p rfl rfl ?_
        obtain ⟨j7, ej7, ij7, h⟩ := gA_some h
        refine yj_ald rfl (hM.arr fcx10 yr_14_2) ij7 ej7 ?_
        exact w_X8r_work_44 (prim := prim) (d := d) N S l2 l2 (S.2.1 4 2 j7) hp lv cx9 fcx9 g2 hM h
      · replace h := yiN h9 h
        refine ye_iload rfl g1 ?_
        refine ye_p rfl rfl ?_
        exact w_X8r_work_44 (prim := prim) (d := d) N S l2 l2 l1 hp lv cx9 fcx9 g2 hM h
    · replace h := yiN h8 h
      refine ye_iload rfl g2 ?_
      exact ye_ret rfl rfl (rQ h hM)
def f_X8r_work (N : Nat) (S : yS) (xl1 : Int32) (xl2 : Int32) : Option (Int32 × yS) := f_X8r_work_0 N S xl1 xl2
theorem m_X8r_work {F : xH} {ev : xEv} {prim : xRel} {d : Nat} {T : yT} {v : Int32} {S' : yS} (N : Nat) (S : yS) (xl1 : Int32) (xl2 : Int32) (a0 : Nat) (fa0 : yAt T 14 4 0 a0) (h : f_X8r_work N S xl1 xl2 = some (v, S')) : ykQ [0, 1, 2, 3, 4, 5, 6, 7] F ev prim (d + 2) 90 T S [.ref a0, .int xl1, .int xl2] (some (.int v)) S' :=
  ykQ.of (pg_90 ev) mi_90 (Nat.le_of_ble_eq_true rfl) (fun hp sz hM => w_X8r_work_0 (prim := prim) (d := d) N S xl1 xl2 hp _ a0 fa0 rfl rfl rfl hM h)

def f_X8l_work_44 (N : Nat) (S : yS) (l2 : Int32) (t1 : Int32) (t2 : Int32) : Option (Int32 × yS) := gA 60 t1 fun j1 => sq (yA S 5 7 (upd (S.2.1 5 7) j1 t2)) fun S1 => some (l2 + 1, S1)
set_option maxHeartbeats 4000000 in
set_option maxRecDepth 40000 in
theorem w_X8l_work_44 {F : xH} {ev : xEv} {prim : xRel} {d sz : Nat} {T : yT} {v : Int32} {S' : yS} (N : Nat) (S : yS) (l2 : Int32) (t1 : Int32) (t2 : Int32) (hp : xH) (lv : xLv) (b0 : Nat) (fb0 : yAt T 8 5 8 b0) (g2 : xG lv 2 = some (.int l2)) (hM : cR [0, 1, 2, 3, 4, 5, 6, 7] F ev T S hp) (h : f_X8l_work_44 N S l2 t1 t2 = some (v, S')) : yWE ev.2.1 (xstr ev) (xCalls ev xmi (xprog ev) prim (d + 1)) (pX8_work ev) (44, lv, [.int t2, .int t1, .ref b0], hp, sz, 0) (ypQ [0, 1, 2, 3, 4, 5, 6, 7] F ev T sz (some (.int v)) S') := by
  unfold f_X8l_work_44 at h
  obtain ⟨j1, ej1, ij1, h⟩ := gA_some h
  obtain ⟨S1, eS1, h⟩ := sq_some h
  refine yw_ast rfl hM fb0 yr_8_7 (by decide) ij1 ej1 eS1 (fun y1 M1 => ?_)
  refine ye_iload rfl g2 ?_
  refine ye_p rfl rfl ?_
  refine ye_p rfl rfl ?_
  exact ye_ret rfl rfl (rQ h M1)

def f_X8l_work_113 (N : Nat) (S : yS) (l2 : Int32) : Option (Int32 × yS) := some (l2, S)
set_option maxHeartbeats 4000000 in
set_option maxRecDepth 40000 in
theorem w_X8l_work_113 {F : xH} {ev : xEv} {prim : xRel} {d sz : Nat} {T : yT} {v : Int32} {S' : yS} (N : Nat) (S : yS) (l2 : Int32) (hp : xH) (lv : xLv) (g2 : xG lv 2 = some (.int l2)) (hM : cR [0, 1, 2, 3, 4, 5, 6, 7] F ev T S hp) (h : f_X8l_work_113 N S l2 = some (v, S')) : yWE ev.2.1 (xstr ev) (xCalls ev xmi (xprog ev) prim (d + 1)) (pX8_work ev) (113, lv, [], hp, sz, 0) (ypQ [0, 1, 2, 3, 4, 5, 6, 7] F ev T sz (some (.int v)) S') := by
  unfold f_X8l_work_113 at h
  refine ye_iload rfl g2 ?_
  exact ye_ret rfl rfl (rQ h hM)

def f_X8l_work_112 (N : Nat) (S : yS) (l2 : Int32) (t1 : Int32) (t2 : Int32) : Option (Int32 × yS) := gA 60 t1 fun j1 => sq (yA S 5 7 (upd (S.2.1 5 7) j1 t2)) fun S1 => f_X8l_work_113 N S1 l2
set_option maxHeartbeats 4000000 in
set_option maxRecDepth 40000 in
theorem w_X8l_work_112 {F : xH} {ev : xEv} {prim : xRel} {d sz : Nat} {T : yT} {v : Int32} {S' : yS} (N : Nat) (S : yS) (l2 : Int32) (t1 : Int32) (t2 : Int32) (hp : xH) (lv : xLv) (b0 : Nat) (fb0 : yAt T 8 5 8 b0) (g2 : xG lv 2 = some (.int l2)) (hM : cR [0, 1, 2, 3, 4, 5, 6, 7] F ev T S hp) (h : f_X8l_work_112 N S l2 t1 t2 = some (v, S')) : yWE ev.2.1 (xstr ev) (xCalls ev xmi (xprog ev) prim (d + 1)) (pX8_work ev) (112, lv, [.int t2, .int t1, .ref b0], hp, sz, 0) (ypQ [0, 1, 2, 3, 4, 5, 6, 7] F ev T sz (some (.int v)) S') := by
  unfold f_X8l_work_112 at h
  obtain ⟨j1, ej1, ij1, h⟩ := gA_some h
  obtain ⟨S1, eS1, h⟩ := sq_some h
  refine yw_ast rfl hM fb0 yr_8_7 (by decide) ij1 ej1 eS1 (fun y1 M1 => ?_)
  exact w_X8l_work_113 (prim := prim) (d := d) N S1 l2 y1 lv g2 M1 h

def f_X8l_work_67 (N : Nat) (S : yS) (l2 : Int32) (l3 : Int32) : Option (Int32 × yS) := if l2 ≤ 0 then f_X8l_work_113 N S l2 else if ¬ l3 = 126 then gA 60 (l2 - 1) fun j1 => if ¬ (S.2.1 5 7 j1) = 0 then f_X8l_work_112 N S l2 (l2 - 1) 0 else f_X8l_work_112 N S l2 (l2 - 1) 1 else gA 60 (l2 - 1) fun j2 => f_X8l_work_112 N S l2 (l2 - 1) (-(S.2.1 5 7 j2))
set_option maxHeartbeats 4000000 in
set_option maxRecDepth 40000 in
theorem w_X8l_work_67 {F : xH} {ev : xEv} {prim : xRel} {d sz : Nat} {T : yT} {v : Int32} {S' : yS} (N : Nat) (S : yS) (l2 : Int32) (l3 : Int32) (hp : xH) (lv : xLv) (a0 : Nat) (fa0 : yAt T 8 5 0 a0) (g0 : xG lv 0 = some (.ref a0)) (g2 : xG lv 2 = some (.int l2)) (g3 : xG lv 3 = some (.int l3)) (hM : cR [0, 1, 2, 3, 4, 5, 6, 7] F ev T S hp) (h : f_X8l_work_67 N S l2 l3 = some (v, S')) : yWE ev.2.1 (xstr ev) (xCalls ev xmi (xprog ev) prim (d + 1)) (pX8_work ev) (67, lv, [], hp, sz, 0) (ypQ [0, 1, 2, 3, 4, 5, 6, 7] F ev T sz (some (.int v)) S') := by
  unfold f_X8l_work_67 at h
  refine ye_iload rfl g2 ?_
  refine ye_if_le rfl (fun h1 => ?_) (fun h1 => ?_)
  · replace h := yiT h1 h
    exact w_X8l_work_113 (prim := prim) (d := d) N S l2 hp lv g2 hM h
  · replace h := yiN h1 h
    refine ye_aload rfl g0 ?_
    refine ye_getr rfl (hM.obj fa0 ⟨rfl, rfl⟩) rfl (fun cx1 ecx1 => ?_)
    have fcx1 := yAt.row fa0 ecx1
    refine ye_iload rfl g2 ?_
    refine ye_p rfl rfl ?_
    refine ye_p rfl rfl ?_
    refine ye_iload rfl g3 ?_
    refine ye_p rfl rfl ?_
    refine ye_icmp_ne rfl (fun h2 => ?_) (fun h2 => ?_)
    · replace h := yiT h2 h
      refine ye_aload rfl g0 ?_
      refine ye_getr rfl (hM.obj fa0 ⟨rfl, rfl⟩) rfl (fun cx2 ecx2 => ?_)
      have fcx2 := yAt.row fa0 ecx2
      refine ye_iload rfl g2 ?_
      refine ye_p rfl rfl ?_
      refine ye_p rfl rfl ?_
      obtain ⟨j1, ej1, ij1, h⟩ := gA_some h
      refine yj_ald rfl (hM.arr fcx2 yr_8_7) ij1 ej1 ?_
      refine ye_if_ne rfl (fun h3 => ?_) (fun h3 => ?_)
      · replace h := yiT h3 h
        refine ye_p rfl rfl ?_
        exact w_X8l_work_112 (prim := prim) (d := d) N S l2 (l2 - 1) 0 hp lv cx1 fcx1 g2 hM h
      · replace h := yiN h3 h
        refine ye_p rfl rfl ?_
        refine ye_p rfl rfl ?_
        exact w_X8l_work_112 (prim := prim) (d := d) N S l2 (l2 - 1) 1 hp lv cx1 fcx1 g2 hM h
    · replace h := yiN h2 h
      refine ye_aload rfl g0 ?_
      refine ye_getr rfl (hM.obj fa0 ⟨rfl, rfl⟩) rfl (fun cx3 ecx3 => ?_)
      have fcx3 := yAt.row fa0 ecx3
      refine ye_iload rfl g2 ?_
      refine ye_p rfl rfl ?_
      refine ye_p rfl rfl ?_
      obtain ⟨j2, ej2, ij2, h⟩ := gA_some h
      refine yj_ald rfl (hM.arr fcx3 yr_8_7) ij2 ej2 ?_
      refine ye_p rfl rfl ?_
      refine ye_p rfl rfl ?_
      exact w_X8l_work_112 (prim := prim) (d := d) N S l2 (l2 - 1) (-(S.2.1 5 7 j2)) hp lv cx1 fcx1 g2 hM h

def f_X8l_work_164 (N : Nat) (S : yS) (l2 : Int32) : Option (Int32 × yS) := some (l2 - 2, S)
set_option maxHeartbeats 4000000 in
set_option maxRecDepth 40000 in
theorem w_X8l_work_164 {F : xH} {ev : xEv} {prim : xRel} {d sz : Nat} {T : yT} {v : Int32} {S' : yS} (N : Nat) (S : yS) (l2 : Int32) (hp : xH) (lv : xLv) (g2 : xG lv 2 = some (.int l2)) (hM : cR [0, 1, 2, 3, 4, 5, 6, 7] F ev T S hp) (h : f_X8l_work_164 N S l2 = some (v, S')) : yWE ev.2.1 (xstr ev) (xCalls ev xmi (xprog ev) prim (d + 1)) (pX8_work ev) (164, lv, [], hp, sz, 0) (ypQ [0, 1, 2, 3, 4, 5, 6, 7] F ev T sz (some (.int v)) S') := by
  unfold f_X8l_work_164 at h
  refine ye_iload rfl g2 ?_
  refine ye_p rfl rfl ?_
  refine ye_p rfl rfl ?_
  exact ye_ret rfl rfl (rQ h hM)

def f_X8l_work_163 (N : Nat) (S : yS) (l2 : Int32) (t1 : Int32) (t2 : Int32) : Option (Int32 × yS) := gA 60 t1 fun j1 => sq (yA S 5 7 (upd (S.2.1 5 7) j1 t2)) fun S1 => f_X8l_work_164 N S1 l2
set_option maxHeartbeats 4000000 in
set_option maxRecDepth 40000 in
theorem w_X8l_work_163 {F : xH} {ev : xEv} {prim : xRel} {d sz : Nat} {T : yT} {v : Int32} {S' : yS} (N : Nat) (S : yS) (l2 : Int32) (t1 : Int32) (t2 : Int32) (hp : xH) (lv : xLv) (b0 : Nat) (fb0 : yAt T 8 5 8 b0) (g2 : xG lv 2 = some (.int l2)) (hM : cR [0, 1, 2, 3, 4, 5, 6, 7] F ev T S hp) (h : f_X8l_work_163 N S l2 t1 t2 = some (v, S')) : yWE ev.2.1 (xstr ev) (xCalls ev xmi (xprog ev) prim (d + 1)) (pX8_work ev) (163, lv, [.int t2, .int t1, .ref b0], hp, sz, 0) (ypQ [0, 1, 2, 3, 4, 5, 6, 7] F ev T sz (some (.int v)) S') := by
  unfold f_X8l_work_163 at h
  obtain ⟨j1, ej1, ij1, h⟩ := gA_some h
  obtain ⟨S1, eS1, h⟩ := sq_some h
  refine yw_ast rfl hM fb0 yr_8_7 (by decide) ij1 ej1 eS1 (fun y1 M1 => ?_)
  exact w_X8l_work_164 (prim := prim) (d := d) N S1 l2 y1 lv g2 M1 h

def f_X8l_work_201 (N : Nat) (S : yS) (l2 : Int32) : Option (Int32 × yS) := some (l2 - 1, S)
set_option maxHeartbeats 4000000 in
set_option maxRecDepth 40000 in
theorem w_X8l_work_201 {F : xH} {ev : xEv} {prim : xRel} {d sz : Nat} {T : yT} {v : Int32} {S' : yS} (N : Nat) (S : yS) (l2 : Int32) (hp : xH) (lv : xLv) (g2 : xG lv 2 = some (.int l2)) (hM : cR [0, 1, 2, 3, 4, 5, 6, 7] F ev T S hp) (h : f_X8l_work_201 N S l2 = some (v, S')) : yWE ev.2.1 (xstr ev) (xCalls ev xmi (xprog ev) prim (d + 1)) (pX8_work ev) (201, lv, [], hp, sz, 0) (ypQ [0, 1, 2, 3, 4, 5, 6, 7] F ev T sz (some (.int v)) S') := by
  unfold f_X8l_work_201 at h
  refine ye_iload rfl g2 ?_
  refine ye_p rfl rfl ?_
  refine ye_p rfl rfl ?_
  exact ye_ret rfl rfl (rQ h hM)

def f_X8l_work_0 (N : Nat) (S : yS) (l1 : Int32) (l2 : Int32) : Option (Int32 × yS) := if 2000 ≤ l1 then if (l1 - 2000) = 33 then f_X8l_work_67 N S l2 (l1 - 2000) else if ¬ (l1 - 2000) = 126 then if ¬ (l1 - 2000) = 63 then if l2 ≤ 1 then f_X8l_work_201 N S l2 else gA 60 (l2 - 2) fun j1 => gA 60 (l2 - 1) fun j2 => bV (f_X8_join N S (l1 - 2000) (S.2.1 5 7 j1) (S.2.1 5 7 j2)) fun w1 => gA 60 (l2 - 2) fun j3 => sq (yA S 5 7 (upd (S.2.1 5 7) j3 w1)) fun S1 => f_X8l_work_201 N S1 l2 else if l2 ≤ 2 then f_X8l_work_164 N S l2 else gA 60 (l2 - 3) fun j4 => if (S.2.1 5 7 j4) = 0 then gA 60 (l2 - 1) fun j5 => f_X8l_work_163 N S l2 (l2 - 3) (S.2.1 5 7 j5) else gA 60 (l2 - 2) fun j6 => f_X8l_work_163 N S l2 (l2 - 3) (S.2.1 5 7 j6) else f_X8l_work_67 N S l2 (l1 - 2000) else if l2 < (Int32.ofNat 60) then if 1000 ≤ l1 then gA 26 (l1 - 1000) fun j7 => f_X8l_work_44 N S l2 l2 (S.2.1 5 2 j7) else f_X8l_work_44 N S l2 l2 l1 else some (l2, S)
set_option maxHeartbeats 4000000 in
set_option maxRecDepth 40000 in
theorem w_X8l_work_0 {F : xH} {ev : xEv} {prim : xRel} {d sz : Nat} {T : yT} {v : Int32} {S' : yS} (N : Nat) (S : yS) (l1 : Int32) (l2 : Int32) (hp : xH) (lv : xLv) (a0 : Nat) (fa0 : yAt T 8 5 0 a0) (g0 : xG lv 0 = some (.ref a0)) (g1 : xG lv 1 = some (.int l1)) (g2 : xG lv 2 = some (.int l2)) (hM : cR [0, 1, 2, 3, 4, 5, 6, 7] F ev T S hp) (h : f_X8l_work_0 N S l1 l2 = some (v, S')) : yWE ev.2.1 (xstr ev) (xCalls ev xmi (xprog ev) prim (d + 1)) (pX8_work ev) (0, lv, [], hp, sz, 0) (ypQ [0, 1, 2, 3, 4, 5, 6, 7] F ev T sz (some (.int v)) S') := by
  unfold f_X8l_work_0 at h
  refine ye_iload rfl g1 ?_
  refine ye_p rfl rfl ?_
  refine ye_icmp_ge rfl (fun h1 => ?_) (fun h1 => ?_)
  · replace h := yiT h1 h
    refine ye_iload rfl g1 ?_
    refine ye_p rfl rfl ?_
    refine ye_p rfl rfl ?_
    refine ye_p rfl rfl ?_
    have g0_z1 := xG_o1 (i := 3) (v := .int (l1 - 2000)) g0 rfl
    have g2_z1 := xG_o1 (i := 3) (v := .int (l1 - 2000)) g2 rfl
    have g3_z1 := xG_same lv 3 (.int (l1 - 2000))
    generalize xSt1 lv 3 (.int (l1 - 2000)) = lvz1 at g0_z1 g2_z1 g3_z1 ⊢
    refine ye_iload rfl g3_z1 ?_
    refine ye_p rfl rfl ?_
    refine ye_icmp_eq rfl (fun h2 => ?_) (fun h2 => ?_)
    · replace h := yiT h2 h
      exact w_X8l_work_67 (prim := prim) (d := d) N S l2 (l1 - 2000) hp lvz1 a0 fa0 g0_z1 g2_z1 g3_z1 hM h
    · replace h := yiN h2 h
      refine ye_iload rfl g3_z1 ?_
      refine ye_p rfl rfl ?_
      refine ye_icmp_ne rfl (fun h3 => ?_) (fun h3 => ?_)
      · replace h := yiT h3 h
        refine ye_iload rfl g3_z1 ?_
        refine ye_p rfl rfl ?_
        refine ye_icmp_ne rfl (fun h4 => ?_) (fun h4 => ?_)
        · replace h := yiT h4 h
          refine ye_iload rfl g2_z1 ?_
          refine ye_p rfl rfl ?_
          refine ye_icmp_le rfl (fun h5 => ?_) (fun h5 => ?_)
          · replace h := yiT h5 h
            exact w_X8l_work_201 (prim := prim) (d := d) N S l2 hp lvz1 g2_z1 hM h
          · replace h := yiN h5 h
            refine ye_aload rfl g0_z1 ?_
            refine ye_getr rfl (hM.obj fa0 ⟨rfl, rfl⟩) rfl (fun cx1 ecx1 => ?_)
            have fcx1 := yAt.row fa0 ecx1
            refine ye_iload rfl g2_z1 ?_
            refine ye_p rfl rfl ?_
            refine ye_p rfl rfl ?_
            refine ye_iload rfl g3_z1 ?_
            refine ye_aload rfl g0_z1 ?_
            refine ye_getr rfl (hM.obj fa0 ⟨rfl, rfl⟩) rfl (fun cx2 ecx2 => ?_)
            have fcx2 := yAt.row fa0 ecx2
            refine ye_iload rfl g2_z1 ?_
            refine ye_p rfl rfl ?_
            refine ye_p rfl rfl ?_
            obtain ⟨j1, ej1, ij1, h⟩ := gA_some h
            refine yj_ald rfl (hM.arr fcx2 yr_8_7) ij1 ej1 ?_
            refine ye_aload rfl g0_z1 ?_
            refine ye_getr rfl (hM.obj fa0 ⟨rfl, rfl⟩) rfl (fun cx3 ecx3 => ?_)
            have fcx3 := yAt.row fa0 ecx3
            refine ye_iload rfl g2_z1 ?_
            refine ye_p rfl rfl ?_
            refine ye_p rfl rfl ?_
            obtain ⟨j2, ej2, ij2, h⟩ := gA_some h
            refine yj_ald rfl (hM.arr fcx3 yr_8_7) ij2 ej2 ?_
            obtain ⟨w1, hw1, h⟩ := bV_some h
            refine ye_callS (As := [.int (l1 - 2000), .int (S.2.1 5 7 j1), .int (S.2.1 5 7 j2)]) (rest := [.int (l2 - 2), .ref cx1]) 1 (Or.inl rfl) rfl rfl rfl (Nat.le_of_ble_eq_true rfl) ((m_X8_join (d := d + 0) (T := T) N S (l1 - 2000) (S.2.1 5 7 j1) (S.2.1 5 7 j2) hw1) hp sz hM) ?_
            obtain ⟨j3, ej3, ij3, h⟩ := gA_some h
            obtain ⟨S1, eS1, h⟩ := sq_some h
            refine yw_ast rfl hM fcx1 yr_8_7 (by decide) ij3 ej3 eS1 (fun y1 M1 => ?_)
            exact w_X8l_work_201 (prim := prim) (d := d) N S1 l2 y1 lvz1 g2_z1 M1 h
        · replace h := yiN h4 h
          refine ye_iload rfl g2_z1 ?_
          refine ye_p rfl rfl ?_
          refine ye_icmp_le rfl (fun h6 => ?_) (fun h6 => ?_)
          · replace h := yiT h6 h
            exact w_X8l_work_164 (prim := prim) (d := d) N S l2 hp lvz1 g2_z1 hM h
          · replace h := yiN h6 h
            refine ye_aload rfl g0_z1 ?_
            refine ye_getr rfl (hM.obj fa0 ⟨rfl, rfl⟩) rfl (fun cx4 ecx4 => ?_)
            have fcx4 := yAt.row fa0 ecx4
            refine ye_iload rfl g2_z1 ?_
            refine ye_p rfl rfl ?_
            refine ye_p rfl rfl ?_
            refine ye_aload rfl g0_z1 ?_
            refine ye_getr rfl (hM.obj fa0 ⟨rfl, rfl⟩) rfl (fun cx5 ecx5 => ?_)
            have fcx5 := yAt.row fa0 ecx5
            refine ye_iload rfl g2_z1 ?_
            refine ye_p rfl rfl ?_
            refine ye_p rfl rfl ?_
            obtain ⟨j4, ej4, ij4, h⟩ := gA_some h
            refine yj_ald rfl (hM.arr fcx5 yr_8_7) ij4 ej4 ?_
            refine ye_if_eq rfl (fun h7 => ?_) (fun h7 => ?_)
            · replace h := yiT h7 h
              refine ye_aload rfl g0_z1 ?_
              refine ye_getr rfl (hM.obj fa0 ⟨rfl, rfl⟩) rfl (fun cx6 ecx6 => ?_)
              have fcx6 := yAt.row fa0 ecx6
              refine ye_iload rfl g2_z1 ?_
              refine ye_p rfl rfl ?_
              refine ye_p rfl rfl ?_
              obtain ⟨j5, ej5, ij5, h⟩ := gA_some h
              refine yj_ald rfl (hM.arr fcx6 yr_8_7) ij5 ej5 ?_
              exact w_X8l_work_163 (prim := prim) (d := d) N S l2 (l2 - 3) (S.2.1 5 7 j5) hp lvz1 cx4 fcx4 g2_z1 hM h
            · replace h := yiN h7 h
              refine ye_aload rfl g0_z1 ?_
              refine ye_getr rfl (hM.obj fa0 ⟨rfl, rfl⟩) rfl (fun cx7 ecx7 => ?_)
              have fcx7 := yAt.row fa0 ecx7
              refine ye_iload rfl g2_z1 ?_
              refine ye_p rfl rfl ?_
              refine ye_p rfl rfl ?_
              obtain ⟨j6, ej6, ij6, h⟩ := gA_some h
              refine yj_ald rfl (hM.arr fcx7 yr_8_7) ij6 ej6 ?_
              refine ye_p rfl rfl ?_
              exact w_X8l_work_163 (prim := prim) (d := d) N S l2 (l2 - 3) (S.2.1 5 7 j6) hp lvz1 cx4 fcx4 g2_z1 hM h
      · replace h := yiN h3 h
        exact w_X8l_work_67 (prim := prim) (d := d) N S l2 (l1 - 2000) hp lvz1 a0 fa0 g0_z1 g2_z1 g3_z1 hM h
  · replace h := yiN h1 h
    refine ye_iload rfl g2 ?_
    refine ye_aload rfl g0 ?_
    refine ye_getr rfl (hM.obj fa0 ⟨rfl, rfl⟩) rfl (fun cx8 ecx8 => ?_)
    have fcx8 := yAt.row fa0 ecx8
    refine ye_alen rfl (hM.arr fcx8 yr_8_7) ?_
    refine ye_icmp_lt rfl (fun h8 => ?_) (fun h8 => ?_)
    · replace h := yiT h8 h
      refine ye_aload rfl g0 ?_
      refine ye_getr rfl (hM.obj fa0 ⟨rfl, rfl⟩) rfl (fun cx9 ecx9 => ?_)
      have fcx9 := yAt.row fa0 ecx9
      refine ye_iload rfl g2 ?_
      refine ye_iload rfl g1 ?_
      refine ye_p rfl rfl ?_
      refine ye_icmp_ge rfl (fun h9 => ?_) (fun h9 => ?_)
      · replace h := yiT h9 h
        refine ye_aload rfl g0 ?_
        refine ye_getr rfl (hM.obj fa0 ⟨rfl, rfl⟩) rfl (fun cx10 ecx10 => ?_)
        have fcx10 := yAt.row fa0 ecx10
        refine ye_iload rfl g1 ?_
        refine ye_p rfl rfl ?_
        refine ye_p rfl rfl ?_
        obtain ⟨j7, ej7, ij7, h⟩ := gA_some h
        refine yj_ald rfl (hM.arr fcx10 yr_8_2) ij7 ej7 ?_
        exact w_X8l_work_44 (prim := prim) (d := d) N S l2 l2 (S.2.1 5 2 j7) hp lv cx9 fcx9 g2 hM h
      · replace h := yiN h9 h
        refine ye_iload rfl g1 ?_
        refine ye_p rfl rfl ?_
        exact w_X8l_work_44 (prim := prim) (d := d) N S l2 l2 l1 hp lv cx9 fcx9 g2 hM h
    · replace h := yiN h8 h
      refine ye_iload rfl g2 ?_
      exact ye_ret rfl rfl (rQ h hM)
def f_X8l_work (N : Nat) (S : yS) (xl1 : Int32) (xl2 : Int32) : Option (Int32 × yS) := f_X8l_work_0 N S xl1 xl2
theorem m_X8l_work {F : xH} {ev : xEv} {prim : xRel} {d : Nat} {T : yT} {v : Int32} {S' : yS} (N : Nat) (S : yS) (xl1 : Int32) (xl2 : Int32) (a0 : Nat) (fa0 : yAt T 8 5 0 a0) (h : f_X8l_work N S xl1 xl2 = some (v, S')) : ykQ [0, 1, 2, 3, 4, 5, 6, 7] F ev prim (d + 2) 90 T S [.ref a0, .int xl1, .int xl2] (some (.int v)) S' :=
  ykQ.of (pg_90 ev) mi_90 (Nat.le_of_ble_eq_true rfl) (fun hp sz hM => w_X8l_work_0 (prim := prim) (d := d) N S xl1 xl2 hp _ a0 fa0 rfl rfl rfl hM h)
