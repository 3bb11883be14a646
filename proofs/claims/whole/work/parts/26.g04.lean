
def f_X12_cloud_24 (N : Nat) (S : yS) (t0 : Int32) : Option Int32 := some t0
set_option maxHeartbeats 4000000 in
set_option maxRecDepth 40000 in
theorem w_X12_cloud_24 {F : xH} {ev : xEv} {prim : xRel} {d sz : Nat} {T : yT} {v : Int32} {hp : xH} (N : Nat) (S : yS) (t0 : Int32) (lv : xLv) (hM : cR [8] F ev T S hp) (h : f_X12_cloud_24 N S t0 = some v) : yWE ev.2.1 (xstr ev) (xCalls ev xmi (xprog ev) prim (d + 1)) (pX12_cloud ev) (24, lv, [.int t0], hp, sz, 0) (ypP hp sz (.int v)) := by
  unfold f_X12_cloud_24 at h
  exact ye_ret rfl rfl (rP h)

def f_X12_cloud_0 (N : Nat) (S : yS) (l1 : Int32) (l2 : Int32) : Option Int32 := bV (f_X12_sky N S l1 l2) fun w1 => if ¬ w1 = ((-1)) then gA 60 w1 fun j1 => f_X12_cloud_24 N S (S.2.1 8 13 j1) else f_X12_cloud_24 N S 200
set_option maxHeartbeats 4000000 in
set_option maxRecDepth 40000 in
theorem w_X12_cloud_0 {F : xH} {ev : xEv} {prim : xRel} {d sz : Nat} {T : yT} {v : Int32} {hp : xH} (N : Nat) (S : yS) (l1 : Int32) (l2 : Int32) (lv : xLv) (a0 : Nat) (fa0 : yAt T 12 8 0 a0) (g0 : xG lv 0 = some (.ref a0)) (g1 : xG lv 1 = some (.int l1)) (g2 : xG lv 2 = some (.int l2)) (hM : cR [8] F ev T S hp) (h : f_X12_cloud_0 N S l1 l2 = some v) : yWE ev.2.1 (xstr ev) (xCalls ev xmi (xprog ev) prim (d + 1)) (pX12_cloud ev) (0, lv, [], hp, sz, 0) (ypP hp sz (.int v)) := by
  unfold f_X12_cloud_0 at h
  refine ye_aload rfl g0 ?_
  refine ye_iload rfl g1 ?_
  refine ye_iload rfl g2 ?_
  obtain ⟨w1, hw1, h⟩ := bV_some h
  refine ye_callV (As := [.int l1, .int l2]) (rest := []) 0 (Or.inl rfl) rfl rfl rfl (Nat.le_of_ble_eq_true rfl) (hM.obj fa0 ⟨rfl, rfl⟩) ((m_X12_sky (d := d + 0) (T := T) N S l1 l2 a0 fa0 hw1) hp sz hM) ?_
  refine ye_p rfl rfl ?_
  have g0_z1 := xG_o1 (i := 3) (v := .int w1) g0 rfl
  have g3_z1 := xG_same lv 3 (.int w1)
  generalize xSt1 lv 3 (.int w1) = lvz1 at g0_z1 g3_z1 ⊢
  refine ye_iload rfl g3_z1 ?_
  refine ye_p rfl rfl ?_
  refine ye_icmp_ne rfl (fun h1 => ?_) (fun h1 => ?_)
  · replace h := yiT h1 h
    refine ye_aload rfl g0_z1 ?_
    refine ye_getr rfl (hM.obj fa0 ⟨rfl, rfl⟩) rfl (fun cx1 ecx1 => ?_)
    have fcx1 := yAt.row fa0 ecx1
    refine ye_iload rfl g3_z1 ?_
    obtain ⟨j1, ej1, ij1, h⟩ := gA_some h
    refine yj_ald rfl (hM.arr fcx1 yr_12_13) ij1 ej1 ?_
    exact w_X12_cloud_24 (prim := prim) (d := d) N S (S.2.1 8 13 j1) lvz1 hM h
  · replace h := yiN h1 h
    refine ye_p rfl rfl ?_
    refine ye_p rfl rfl ?_
    exact w_X12_cloud_24 (prim := prim) (d := d) N S 200 lvz1 hM h
def f_X12_cloud (N : Nat) (S : yS) (xl1 : Int32) (xl2 : Int32) : Option Int32 := f_X12_cloud_0 N S xl1 xl2
theorem m_X12_cloud {F : xH} {ev : xEv} {prim : xRel} {d : Nat} {T : yT} {v : Int32} (N : Nat) (S : yS) (xl1 : Int32) (xl2 : Int32) (a0 : Nat) (fa0 : yAt T 12 8 0 a0) (h : f_X12_cloud N S xl1 xl2 = some v) : ykP [8] F ev prim (d + 2) 212 T S [.ref a0, .int xl1, .int xl2] (.int v) :=
  ykP.of (pg_212 ev) mi_212 (Nat.le_of_ble_eq_true rfl) (fun hp sz hM => w_X12_cloud_0 (prim := prim) (d := d) N S xl1 xl2 _ a0 fa0 rfl rfl rfl hM h)

def f_X12_wind_22 (N : Nat) (S : yS) (t0 : Int32) : Option Int32 := some t0
set_option maxHeartbeats 4000000 in
set_option maxRecDepth 40000 in
theorem w_X12_wind_22 {F : xH} {ev : xEv} {prim : xRel} {d sz : Nat} {T : yT} {v : Int32} {hp : xH} (N : Nat) (S : yS) (t0 : Int32) (lv : xLv) (hM : cR [8] F ev T S hp) (h : f_X12_wind_22 N S t0 = some v) : yWE ev.2.1 (xstr ev) (xCalls ev xmi (xprog ev) prim (d + 1)) (pX12_wind ev) (22, lv, [.int t0], hp, sz, 0) (ypP hp sz (.int v)) := by
  unfold f_X12_wind_22 at h
  exact ye_ret rfl rfl (rP h)

def f_X12_wind_0 (N : Nat) (S : yS) (l1 : Int32) (l2 : Int32) : Option Int32 := bV (f_X12_sky N S l1 l2) fun w1 => if ¬ w1 = ((-1)) then gA 60 w1 fun j1 => f_X12_wind_22 N S (S.2.1 8 14 j1) else f_X12_wind_22 N S 0
set_option maxHeartbeats 4000000 in
set_option maxRecDepth 40000 in
theorem w_X12_wind_0 {F : xH} {ev : xEv} {prim : xRel} {d sz : Nat} {T : yT} {v : Int32} {hp : xH} (N : Nat) (S : yS) (l1 : Int32) (l2 : Int32) (lv : xLv) (a0 : Nat) (fa0 : yAt T 12 8 0 a0) (g0 : xG lv 0 = some (.ref a0)) (g1 : xG lv 1 = some (.int l1)) (g2 : xG lv 2 = some (.int l2)) (hM : cR [8] F ev T S hp) (h : f_X12_wind_0 N S l1 l2 = some v) : yWE ev.2.1 (xstr ev) (xCalls ev xmi (xprog ev) prim (d + 1)) (pX12_wind ev) (0, lv, [], hp, sz, 0) (ypP hp sz (.int v)) := by
  unfold f_X12_wind_0 at h
  refine ye_aload rfl g0 ?_
  refine ye_iload rfl g1 ?_
  refine ye_iload rfl g2 ?_
  obtain ⟨w1, hw1, h⟩ := bV_some h
  refine ye_callV (As := [.int l1, .int l2]) (rest := []) 0 (Or.inl rfl) rfl rfl rfl (Nat.le_of_ble_eq_true rfl) (hM.obj fa0 ⟨rfl, rfl⟩) ((m_X12_sky (d := d + 0) (T := T) N S l1 l2 a0 fa0 hw1) hp sz hM) ?_
  refine ye_p rfl rfl ?_
  have g0_z1 := xG_o1 (i := 3) (v := .int w1) g0 rfl
  have g3_z1 := xG_same lv 3 (.int w1)
  generalize xSt1 lv 3 (.int w1) = lvz1 at g0_z1 g3_z1 ⊢
  refine ye_iload rfl g3_z1 ?_
  refine ye_p rfl rfl ?_
  refine ye_icmp_ne rfl (fun h1 => ?_) (fun h1 => ?_)
  · replace h := yiT h1 h
    refine ye_aload rfl g0_z1 ?_
    refine ye_getr rfl (hM.obj fa0 ⟨rfl, rfl⟩) rfl (fun cx1 ecx1 => ?_)
    have fcx1 := yAt.row fa0 ecx1
    refine ye_iload rfl g3_z1 ?_
    obtain ⟨j1, ej1, ij1, h⟩ := gA_some h
    refine yj_ald rfl (hM.arr fcx1 yr_12_14) ij1 ej1 ?_
    exact w_X12_wind_22 (prim := prim) (d := d) N S (S.2.1 8 14 j1) lvz1 hM h
  · replace h := yiN h1 h
    refine ye_p rfl rfl ?_
    refine ye_p rfl rfl ?_
    exact w_X12_wind_22 (prim := prim) (d := d) N S 0 lvz1 hM h
def f_X12_wind (N : Nat) (S : yS) (xl1 : Int32) (xl2 : Int32) : Option Int32 := f_X12_wind_0 N S xl1 xl2
theorem m_X12_wind {F : xH} {ev : xEv} {prim : xRel} {d : Nat} {T : yT} {v : Int32} (N : Nat) (S : yS) (xl1 : Int32) (xl2 : Int32) (a0 : Nat) (fa0 : yAt T 12 8 0 a0) (h : f_X12_wind N S xl1 xl2 = some v) : ykP [8] F ev prim (d + 2) 213 T S [.ref a0, .int xl1, .int xl2] (.int v) :=
  ykP.of (pg_213 ev) mi_213 (Nat.le_of_ble_eq_true rfl) (fun hp sz hM => w_X12_wind_0 (prim := prim) (d := d) N S xl1 xl2 _ a0 fa0 rfl rfl rfl hM h)

def f_X12_sky2_33 (N : Nat) (S : yS) : Option (Int32 × yS) := bS (f_X12_lost N S) fun w1 S1 => some (w1, S1)
set_option maxHeartbeats 4000000 in
set_option maxRecDepth 40000 in
theorem w_X12_sky2_33 {F : xH} {ev : xEv} {prim : xRel} {d sz : Nat} {T : yT} {v : Int32} {S' : yS} (N : Nat) (S : yS) (hp : xH) (lv : xLv) (a0 : Nat) (fa0 : yAt T 12 8 0 a0) (g0 : xG lv 0 = some (.ref a0)) (hM : cR [8] F ev T S hp) (h : f_X12_sky2_33 N S = some (v, S')) : yWE ev.2.1 (xstr ev) (xCalls ev xmi (xprog ev) prim (d + 2)) (pX12_sky_ ev) (33, lv, [], hp, sz, 0) (ypQ [8] F ev T sz (some (.int v)) S') := by
  unfold f_X12_sky2_33 at h
  refine ye_aload rfl g0 ?_
  obtain ⟨w1, S1, hw1, h⟩ := bS_some h
  obtain ⟨y1, cy1, M1⟩ := (m_X12_lost (d := d + 1) (T := T) N S a0 fa0 hw1) hp sz hM
  refine ye_callV (As := []) (rest := []) 0 (Or.inl rfl) rfl rfl rfl (Nat.le_of_ble_eq_true rfl) (hM.obj fa0 ⟨rfl, rfl⟩) cy1 ?_
  exact ye_ret rfl rfl (rQ h M1)

def f_X12_sky2_57 (N : Nat) (S : yS) (t0 : Int32) : Option (Int32 × yS) := some (t0, S)
set_option maxHeartbeats 4000000 in
set_option maxRecDepth 40000 in
theorem w_X12_sky2_57 {F : xH} {ev : xEv} {prim : xRel} {d sz : Nat} {T : yT} {v : Int32} {S' : yS} (N : Nat) (S : yS) (t0 : Int32) (hp : xH) (lv : xLv) (hM : cR [8] F ev T S hp) (h : f_X12_sky2_57 N S t0 = some (v, S')) : yWE ev.2.1 (xstr ev) (xCalls ev xmi (xprog ev) prim (d + 2)) (pX12_sky_ ev) (57, lv, [.int t0], hp, sz, 0) (ypQ [8] F ev T sz (some (.int v)) S') := by
  unfold f_X12_sky2_57 at h
  exact ye_ret rfl rfl (rQ h hM)

def f_X12_sky2_0 (N : Nat) (S : yS) (l1 : Int32) (l2 : Int32) (l3 : Int32) : Option (Int32 × yS) := sq (yI S 8 47 0) fun S1 => bV (f_X12_isLeg N S1 l1) fun w1 => if w1 = 0 then f_X12_sky2_33 N S1 else bV (f_X12_in N S1 l2 0 3000) fun w2 => if w2 = 0 then f_X12_sky2_33 N S1 else bV (f_X12_in N S1 l3 0 1) fun w3 => if ¬ w3 = 0 then if ¬ l3 = 0 then bV (f_X12_wind N S1 l1 l2) fun w4 => f_X12_sky2_57 N S1 w4 else bV (f_X12_cloud N S1 l1 l2) fun w5 => f_X12_sky2_57 N S1 w5 else f_X12_sky2_33 N S1
set_option maxHeartbeats 4000000 in
set_option maxRecDepth 40000 in
theorem w_X12_sky2_0 {F : xH} {ev : xEv} {prim : xRel} {d sz : Nat} {T : yT} {v : Int32} {S' : yS} (N : Nat) (S : yS) (l1 : Int32) (l2 : Int32) (l3 : Int32) (hp : xH) (lv : xLv) (a0 : Nat) (fa0 : yAt T 12 8 0 a0) (g0 : xG lv 0 = some (.ref a0)) (g1 : xG lv 1 = some (.int l1)) (g2 : xG lv 2 = some (.int l2)) (g3 : xG lv 3 = some (.int l3)) (hM : cR [8] F ev T S hp) (h : f_X12_sky2_0 N S l1 l2 l3 = some (v, S')) : yWE ev.2.1 (xstr ev) (xCalls ev xmi (xprog ev) prim (d + 2)) (pX12_sky_ ev) (0, lv, [], hp, sz, 0) (ypQ [8] F ev T sz (some (.int v)) S') := by
  unfold f_X12_sky2_0 at h
  refine ye_aload rfl g0 ?_
  refine ye_p rfl rfl ?_
  obtain ⟨S1, eS1, h⟩ := sq_some h
  refine yw_putI rfl hM fa0 rfl ⟨rfl, rfl⟩ (Nat.le_of_ble_eq_true rfl) rfl rfl (ys_12_47 ev T _ 0) (fun q => absurd q (by decide)) eS1 (fun y1 M1 => ?_)
  refine ye_aload rfl g0 ?_
  refine ye_iload rfl g1 ?_
  obtain ⟨w1, hw1, h⟩ := bV_some h
  refine ye_callV (As := [.int l1]) (rest := []) 0 (Or.inl rfl) rfl rfl rfl (Nat.le_of_ble_eq_true rfl) (M1.obj fa0 ⟨rfl, rfl⟩) ((m_X12_isLeg (d := d + 0) (T := T) N S1 l1 a0 fa0 hw1) y1 sz M1) ?_
  refine ye_if_eq rfl (fun h1 => ?_) (fun h1 => ?_)
  · replace h := yiT h1 h
    exact w_X12_sky2_33 (prim := prim) (d := d) N S1 y1 lv a0 fa0 g0 M1 h
  · replace h := yiN h1 h
    refine ye_iload rfl g2 ?_
    refine ye_p rfl rfl ?_
    refine ye_p rfl rfl ?_
    obtain ⟨w2, hw2, h⟩ := bV_some h
    refine ye_callS (As := [.int l2, .int 0, .int 3000]) (rest := []) 1 (Or.inl rfl) rfl rfl rfl (Nat.le_of_ble_eq_true rfl) ((m_X12_in (d := d + 1) (T := T) N S1 l2 0 3000 hw2) y1 sz M1) ?_
    refine ye_if_eq rfl (fun h2 => ?_) (fun h2 => ?_)
    · replace h := yiT h2 h
      exact w_X12_sky2_33 (prim := prim) (d := d) N S1 y1 lv a0 fa0 g0 M1 h
    · replace h := yiN h2 h
      refine ye_iload rfl g3 ?_
      refine ye_p rfl rfl ?_
      refine ye_p rfl rfl ?_
      obtain ⟨w3, hw3, h⟩ := bV_some h
      refine ye_callS (As := [.int l3, .int 0, .int 1]) (rest := []) 1 (Or.inl rfl) rfl rfl rfl (Nat.le_of_ble_eq_true rfl) ((m_X12_in (d := d + 1) (T := T) N S1 l3 0 1 hw3) y1 sz M1) ?_
      refine ye_if_ne rfl (fun h3 => ?_) (fun h3 => ?_)
      · replace h := yiT h3 h
        refine ye_iload rfl g3 ?_
        refine ye_if_ne rfl (fun h4 => ?_) (fun h4 => ?_)
        · replace h := yiT h4 h
          refine ye_aload rfl g0 ?_
          refine ye_iload rfl g1 ?_
          refine ye_iload rfl g2 ?_
          obtain ⟨w4, hw4, h⟩ := bV_some h
          refine ye_callV (As := [.int l1, .int l2]) (rest := []) 0 (Or.inl rfl) rfl rfl rfl (Nat.le_of_ble_eq_true rfl) (M1.obj fa0 ⟨rfl, rfl⟩) ((m_X12_wind (d := d + 0) (T := T) N S1 l1 l2 a0 fa0 hw4) y1 sz M1) ?_
          exact w_X12_sky2_57 (prim := prim) (d := d) N S1 w4 y1 lv M1 h
        · replace h := yiN h4 h
          refine ye_aload rfl g0 ?_
          refine ye_iload rfl g1 ?_
          refine ye_iload rfl g2 ?_
          obtain ⟨w5, hw5, h⟩ := bV_some h
          refine ye_callV (As := [.int l1, .int l2]) (rest := []) 0 (Or.inl rfl) rfl rfl rfl (Nat.le_of_ble_eq_true rfl) (M1.obj fa0 ⟨rfl, rfl⟩) ((m_X12_cloud (d := d + 0) (T := T) N S1 l1 l2 a0 fa0 hw5) y1 sz M1) ?_
          refine ye_p rfl rfl ?_
          exact w_X12_sky2_57 (prim := prim) (d := d) N S1 w5 y1 lv M1 h
      · replace h := yiN h3 h
        exact w_X12_sky2_33 (prim := prim) (d := d) N S1 y1 lv a0 fa0 g0 M1 h
def f_X12_sky2 (N : Nat) (S : yS) (xl1 : Int32) (xl2 : Int32) (xl3 : Int32) : Option (Int32 × yS) := f_X12_sky2_0 N S xl1 xl2 xl3
theorem m_X12_sky2 {F : xH} {ev : xEv} {prim : xRel} {d : Nat} {T : yT} {v : Int32} {S' : yS} (N : Nat) (S : yS) (xl1 : Int32) (xl2 : Int32) (xl3 : Int32) (a0 : Nat) (fa0 : yAt T 12 8 0 a0) (h : f_X12_sky2 N S xl1 xl2 xl3 = some (v, S')) : ykQ [8] F ev prim (d + 3) 214 T S [.ref a0, .int xl1, .int xl2, .int xl3] (some (.int v)) S' :=
  ykQ.of (pg_214 ev) mi_214 (Nat.le_of_ble_eq_true rfl) (fun hp sz hM => w_X12_sky2_0 (prim := prim) (d := d) N S xl1 xl2 xl3 hp _ a0 fa0 rfl rfl rfl rfl hM h)

def f_X12_say_0 (N : Nat) (S : yS) (l1 : Int32) (l2 : Int32) (l3 : Int32) (l4 : Int32) (l5 : Int32) : Option (Int32 × yS) := gA 2305 2 fun j1 => if ¬ (S.2.1 8 48 j1) = 120 then gA 2305 2 fun j2 => gA 2305 ((1465 + (7 * (S.2.1 8 48 j2))) + 0) fun j3 => sq (yA S 8 48 (upd (S.2.1 8 48) j3 l2)) fun S1 => gA 2305 ((1465 + (7 * (S.2.1 8 48 j2))) + 1) fun j4 => sq (yA S1 8 48 (upd (S1.2.1 8 48) j4 l3)) fun S2 => gA 2305 ((1465 + (7 * (S.2.1 8 48 j2))) + 2) fun j5 => sq (yA S2 8 48 (upd (S2.2.1 8 48) j5 l4)) fun S3 => gA 2305 ((1465 + (7 * (S.2.1 8 48 j2))) + 3) fun j6 => sq (yA S3 8 48 (upd (S3.2.1 8 48) j6 l5)) fun S4 => gA 2305 ((1465 + (7 * (S.2.1 8 48 j2))) + 4) fun j7 => sq (yA S4 8 48 (upd (S4.2.1 8 48) j7 l1)) fun S5 => gA 2305 0 fun j8 => gA 2305 ((1465 + (7 * (S.2.1 8 48 j2))) + 5) fun j9 => sq (yA S5 8 48 (upd (S5.2.1 8 48) j9 (S5.2.1 8 48 j8))) fun S6 => gA 2305 ((1465 + (7 * (S.2.1 8 48 j2))) + 6) fun j10 => sq (yA S6 8 48 (upd (S6.2.1 8 48) j10 (S6.1 8 34))) fun S7 => gA 2305 2 fun j11 => gA 2305 2 fun j12 => sq (yA S7 8 48 (upd (S7.2.1 8 48) j12 ((S7.2.1 8 48 j11) + 1))) fun S8 => some (0, S8) else some (0, S)
set_option maxHeartbeats 4000000 in
set_option maxRecDepth 40000 in
theorem w_X12_say_0 {F : xH} {ev : xEv} {prim : xRel} {d sz : Nat} {T : yT} {v : Int32} {S' : yS} (N : Nat) (S : yS) (l1 : Int32) (l2 : Int32) (l3 : Int32) (l4 : Int32) (l5 : Int32) (hp : xH) (lv : xLv) (a0 : Nat) (fa0 : yAt T 12 8 0 a0) (g0 : xG lv 0 = some (.ref a0)) (g1 : xG lv 1 = some (.int l1)) (g2 : xG lv 2 = some (.int l2)) (g3 : xG lv 3 = some (.int l3)) (g4 : xG lv 4 = some (.int l4)) (g5 : xG lv 5 = some (.int l5)) (hM : cR [8] F ev T S hp) (h : f_X12_say_0 N S l1 l2 l3 l4 l5 = some (v, S')) : yWE ev.2.1 (xstr ev) (xCalls ev xmi (xprog ev) prim (d + 0)) (pX12_say ev) (0, lv, [], hp, sz, 0) (ypQ [8] F ev T sz (none) S') := by
  unfold f_X12_say_0 at h
  refine ye_aload rfl g0 ?_
  refine ye_getr rfl (hM.obj fa0 ⟨rfl, rfl⟩) rfl (fun cx1 ecx1 => ?_)
  have fcx1 := yAt.row fa0 ecx1
  refine ye_p rfl rfl ?_
  obtain ⟨j1, ej1, ij1, h⟩ := gA_some h
  refine yj_ald rfl (hM.arr fcx1 yr_12_48) ij1 ej1 ?_
  refine ye_p rfl rfl ?_
  refine ye_icmp_ne rfl (fun h1 => ?_) (fun h1 => ?_)
  · replace h := yiT h1 h
    refine ye_p rfl rfl ?_
    refine ye_p rfl rfl ?_
    refine ye_aload rfl g0 ?_
    refine ye_getr rfl (hM.obj fa0 ⟨rfl, rfl⟩) rfl (fun cx2 ecx2 => ?_)
    have fcx2 := yAt.row fa0 ecx2
    refine ye_p rfl rfl ?_
    obtain ⟨j2, ej2, ij2, h⟩ := gA_some h
    refine yj_ald rfl (hM.arr fcx2 yr_12_48) ij2 ej2 ?_
    refine ye_p rfl rfl ?_
    refine ye_p rfl rfl ?_
    refine ye_p rfl rfl ?_
    have g0_z1 := xG_o1 (i := 6) (v := .int (1465 + (7 * (S.2.1 8 48 j2)))) g0 rfl
    have g1_z1 := xG_o1 (i := 6) (v := .int (1465 + (7 * (S.2.1 8 48 j2)))) g1 rfl
    have g2_z1 := xG_o1 (i := 6) (v := .int (1465 + (7 * (S.2.1 8 48 j2)))) g2 rfl
    have g3_z1 := xG_o1 (i := 6) (v := .int (1465 + (7 * (S.2.1 8 48 j2)))) g3 rfl
    have g4_z1 := xG_o1 (i := 6) (v := .int (1465 + (7 * (S.2.1 8 48 j2)))) g4 rfl
    have g5_z1 := xG_o1 (i := 6) (v := .int (1465 + (7 * (S.2.1 8 48 j2)))) g5 rfl
    have g6_z1 := xG_same lv 6 (.int (1465 + (7 * (S.2.1 8 48 j2))))
    generalize xSt1 lv 6 (.int (1465 + (7 * (S.2.1 8 48 j2)))) = lvz1 at g0_z1 g1_z1 g2_z1 g3_z1 g4_z1 g5_z1 g6_z1 ⊢
    refine ye_aload rfl g0_z1 ?_
    refine ye_getr rfl (hM.obj fa0 ⟨rfl, rfl⟩) rfl (fun cx3 ecx3 => ?_)
    have fcx3 := yAt.row fa0 ecx3
    refine ye_iload rfl g6_z1 ?_
    refine ye_p rfl rfl ?_
    refine ye_p rfl rfl ?_
    refine ye_iload rfl g2_z1 ?_
    obtain ⟨j3, ej3, ij3, h⟩ := gA_some h
    obtain ⟨S1, eS1, h⟩ := sq_some h
    refine yw_ast rfl hM fcx3 yr_12_48 (by decide) ij3 ej3 eS1 (fun y1 M1 => ?_)
    refine ye_aload rfl g0_z1 ?_
    refine ye_getr rfl (M1.obj fa0 ⟨rfl, rfl⟩) rfl (fun cx4 ecx4 => ?_)
    have fcx4 := yAt.row fa0 ecx4
    refine ye_iload rfl g6_z1 ?_
    refine ye_p rfl rfl ?_
    refine ye_p rfl rfl ?_
    refine ye_iload rfl g3_z1 ?_
    obtain ⟨j4, ej4, ij4, h⟩ := gA_some h
    obtain ⟨S2, eS2, h⟩ := sq_some h
    refine yw_ast rfl M1 fcx4 yr_12_48 (by decide) ij4 ej4 eS2 (fun y2 M2 => ?_)
    refine ye_aload rfl g0_z1 ?_
    refine ye_getr rfl (M2.obj fa0 ⟨rfl, rfl⟩) rfl (fun cx5 ecx5 => ?_)
    have fcx5 := yAt.row fa0 ecx5
    refine ye_iload rfl g6_z1 ?_
    refine ye_p rfl rfl ?_
    refine ye_p rfl rfl ?_
    refine ye_iload rfl g4_z1 ?_
    obtain ⟨j5, ej5, ij5, h⟩ := gA_some h
    obtain ⟨S3, eS3, h⟩ := sq_some h
    refine yw_ast rfl M2 fcx5 yr_12_48 (by decide) ij5 ej5 eS3 (fun y3 M3 => ?_)
    refine ye_aload rfl g0_z1 ?_
    refine ye_getr rfl (M3.obj fa0 ⟨rfl, rfl⟩) rfl (fun cx6 ecx6 => ?_)
    have fcx6 := yAt.row fa0 ecx6
    refine ye_iload rfl g6_z1 ?_
    refine ye_p rfl rfl ?_
    refine ye_p rfl rfl ?_
    refine ye_iload rfl g5_z1 ?_
    obtain ⟨j6, ej6, ij6, h⟩ := gA_some h
    obtain ⟨S4, eS4, h⟩ := sq_some h
    refine yw_ast rfl M3 fcx6 yr_12_48 (by decide) ij6 ej6 eS4 (fun y4 M4 => ?_)
    refine ye_aload rfl g0_z1 ?_
    refine ye_getr rfl (M4.obj fa0 ⟨rfl, rfl⟩) rfl (fun cx7 ecx7 => ?_)
    have fcx7 := yAt.row fa0 ecx7
    refine ye_iload rfl g6_z1 ?_
    refine ye_p rfl rfl ?_
    refine ye_p rfl rfl ?_
    refine ye_iload rfl g1_z1 ?_
    obtain ⟨j7, ej7, ij7, h⟩ := gA_some h
    obtain ⟨S5, eS5, h⟩ := sq_some h
    refine yw_ast rfl M4 fcx7 yr_12_48 (by decide) ij7 ej7 eS5 (fun y5 M5 => ?_)
    refine ye_aload rfl g0_z1 ?_
    refine ye_getr rfl (M5.obj fa0 ⟨rfl, rfl⟩) rfl (fun cx8 ecx8 => ?_)
    have fcx8 := yAt.row fa0 ecx8
    refine ye_iload rfl g6_z1 ?_
    refine ye_p rfl rfl ?_
    refine ye_p rfl rfl ?_
    refine ye_aload rfl g0_z1 ?_
    refine ye_getr rfl (M5.obj fa0 ⟨rfl, rfl⟩) rfl (fun cx9 ecx9 => ?_)
    have fcx9 := yAt.row fa0 ecx9
    refine ye_p rfl rfl ?_
    obtain ⟨j8, ej8, ij8, h⟩ := gA_some h
    refine yj_ald rfl (M5.arr fcx9 yr_12_48) ij8 ej8 ?_
    obtain ⟨j9, ej9, ij9, h⟩ := gA_some h
    obtain ⟨S6, eS6, h⟩ := sq_some h
    refine yw_ast rfl M5 fcx8 yr_12_48 (by decide) ij9 ej9 eS6 (fun y6 M6 => ?_)
    refine ye_aload rfl g0_z1 ?_
    refine ye_getr rfl (M6.obj fa0 ⟨rfl, rfl⟩) rfl (fun cx10 ecx10 => ?_)
    have fcx10 := yAt.row fa0 ecx10
    refine ye_iload rfl g6_z1 ?_
    refine ye_p rfl rfl ?_
    refine ye_p rfl rfl ?_
    refine ye_aload rfl g0_z1 ?_
    refine ye_getf rfl (M6.obj fa0 ⟨rfl, rfl⟩) rfl ?_
    obtain ⟨j10, ej10, ij10, h⟩ := gA_some h
    obtain ⟨S7, eS7, h⟩ := sq_some h
    refine yw_ast rfl M6 fcx10 yr_12_48 (by decide) ij10 ej10 eS7 (fun y7 M7 => ?_)
    refine ye_aload rfl g0_z1 ?_
    refine ye_getr rfl (M7.obj fa0 ⟨rfl, rfl⟩) rfl (fun cx11 ecx11 => ?_)
    have fcx11 := yAt.row fa0 ecx11
    refine ye_p rfl rfl ?_
    refine ye_p rfl rfl ?_
    obtain ⟨j11, ej11, ij11, h⟩ := gA_some h
    refine yj_ald rfl (M7.arr fcx11 yr_12_48) ij11 ej11 ?_
    refine ye_p rfl rfl ?_
    refine ye_p rfl rfl ?_
    obtain ⟨j12, ej12, ij12, h⟩ := gA_some h
    obtain ⟨S8, eS8, h⟩ := sq_some h
    refine yw_ast rfl M7 fcx11 yr_12_48 (by decide) ij12 ej12 eS8 (fun y8 M8 => ?_)
    exact ye_ret rfl rfl (rQV h M8)
  · replace h := yiN h1 h
    exact ye_ret rfl rfl (rQV h hM)
def f_X12_say (N : Nat) (S : yS) (xl1 : Int32) (xl2 : Int32) (xl3 : Int32) (xl4 : Int32) (xl5 : Int32) : Option (Int32 × yS) := f_X12_say_0 N S xl1 xl2 xl3 xl4 xl5
theorem m_X12_say {F : xH} {ev : xEv} {prim : xRel} {d : Nat} {T : yT} {v : Int32} {S' : yS} (N : Nat) (S : yS) (xl1 : Int32) (xl2 : Int32) (xl3 : Int32) (xl4 : Int32) (xl5 : Int32) (a0 : Nat) (fa0 : yAt T 12 8 0 a0) (h : f_X12_say N S xl1 xl2 xl3 xl4 xl5 = some (v, S')) : ykQ [8] F ev prim (d + 1) 215 T S [.ref a0, .int xl1, .int xl2, .int xl3, .int xl4, .int xl5] (none) S' :=
  ykQ.of (pg_215 ev) mi_215 (Nat.le_of_ble_eq_true rfl) (fun hp sz hM => w_X12_say_0 (prim := prim) (d := d) N S xl1 xl2 xl3 xl4 xl5 hp _ a0 fa0 rfl rfl rfl rfl rfl rfl hM h)

def f_X12_word_70 (N : Nat) (S : yS) : Option (Int32 × yS) := some ((-1), S)
set_option maxHeartbeats 4000000 in
set_option maxRecDepth 40000 in
theorem w_X12_word_70 {F : xH} {ev : xEv} {prim : xRel} {d sz : Nat} {T : yT} {v : Int32} {S' : yS} (N : Nat) (S : yS) (hp : xH) (lv : xLv) (hM : cR [8] F ev T S hp) (h : f_X12_word_70 N S = some (v, S')) : yWE ev.2.1 (xstr ev) (xCalls ev xmi (xprog ev) prim (d + 2)) (pX12_word ev) (70, lv, [], hp, sz, 0) (ypQ [8] F ev T sz (some (.int v)) S') := by
  unfold f_X12_word_70 at h
  refine ye_p rfl rfl ?_
  exact ye_ret rfl rfl (rQ h hM)

def f_X12_word_0 (N : Nat) (S : yS) (l1 : Int32) (l2 : Int32) (l3 : Int32) (l4 : Int32) (l5 : Int32) : Option (Int32 × yS) := sq (yI S 8 47 0) fun S1 => bV (f_X12_isField N S1 l1) fun w1 => if w1 = 0 then f_X12_word_70 N S1 else bV (f_X12_isLeg N S1 l2) fun w2 => if w2 = 0 then f_X12_word_70 N S1 else gA 2305 0 fun j1 => bV (f_X12_in N S1 l3 0 (S1.2.1 8 48 j1)) fun w3 => if w3 = 0 then f_X12_word_70 N S1 else bV (f_X12_in N S1 l4 0 200) fun w4 => if w4 = 0 then f_X12_word_70 N S1 else bV (f_X12_in N S1 l5 ((-9)) 9) fun w5 => if w5 = 0 then f_X12_word_70 N S1 else gA 2305 2 fun j2 => if ¬ (S1.2.1 8 48 j2) = 120 then bS (f_X12_say N S1 l1 l2 l3 l4 l5) fun w6 S2 => gA 2305 2 fun j3 => some (S2.2.1 8 48 j3, S2) else f_X12_word_70 N S1
set_option maxHeartbeats 4000000 in
set_option maxRecDepth 40000 in
theorem w_X12_word_0 {F : xH} {ev : xEv} {prim : xRel} {d sz : Nat} {T : yT} {v : Int32} {S' : yS} (N : Nat) (S : yS) (l1 : Int32) (l2 : Int32) (l3 : Int32) (l4 : Int32) (l5 : Int32) (hp : xH) (lv : xLv) (a0 : Nat) (fa0 : yAt T 12 8 0 a0) (g0 : xG lv 0 = some (.ref a0)) (g1 : xG lv 1 = some (.int l1)) (g2 : xG lv 2 = some (.int l2)) (g3 : xG lv 3 = some (.int l3)) (g4 : xG lv 4 = some (.int l4)) (g5 : xG lv 5 = some (.int l5)) (hM : cR [8] F ev T S hp) (h : f_X12_word_0 N S l1 l2 l3 l4 l5 = some (v, S')) : yWE ev.2.1 (xstr ev) (xCalls ev xmi (xprog ev) prim (d + 2)) (pX12_word ev) (0, lv, [], hp, sz, 0) (ypQ [8] F ev T sz (some (.int v)) S') := by
  unfold f_X12_word_0 at h
  refine ye_aload rfl g0 ?_
  refine ye_p rfl rfl ?_
  obtain ⟨S1, eS1, h⟩ := sq_some h
  refine yw_putI rfl hM fa0 rfl ⟨rfl, rfl⟩ (Nat.le_of_ble_eq_true rfl) rfl rfl (ys_12_47 ev T _ 0) (fun q => absurd q (by decide)) eS1 (fun y1 M1 => ?_)
  refine ye_aload rfl g0 ?_
  refine ye_iload rfl g1 ?_
  obtain ⟨w1, hw1, h⟩ := bV_some h
  refine ye_callV (As := [.int l1]) (rest := []) 0 (Or.inl rfl) rfl rfl rfl (Nat.le_of_ble_eq_true rfl) (M1.obj fa0 ⟨rfl, rfl⟩) ((m_X12_isField (d := d + 0) (T := T) N S1 l1 a0 fa0 hw1) y1 sz M1) ?_
  refine ye_if_eq rfl (fun h1 => ?_) (fun h1 => ?_)
  · replace h := yiT h1 h
    exact w_X12_word_70 (prim := prim) (d := d) N S1 y1 lv M1 h
  · replace h := yiN h1 h
    refine ye_aload rfl g0 ?_
    refine ye_iload rfl g2 ?_
    obtain ⟨w2, hw2, h⟩ := bV_some h
    refine ye_callV (As := [.int l2]) (rest := []) 0 (Or.inl rfl) rfl rfl rfl (Nat.le_of_ble_eq_true rfl) (M1.obj fa0 ⟨rfl, rfl⟩) ((m_X12_isLeg (d := d + 0) (T := T) N S1 l2 a0 fa0 hw2) y1 sz M1) ?_
    refine ye_if_eq rfl (fun h2 => ?_) (fun h2 => ?_)
    · replace h := yiT h2 h
      exact w_X12_word_70 (prim := prim) (d := d) N S1 y1 lv M1 h
    · replace h := yiN h2 h
      refine ye_iload rfl g3 ?_
      refine ye_p rfl rfl ?_
      refine ye_aload rfl g0 ?_
      refine ye_getr rfl (M1.obj fa0 ⟨rfl, rfl⟩) rfl (fun cx1 ecx1 => ?_)
      have fcx1 := yAt.row fa0 ecx1
      refine ye_p rfl rfl ?_
      obtain ⟨j1, ej1, ij1, h⟩ := gA_some h
      refine yj_ald rfl (M1.arr fcx1 yr_12_48) ij1 ej1 ?_
      obtain ⟨w3, hw3, h⟩ := bV_some h
      refine ye_callS (As := [.int l3, .int 0, .int (S1.2.1 8 48 j1)]) (rest := []) 1 (Or.inl rfl) rfl rfl rfl (Nat.le_of_ble_eq_true rfl) ((m_X12_in (d := d + 1) (T := T) N S1 l3 0 (S1.2.1 8 48 j1) hw3) y1 sz M1) ?_
      refine ye_if_eq rfl (fun h3 => ?_) (fun h3 => ?_)
      · replace h := yiT h3 h
        exact w_X12_word_70 (prim := prim) (d := d) N S1 y1 lv M1 h
      · replace h := yiN h3 h
        refine ye_iload rfl g4 ?_
        refine ye_p rfl rfl ?_
        refine ye_p rfl rfl ?_
        obtain ⟨w4, hw4, h⟩ := bV_some h
        refine ye_callS (As := [.int l4, .int 0, .int 200]) (rest := []) 1 (Or.inl rfl) rfl rfl rfl (Nat.le_of_ble_eq_true rfl) ((m_X12_in (d := d + 1) (T := T) N S1 l4 0 200 hw4) y1 sz M1) ?_
        refine ye_if_eq rfl (fun h4 => ?_) (fun h4 => ?_)
        · replace h := yiT h4 h
          exact w_X12_word_70 (prim := prim) (d := d) N S1 y1 lv M1 h
        · replace h := yiN h4 h
          refine ye_iload rfl g5 ?_
          refine ye_p rfl rfl ?_
          refine ye_p rfl rfl ?_
          obtain ⟨w5, hw5, h⟩ := bV_some h
          refine ye_callS (As := [.int l5, .int ((-9)), .int 9]) (rest := []) 1 (Or.inl rfl) rfl rfl rfl (Nat.le_of_ble_eq_true rfl) ((m_X12_in (d := d + 1) (T := T) N S1 l5 ((-9)) 9 hw5) y1 sz M1) ?_
          refine ye_if_eq rfl (fun h5 => ?_) (fun h5 => ?_)
          · replace h := yiT h5 h
            exact w_X12_word_70 (prim := prim) (d := d) N S1 y1 lv M1 h
          · replace h := yiN h5 h
            refine ye_aload rfl g0 ?_
            refine ye_getr rfl (M1.obj fa0 ⟨rfl, rfl⟩) rfl (fun cx2 ecx2 => ?_)
            have fcx2 := yAt.row fa0 ecx2
            refine ye_p rfl rfl ?_
            obtain ⟨j2, ej2, ij2, h⟩ := gA_some h
            refine yj_ald rfl (M1.arr fcx2 yr_12_48) ij2 ej2 ?_
            refine ye_p rfl rfl ?_
            refine ye_icmp_ne rfl (fun h6 => ?_) (fun h6 => ?_)
            · replace h := yiT h6 h
              refine ye_aload rfl g0 ?_
              refine ye_iload rfl g1 ?_
              refine ye_iload rfl g2 ?_
              refine ye_iload rfl g3 ?_
              refine ye_iload rfl g4 ?_
              refine ye_iload rfl g5 ?_
              obtain ⟨w6, S2, hw6, h⟩ := bS_some h
              obtain ⟨y2, cy2, M2⟩ := (m_X12_say (d := d + 1) (T := T) N S1 l1 l2 l3 l4 l5 a0 fa0 hw6) y1 sz M1
              refine ye_callV (As := [.int l1, .int l2, .int l3, .int l4, .int l5]) (rest := []) 0 (Or.inl rfl) rfl rfl rfl (Nat.le_of_ble_eq_true rfl) (M1.obj fa0 ⟨rfl, rfl⟩) cy2 ?_
              refine ye_aload rfl g0 ?_
              refine ye_getr rfl (M2.obj fa0 ⟨rfl, rfl⟩) rfl (fun cx3 ecx3 => ?_)
              have fcx3 := yAt.row fa0 ecx3
              refine ye_p rfl rfl ?_
              obtain ⟨j3, ej3, ij3, h⟩ := gA_some h
              refine yj_ald rfl (M2.arr fcx3 yr_12_48) ij3 ej3 ?_
              exact ye_ret rfl rfl (rQ h M2)
            · replace h := yiN h6 h
              exact w_X12_word_70 (prim := prim) (d := d) N S1 y1 lv M1 h
def f_X12_word (N : Nat) (S : yS) (xl1 : Int32) (xl2 : Int32) (xl3 : Int32) (xl4 : Int32) (xl5 : Int32) : Option (Int32 × yS) := f_X12_word_0 N S xl1 xl2 xl3 xl4 xl5
theorem m_X12_word {F : xH} {ev : xEv} {prim : xRel} {d : Nat} {T : yT} {v : Int32} {S' : yS} (N : Nat) (S : yS) (xl1 : Int32) (xl2 : Int32) (xl3 : Int32) (xl4 : Int32) (xl5 : Int32) (a0 : Nat) (fa0 : yAt T 12 8 0 a0) (h : f_X12_word N S xl1 xl2 xl3 xl4 xl5 = some (v, S')) : ykQ [8] F ev prim (d + 3) 216 T S [.ref a0, .int xl1, .int xl2, .int xl3, .int xl4, .int xl5] (some (.int v)) S' :=
  ykQ.of (pg_216 ev) mi_216 (Nat.le_of_ble_eq_true rfl) (fun hp sz hM => w_X12_word_0 (prim := prim) (d := d) N S xl1 xl2 xl3 xl4 xl5 hp _ a0 fa0 rfl rfl rfl rfl rfl rfl hM h)

def f_X12_wordAt_116 (N : Nat) (k6 : yS → Int32 → Int32 → Int32 → Int32 → Int32 → Option Int32) (S : yS) (l1 : Int32) (l2 : Int32) (l3 : Int32) (l4 : Int32) (l5 : Int32) : Option Int32 := k6 S l1 l2 l3 l4 (l5 + 1)
set_option maxHeartbeats 4000000 in
set_option maxRecDepth 40000 in
theorem w_X12_wordAt_116 {F : xH} {ev : xEv} {prim : xRel} {d sz : Nat} {T : yT} {v : Int32} {hp : xH} (N : Nat) (k6 : yS → Int32 → Int32 → Int32 → Int32 → Int32 → Option Int32) (u6 : ∀ (S : yS) (l1 : Int32) (l2 : Int32) (l3 : Int32) (l4 : Int32) (l5 : Int32) (lv : xLv) (a0 : Nat) (fa0 : yAt T 12 8 0 a0) (g0 : xG lv 0 = some (.ref a0)) (g1 : xG lv 1 = some (.int l1)) (g2 : xG lv 2 = some (.int l2)) (g3 : xG lv 3 = some (.int l3)) (g4 : xG lv 4 = some (.int l4)) (g5 : xG lv 5 = some (.int l5)) (hM : cR [8] F ev T S hp) (h : k6 S l1 l2 l3 l4 l5 = some v), yWE ev.2.1 (xstr ev) (xCalls ev xmi (xprog ev) prim (d + 0)) (pX12_wordAt ev) (6, lv, [], hp, sz, 0) (ypP hp sz (.int v))) (S : yS) (l1 : Int32) (l2 : Int32) (l3 : Int32) (l4 : Int32) (l5 : Int32) (lv : xLv) (a0 : Nat) (fa0 : yAt T 12 8 0 a0) (g0 : xG lv 0 = some (.ref a0)) (g1 : xG lv 1 = some (.int l1)) (g2 : xG lv 2 = some (.int l2)) (g3 : xG lv 3 = some (.int l3)) (g4 : xG lv 4 = some (.int l4)) (g5 : xG lv 5 = some (.int l5)) (hM : cR [8] F ev T S hp) (h : f_X12_wordAt_116 N k6 S l1 l2 l3 l4 l5 = some v) : yWE ev.2.1 (xstr ev) (xCalls ev xmi (xprog ev) prim (d + 0)) (pX12_wordAt ev) (116, lv, [], hp, sz, 0) (ypP hp sz (.int v)) := by
  unfold f_X12_wordAt_116 at h
  refine ye_iinc rfl g5 ?_
  have g0_z1 := xG_o1 (i := 5) (v := .int (l5 + 1)) g0 rfl
  have g1_z1 := xG_o1 (i := 5) (v := .int (l5 + 1)) g1 rfl
  have g2_z1 := xG_o1 (i := 5) (v := .int (l5 + 1)) g2 rfl
  have g3_z1 := xG_o1 (i := 5) (v := .int (l5 + 1)) g3 rfl
  have g4_z1 := xG_o1 (i := 5) (v := .int (l5 + 1)) g4 rfl
  have g5_z1 := xG_same lv 5 (.int (l5 + 1))
  generalize xSt1 lv 5 (.int (l5 + 1)) = lvz1 at g0_z1 g1_z1 g2_z1 g3_z1 g4_z1 g5_z1 ⊢
  refine ye_p rfl rfl ?_
  exact u6 S l1 l2 l3 l4 (l5 + 1) lvz1 a0 fa0 g0_z1 g1_z1 g2_z1 g3_z1 g4_z1 g5_z1 hM h

def f_X12_wordAt_112 (N : Nat) (k6 : yS → Int32 → Int32 → Int32 → Int32 → Int32 → Option Int32) (S : yS) (l1 : Int32) (l2 : Int32) (l3 : Int32) (l5 : Int32) (l6 : Int32) : Option Int32 := f_X12_wordAt_116 N k6 S l1 l2 l3 l6 l5
set_option maxHeartbeats 4000000 in
set_option maxRecDepth 40000 in
theorem w_X12_wordAt_112 {F : xH} {ev : xEv} {prim : xRel} {d sz : Nat} {T : yT} {v : Int32} {hp : xH} (N : Nat) (k6 : yS → Int32 → Int32 → Int32 → Int32 → Int32 → Option Int32) (u6 : ∀ (S : yS) (l1 : Int32) (l2 : Int32) (l3 : Int32) (l4 : Int32) (l5 : Int32) (lv : xLv) (a0 : Nat) (fa0 : yAt T 12 8 0 a0) (g0 : xG lv 0 = some (.ref a0)) (g1 : xG lv 1 = some (.int l1)) (g2 : xG lv 2 = some (.int l2)) (g3 : xG lv 3 = some (.int l3)) (g4 : xG lv 4 = some (.int l4)) (g5 : xG lv 5 = some (.int l5)) (hM : cR [8] F ev T S hp) (h : k6 S l1 l2 l3 l4 l5 = some v), yWE ev.2.1 (xstr ev) (xCalls ev xmi (xprog ev) prim (d + 0)) (pX12_wordAt ev) (6, lv, [], hp, sz, 0) (ypP hp sz (.int v))) (S : yS) (l1 : Int32) (l2 : Int32) (l3 : Int32) (l5 : Int32) (l6 : Int32) (lv : xLv) (a0 : Nat) (fa0 : yAt T 12 8 0 a0) (g0 : xG lv 0 = some (.ref a0)) (g1 : xG lv 1 = some (.int l1)) (g2 : xG lv 2 = some (.int l2)) (g3 : xG lv 3 = some (.int l3)) (g5 : xG lv 5 = some (.int l5)) (g6 : xG lv 6 = some (.int l6)) (hM : cR [8] F ev T S hp) (h : f_X12_wordAt_112 N k6 S l1 l2 l3 l5 l6 = some v) : yWE ev.2.1 (xstr ev) (xCalls ev xmi (xprog ev) prim (d + 0)) (pX12_wordAt ev) (112, lv, [], hp, sz, 0) (ypP hp sz (.int v)) := by
  unfold f_X12_wordAt_112 at h
  refine ye_iload rfl g6 ?_
  refine ye_p rfl rfl ?_
  have g0_z1 := xG_o1 (i := 4) (v := .int l6) g0 rfl
  have g1_z1 := xG_o1 (i := 4) (v := .int l6) g1 rfl
  have g2_z1 := xG_o1 (i := 4) (v := .int l6) g2 rfl
  have g3_z1 := xG_o1 (i := 4) (v := .int l6) g3 rfl
  have g5_z1 := xG_o1 (i := 4) (v := .int l6) g5 rfl
  have g4_z1 := xG_same lv 4 (.int l6)
  generalize xSt1 lv 4 (.int l6) = lvz1 at g0_z1 g1_z1 g2_z1 g3_z1 g5_z1 g4_z1 ⊢
  exact w_X12_wordAt_116 (prim := prim) (d := d) N k6 u6 S l1 l2 l3 l6 l5 lvz1 a0 fa0 g0_z1 g1_z1 g2_z1 g3_z1 g4_z1 g5_z1 hM h

def f_X12_wordAt_77 (N : Nat) (k6 : yS → Int32 → Int32 → Int32 → Int32 → Int32 → Option Int32) (S : yS) (l1 : Int32) (l2 : Int32) (l3 : Int32) (l4 : Int32) (l5 : Int32) (l6 : Int32) (t0 : Int32) (t1 : Int32) : Option Int32 := if (t0 + t1) ≤ l3 then if l4 = ((-1)) then f_X12_wordAt_112 N k6 S l1 l2 l3 l5 l6 else gA 2305 (l6 + 1) fun j1 => gA 2305 (l4 + 1) fun j2 => if (S.2.1 8 48 j1) < (S.2.1 8 48 j2) then f_X12_wordAt_116 N k6 S l1 l2 l3 l4 l5 else f_X12_wordAt_112 N k6 S l1 l2 l3 l5 l6 else f_X12_wordAt_116 N k6 S l1 l2 l3 l4 l5
set_option maxHeartbeats 4000000 in
set_option maxRecDepth 40000 in
theorem w_X12_wordAt_77 {F : xH} {ev : xEv} {prim : xRel} {d sz : Nat} {T : yT} {v : Int32} {hp : xH} (N : Nat) (k6 : yS → Int32 → Int32 → Int32 → Int32 → Int32 → Option Int32) (u6 : ∀ (S : yS) (l1 : Int32) (l2 : Int32) (l3 : Int32) (l4 : Int32) (l5 : Int32) (lv : xLv) (a0 : Nat) (fa0 : yAt T 12 8 0 a0) (g0 : xG lv 0 = some (.ref a0)) (g1 : xG lv 1 = some (.int l1)) (g2 : xG lv 2 = some (.int l2)) (g3 : xG lv 3 = some (.int l3)) (g4 : xG lv 4 = some (.int l4)) (g5 : xG lv 5 = some (.int l5)) (hM : cR [8] F ev T S hp) (h : k6 S l1 l2 l3 l4 l5 = some v), yWE ev.2.1 (xstr ev) (xCalls ev xmi (xprog ev) prim (d + 0)) (pX12_wordAt ev) (6, lv, [], hp, sz, 0) (ypP hp sz (.int v))) (S : yS) (l1 : Int32) (l2 : Int32) (l3 : Int32) (l4 : Int32) (l5 : Int32) (l6 : Int32) (t0 : Int32) (t1 : Int32) (lv : xLv) (a0 : Nat) (fa0 : yAt T 12 8 0 a0) (g0 : xG lv 0 = some (.ref a0)) (g1 : xG lv 1 = some (.int l1)) (g2 : xG lv 2 = some (.int l2)) (g3 : xG lv 3 = some (.int l3)) (g4 : xG lv 4 = some (.int l4)) (g5 : xG lv 5 = some (.int l5)) (g6 : xG lv 6 = some (.int l6)) (hM : cR [8] F ev T S hp) (h : f_X12_wordAt_77 N k6 S l1 l2 l3 l4 l5 l6 t0 t1 = some v) : yWE ev.2.1 (xstr ev) (xCalls ev xmi (xprog ev) prim (d + 0)) (pX12_wordAt ev) (77, lv, [.int t1, .int t0], hp, sz, 0) (ypP hp sz (.int v)) := by
  unfold f_X12_wordAt_77 at h
  refine ye_p rfl rfl ?_
  refine ye_iload rfl g3 ?_
  refine ye_icmp_le rfl (fun h1 => ?_) (fun h1 => ?_)
  · replace h := yiT h1 h
    refine ye_iload rfl g4 ?_
    refine ye_p rfl rfl ?_
    refine ye_icmp_eq rfl (fun h2 => ?_) (fun h2 => ?_)
    · replace h := yiT h2 h
      exact w_X12_wordAt_112 (prim := prim) (d := d) N k6 u6 S l1 l2 l3 l5 l6 lv a0 fa0 g0 g1 g2 g3 g5 g6 hM h
    · replace h := yiN h2 h
      refine ye_aload rfl g0 ?_
      refine ye_getr rfl (hM.obj fa0 ⟨rfl, rfl⟩) rfl (fun cx1 ecx1 => ?_)
      have fcx1 := yAt.row fa0 ecx1
      refine ye_iload rfl g6 ?_
      refine ye_p rfl rfl ?_
      refine ye_p rfl rfl ?_
      obtain ⟨j1, ej1, ij1, h⟩ := gA_some h
      refine yj_ald rfl (hM.arr fcx1 yr_12_48) ij1 ej1 ?_
      refine ye_aload rfl g0 ?_
      refine ye_getr rfl (hM.obj fa0 ⟨rfl, rfl⟩) rfl (fun cx2 ecx2 => ?_)
      have fcx2 := yAt.row fa0 ecx2
      refine ye_iload rfl g4 ?_
      refine ye_p rfl rfl ?_
      refine ye_p rfl rfl ?_
      obtain ⟨j2, ej2, ij2, h⟩ := gA_some h
      refine yj_ald rfl (hM.arr fcx2 yr_12_48) ij2 ej2 ?_
      refine ye_icmp_lt rfl (fun h3 => ?_) (fun h3 => ?_)
      · replace h := yiT h3 h
        exact w_X12_wordAt_116 (prim := prim) (d := d) N k6 u6 S l1 l2 l3 l4 l5 lv a0 fa0 g0 g1 g2 g3 g4 g5 hM h
      · replace h := yiN h3 h
        exact w_X12_wordAt_112 (prim := prim) (d := d) N k6 u6 S l1 l2 l3 l5 l6 lv a0 fa0 g0 g1 g2 g3 g5 g6 hM h
  · replace h := yiN h1 h
    refine ye_p rfl rfl ?_
    exact w_X12_wordAt_116 (prim := prim) (d := d) N k6 u6 S l1 l2 l3 l4 l5 lv a0 fa0 g0 g1 g2 g3 g4 g5 hM h

def f_X12_wordAt_6 : Nat → Nat → yS → Int32 → Int32 → Int32 → Int32 → Int32 → Option Int32
  | 0, _, _, _, _, _, _, _ => none
  | n + 1, N, S, l1, l2, l3, l4, l5 => gA 2305 2 fun j1 => if (S.2.1 8 48 j1) ≤ l5 then some l4 else gA 2305 ((1465 + (7 * l5)) + 0) fun j2 => if ¬ (S.2.1 8 48 j2) = l2 then f_X12_wordAt_116 N (fun S l1 l2 l3 l4 l5 => f_X12_wordAt_6 n N S l1 l2 l3 l4 l5) S l1 l2 l3 l4 l5 else gA 2305 ((1465 + (7 * l5)) + 5) fun j3 => gA 2305 ((1465 + (7 * l5)) + 4) fun j4 => if ¬ (S.2.1 8 48 j4) = l1 then gA 2305 ((1465 + (7 * l5)) + 6) fun j5 => f_X12_wordAt_77 N (fun S l1 l2 l3 l4 l5 => f_X12_wordAt_6 n N S l1 l2 l3 l4 l5) S l1 l2 l3 l4 l5 (1465 + (7 * l5)) (S.2.1 8 48 j3) (S.2.1 8 48 j5) else f_X12_wordAt_77 N (fun S l1 l2 l3 l4 l5 => f_X12_wordAt_6 n N S l1 l2 l3 l4 l5) S l1 l2 l3 l4 l5 (1465 + (7 * l5)) (S.2.1 8 48 j3) 0
set_option maxHeartbeats 4000000 in
set_option maxRecDepth 40000 in
theorem w_X12_wordAt_6 {F : xH} {ev : xEv} {prim : xRel} {d sz : Nat} {T : yT} {v : Int32} {hp : xH} (N : Nat) (n : Nat) : ∀ (S : yS) (l1 : Int32) (l2 : Int32) (l3 : Int32) (l4 : Int32) (l5 : Int32) (lv : xLv) (a0 : Nat) (fa0 : yAt T 12 8 0 a0) (g0 : xG lv 0 = some (.ref a0)) (g1 : xG lv 1 = some (.int l1)) (g2 : xG lv 2 = some (.int l2)) (g3 : xG lv 3 = some (.int l3)) (g4 : xG lv 4 = some (.int l4)) (g5 : xG lv 5 = some (.int l5)) (hM : cR [8] F ev T S hp) (h : f_X12_wordAt_6 n N S l1 l2 l3 l4 l5 = some v), yWE ev.2.1 (xstr ev) (xCalls ev xmi (xprog ev) prim (d + 0)) (pX12_wordAt ev) (6, lv, [], hp, sz, 0) (ypP hp sz (.int v)) := by
  induction n with
  | zero => intro S l1 l2 l3 l4 l5 lv a0 fa0 g0 g1 g2 g3 g4 g5 hM h; exact n_some h
  | succ n ih =>
    intro S l1 l2 l3 l4 l5 lv a0 fa0 g0 g1 g2 g3 g4 g5 hM h
    unfold f_X12_wordAt_6 at h
    refine ye_iload rfl g5 ?_
    refine ye_aload rfl g0 ?_
    refine ye_getr rfl (hM.obj fa0 ⟨rfl, rfl⟩) rfl (fun cx1 ecx1 => ?_)
    have fcx1 := yAt.row fa0 ecx1
    refine ye_p rfl rfl ?_
    obtain ⟨j1, ej1, ij1, h⟩ := gA_some h
    refine yj_ald rfl (hM.arr fcx1 yr_12_48) ij1 ej1 ?_
    refine ye_icmp_ge rfl (fun h1 => ?_) (fun h1 => ?_)
    · replace h := yiT h1 h
      refine ye_iload rfl g4 ?_
      exact ye_ret rfl rfl (rP h)
    · replace h := yiN h1 h
      refine ye_p rfl rfl ?_
      refine ye_p rfl rfl ?_
      refine ye_iload rfl g5 ?_
      refine ye_p rfl rfl ?_
      refine ye_p rfl rfl ?_
      refine ye_p rfl rfl ?_
      have g0_z1 := xG_o1 (i := 6) (v := .int (1465 + (7 * l5))) g0 rfl
      have g1_z1 := xG_o1 (i := 6) (v := .int (1465 + (7 * l5))) g1 rfl
      have g2_z1 := xG_o1 (i := 6) (v := .int (1465 + (7 * l5))) g2 rfl
      have g3_z1 := xG_o1 (i := 6) (v := .int (1465 + (7 * l5))) g3 rfl
      have g4_z1 := xG_o1 (i := 6) (v := .int (1465 + (7 * l5))) g4 rfl
      have g5_z1 := xG_o1 (i := 6) (v := .int (1465 + (7 * l5))) g5 rfl
      have g6_z1 := xG_same lv 6 (.int (1465 + (7 * l5)))
      generalize xSt1 lv 6 (.int (1465 + (7 * l5))) = lvz1 at g0_z1 g1_z1 g2_z1 g3_z1 g4_z1 g5_z1 g6_z1 ⊢
      refine ye_aload rfl g0_z1 ?_
      refine ye_getr rfl (hM.obj fa0 ⟨rfl, rfl⟩) rfl (fun cx2 ecx2 => ?_)
      have fcx2 := yAt.row fa0 ecx2
      refine ye_iload rfl g6_z1 ?_
      refine ye_p rfl rfl ?_
      refine ye_p rfl rfl ?_
      obtain ⟨j2, ej2, ij2, h⟩ := gA_some h
      refine yj_ald rfl (hM.arr fcx2 yr_12_48) ij2 ej2 ?_
      refine ye_iload rfl g2_z1 ?_
      refine ye_icmp_ne rfl (fun h2 => ?_) (fun h2 => ?_)
      · replace h := yiT h2 h
        exact w_X12_wordAt_116 (prim := prim) (d := d) N (fun S l1 l2 l3 l4 l5 => f_X12_wordAt_6 n N S l1 l2 l3 l4 l5) ih S l1 l2 l3 l4 l5 lvz1 a0 fa0 g0_z1 g1_z1 g2_z1 g3_z1 g4_z1 g5_z1 hM h
      · replace h := yiN h2 h
        refine ye_aload rfl g0_z1 ?_
        refine ye_getr rfl (hM.obj fa0 ⟨rfl, rfl⟩) rfl (fun cx3 ecx3 => ?_)
        have fcx3 := yAt.row fa0 ecx3
        refine ye_iload rfl g6_z1 ?_
        refine ye_p rfl rfl ?_
        refine ye_p rfl rfl ?_
        obtain ⟨j3, ej3, ij3, h⟩ := gA_some h
        refine yj_ald rfl (hM.arr fcx3 yr_12_48) ij3 ej3 ?_
        refine ye_aload rfl g0_z1 ?_
        refine ye_getr rfl (hM.obj fa0 ⟨rfl, rfl⟩) rfl (fun cx4 ecx4 => ?_)
        have fcx4 := yAt.row fa0 ecx4
        refine ye_iload rfl g6_z1 ?_
        refine ye_p rfl rfl ?_
        refine ye_p rfl rfl ?_
        obtain ⟨j4, ej4, ij4, h⟩ := gA_some h
        refine yj_ald rfl (hM.arr fcx4 yr_12_48) ij4 ej4 ?_
        refine ye_iload rfl g1_z1 ?_
        refine ye_icmp_ne rfl (fun h3 => ?_) (fun h3 => ?_)
        · replace h := yiT h3 h
          refine ye_aload rfl g0_z1 ?_
          refine ye_getr rfl (hM.obj fa0 ⟨rfl, rfl⟩) rfl (fun cx5 ecx5 => ?_)
          have fcx5 := yAt.row fa0 ecx5
          refine ye_iload rfl g6_z1 ?_
          refine ye_p rfl rfl ?_
          refine ye_p rfl rfl ?_
          obtain ⟨j5, ej5, ij5, h⟩ := gA_some h
          refine yj_ald rfl (hM.arr fcx5 yr_12_48) ij5 ej5 ?_
          exact w_X12_wordAt_77 (prim := prim) (d := d) N (fun S l1 l2 l3 l4 l5 => f_X12_wordAt_6 n N S l1 l2 l3 l4 l5) ih S l1 l2 l3 l4 l5 (1465 + (7 * l5)) (S.2.1 8 48 j3) (S.2.1 8 48 j5) lvz1 a0 fa0 g0_z1 g1_z1 g2_z1 g3_z1 g4_z1 g5_z1 g6_z1 hM h
        · replace h := yiN h3 h
          refine ye_p rfl rfl ?_
          refine ye_p rfl rfl ?_
          exact w_X12_wordAt_77 (prim := prim) (d := d) N (fun S l1 l2 l3 l4 l5 => f_X12_wordAt_6 n N S l1 l2 l3 l4 l5) ih S l1 l2 l3 l4 l5 (1465 + (7 * l5)) (S.2.1 8 48 j3) 0 lvz1 a0 fa0 g0_z1 g1_z1 g2_z1 g3_z1 g4_z1 g5_z1 g6_z1 hM h

def f_X12_wordAt_0 (N : Nat) (S : yS) (l1 : Int32) (l2 : Int32) (l3 : Int32) : Option Int32 := f_X12_wordAt_6 N N S l1 l2 l3 ((-1)) 0
set_option maxHeartbeats 4000000 in
set_option maxRecDepth 40000 in
theorem w_X12_wordAt_0 {F : xH} {ev : xEv} {prim : xRel} {d sz : Nat} {T : yT} {v : Int32} {hp : xH} (N : Nat) (S : yS) (l1 : Int32) (l2 : Int32) (l3 : Int32) (lv : xLv) (a0 : Nat) (fa0 : yAt T 12 8 0 a0) (g0 : xG lv 0 = some (.ref a0)) (g1 : xG lv 1 = some (.int l1)) (g2 : xG lv 2 = some (.int l2)) (g3 : xG lv 3 = some (.int l3)) (hM : cR [8] F ev T S hp) (h : f_X12_wordAt_0 N S l1 l2 l3 = some v) : yWE ev.2.1 (xstr ev) (xCalls ev xmi (xprog ev) prim (d + 0)) (pX12_wordAt ev) (0, lv, [], hp, sz, 0) (ypP hp sz (.int v)) := by
  unfold f_X12_wordAt_0 at h
  refine ye_p rfl rfl ?_
  refine ye_p rfl rfl ?_
  have g0_z1 := xG_o1 (i := 4) (v := .int ((-1))) g0 rfl
  have g1_z1 := xG_o1 (i := 4) (v := .int ((-1))) g1 rfl
  have g2_z1 := xG_o1 (i := 4) (v := .int ((-1))) g2 rfl
  have g3_z1 := xG_o1 (i := 4) (v := .int ((-1))) g3 rfl
  have g4_z1 := xG_same lv 4 (.int ((-1)))
  generalize xSt1 lv 4 (.int ((-1))) = lvz1 at g0_z1 g1_z1 g2_z1 g3_z1 g4_z1 ⊢
  refine ye_p rfl rfl ?_
  refine ye_p rfl rfl ?_
  have g0_z2 := xG_o1 (i := 5) (v := .int 0) g0_z1 rfl
  have g1_z2 := xG_o1 (i := 5) (v := .int 0) g1_z1 rfl
  have g2_z2 := xG_o1 (i := 5) (v := .int 0) g2_z1 rfl
  have g3_z2 := xG_o1 (i := 5) (v := .int 0) g3_z1 rfl
  have g4_z2 := xG_o1 (i := 5) (v := .int 0) g4_z1 rfl
  have g5_z2 := xG_same lvz1 5 (.int 0)
  generalize xSt1 lvz1 5 (.int 0) = lvz2 at g0_z2 g1_z2 g2_z2 g3_z2 g4_z2 g5_z2 ⊢
  exact w_X12_wordAt_6 (prim := prim) (d := d) N N S l1 l2 l3 ((-1)) 0 lvz2 a0 fa0 g0_z2 g1_z2 g2_z2 g3_z2 g4_z2 g5_z2 hM h
def f_X12_wordAt (N : Nat) (S : yS) (xl1 : Int32) (xl2 : Int32) (xl3 : Int32) : Option Int32 := f_X12_wordAt_0 N S xl1 xl2 xl3
theorem m_X12_wordAt {F : xH} {ev : xEv} {prim : xRel} {d : Nat} {T : yT} {v : Int32} (N : Nat) (S : yS) (xl1 : Int32) (xl2 : Int32) (xl3 : Int32) (a0 : Nat) (fa0 : yAt T 12 8 0 a0) (h : f_X12_wordAt N S xl1 xl2 xl3 = some v) : ykP [8] F ev prim (d + 1) 217 T S [.ref a0, .int xl1, .int xl2, .int xl3] (.int v) :=
  ykP.of (pg_217 ev) mi_217 (Nat.le_of_ble_eq_true rfl) (fun hp sz hM => w_X12_wordAt_0 (prim := prim) (d := d) N S xl1 xl2 xl3 _ a0 fa0 rfl rfl rfl rfl hM h)

def f_X12_heard_42 (N : Nat) (S : yS) : Option (Int32 × yS) := bS (f_X12_lost N S) fun w1 S1 => some (w1, S1)
set_option maxHeartbeats 4000000 in
set_option maxRecDepth 40000 in
theorem w_X12_heard_42 {F : xH} {ev : xEv} {prim : xRel} {d sz : Nat} {T : yT} {v : Int32} {S' : yS} (N : Nat) (S : yS) (hp : xH) (lv : xLv) (a0 : Nat) (fa0 : yAt T 12 8 0 a0) (g0 : xG lv 0 = some (.ref a0)) (hM : cR [8] F ev T S hp) (h : f_X12_heard_42 N S = some (v, S')) : yWE ev.2.1 (xstr ev) (xCalls ev xmi (xprog ev) prim (d + 2)) (pX12_heard ev) (42, lv, [], hp, sz, 0) (ypQ [8] F ev T sz (some (.int v)) S') := by
  unfold f_X12_heard_42 at h
  refine ye_aload rfl g0 ?_
  obtain ⟨w1, S1, hw1, h⟩ := bS_some h
  obtain ⟨y1, cy1, M1⟩ := (m_X12_lost (d := d + 1) (T := T) N S a0 fa0 hw1) hp sz hM
  refine ye_callV (As := []) (rest := []) 0 (Or.inl rfl) rfl rfl rfl (Nat.le_of_ble_eq_true rfl) (hM.obj fa0 ⟨rfl, rfl⟩) cy1 ?_
  exact ye_ret rfl rfl (rQ h M1)

def f_X12_heard_93 (N : Nat) (S : yS) (t1 : Int32) (t2 : Int32) : Option (Int32 × yS) := gA 2305 (t1 + t2) fun j1 => some (S.2.1 8 48 j1, S)
set_option maxHeartbeats 4000000 in
set_option maxRecDepth 40000 in
theorem w_X12_heard_93 {F : xH} {ev : xEv} {prim : xRel} {d sz : Nat} {T : yT} {v : Int32} {S' : yS} (N : Nat) (S : yS) (t1 : Int32) (t2 : Int32) (hp : xH) (lv : xLv) (b0 : Nat) (fb0 : yAt T 12 8 49 b0) (hM : cR [8] F ev T S hp) (h : f_X12_heard_93 N S t1 t2 = some (v, S')) : yWE ev.2.1 (xstr ev) (xCalls ev xmi (xprog ev) prim (d + 2)) (pX12_heard ev) (93, lv, [.int t2, .int t1, .ref b0], hp, sz, 0) (ypQ [8] F ev T sz (some (.int v)) S') := by
  unfold f_X12_heard_93 at h
  refine ye_p rfl rfl ?_
  obtain ⟨j1, ej1, ij1, h⟩ := gA_some h
  refine yj_ald rfl (hM.arr fb0 yr_12_48) ij1 ej1 ?_
  exact ye_ret rfl rfl (rQ h hM)

def f_X12_heard_0 (N : Nat) (S : yS) (l1 : Int32) (l2 : Int32) (l3 : Int32) (l4 : Int32) : Option (Int32 × yS) := sq (yI S 8 47 0) fun S1 => bV (f_X12_isField N S1 l1) fun w1 => if w1 = 0 then f_X12_heard_42 N S1 else bV (f_X12_isLeg N S1 l2) fun w2 => if w2 = 0 then f_X12_heard_42 N S1 else bV (f_X12_in N S1 l3 0 3000) fun w3 => if w3 = 0 then f_X12_heard_42 N S1 else bV (f_X12_in N S1 l4 0 2) fun w4 => if ¬ w4 = 0 then bV (f_X12_wordAt N S1 l1 l2 l3) fun w5 => if ¬ w5 = ((-1)) then if ¬ l4 = 0 then if ¬ l4 = 1 then f_X12_heard_93 N S1 w5 3 else f_X12_heard_93 N S1 w5 2 else f_X12_heard_93 N S1 w5 1 else bS (f_X12_lost N S1) fun w6 S2 => some (w6, S2) else f_X12_heard_42 N S1
set_option maxHeartbeats 4000000 in
set_option maxRecDepth 40000 in
theorem w_X12_heard_0 {F : xH} {ev : xEv} {prim : xRel} {d sz : Nat} {T : yT} {v : Int32} {S' : yS} (N : Nat) (S : yS) (l1 : Int32) (l2 : Int32) (l3 : Int32) (l4 : Int32) (hp : xH) (lv : xLv) (a0 : Nat) (fa0 : yAt T 12 8 0 a0) (g0 : xG lv 0 = some (.ref a0)) (g1 : xG lv 1 = some (.int l1)) (g2 : xG lv 2 = some (.int l2)) (g3 : xG lv 3 = some (.int l3)) (g4 : xG lv 4 = some (.int l4)) (hM : cR [8] F ev T S hp) (h : f_X12_heard_0 N S l1 l2 l3 l4 = some (v, S')) : yWE ev.2.1 (xstr ev) (xCalls ev xmi (xprog ev) prim (d + 2)) (pX12_heard ev) (0, lv, [], hp, sz, 0) (ypQ [8] F ev T sz (some (.int v)) S') := by
  unfold f_X12_heard_0 at h
  refine ye_aload rfl g0 ?_
  refine ye_p rfl rfl ?_
  obtain ⟨S1, eS1, h⟩ := sq_some h
  refine yw_putI rfl hM fa0 rfl ⟨rfl, rfl⟩ (Nat.le_of_ble_eq_true rfl) rfl rfl (ys_12_47 ev T _ 0) (fun q => absurd q (by decide)) eS1 (fun y1 M1 => ?_)
  refine ye_aload rfl g0 ?_
  refine ye_iload rfl g1 ?_
  obtain ⟨w1, hw1, h⟩ := bV_some h
  refine ye_callV (As := [.int l1]) (rest := []) 0 (Or.inl rfl) rfl rfl rfl (Nat.le_of_ble_eq_true rfl) (M1.obj fa0 ⟨rfl, rfl⟩) ((m_X12_isField (d := d + 0) (T := T) N S1 l1 a0 fa0 hw1) y1 sz M1) ?_
  refine ye_if_eq rfl (fun h1 => ?_) (fun h1 => ?_)
  · replace h := yiT h1 h
    exact w_X12_heard_42 (prim := prim) (d := d) N S1 y1 lv a0 fa0 g0 M1 h
  · replace h := yiN h1 h
    refine ye_aload rfl g0 ?_
    refine ye_iload rfl g2 ?_
    obtain ⟨w2, hw2, h⟩ := bV_some h
    refine ye_callV (As := [.int l2]) (rest := []) 0 (Or.inl rfl) rfl rfl rfl (Nat.le_of_ble_eq_true rfl) (M1.obj fa0 ⟨rfl, rfl⟩) ((m_X12_isLeg (d := d + 0) (T := T) N S1 l2 a0 fa0 hw2) y1 sz M1) ?_
    refine ye_if_eq rfl (fun h2 => ?_) (fun h2 => ?_)
    · replace h := yiT h2 h
      exact w_X12_heard_42 (prim := prim) (d := d) N S1 y1 lv a0 fa0 g0 M1 h
    · replace h := yiN h2 h
      refine ye_iload rfl g3 ?_
      refine ye_p rfl rfl ?_
      refine ye_p rfl rfl ?_
      obtain ⟨w3, hw3, h⟩ := bV_some h
      refine ye_callS (As := [.int l3, .int 0, .int 3000]) (rest := []) 1 (Or.inl rfl) rfl rfl rfl (Nat.le_of_ble_eq_true rfl) ((m_X12_in (d := d + 1) (T := T) N S1 l3 0 3000 hw3) y1 sz M1) ?_
      refine ye_if_eq rfl (fun h3 => ?_) (fun h3 => ?_)
      · replace h := yiT h3 h
        exact w_X12_heard_42 (prim := prim) (d := d) N S1 y1 lv a0 fa0 g0 M1 h
      · replace h := yiN h3 h
        refine ye_iload rfl g4 ?_
        refine ye_p rfl rfl ?_
        refine ye_p rfl rfl ?_
        obtain ⟨w4, hw4, h⟩ := bV_some h
        refine ye_callS (As := [.int l4, .int 0, .int 2]) (rest := []) 1 (Or.inl rfl) rfl rfl rfl (Nat.le_of_ble_eq_true rfl) ((m_X12_in (d := d + 1) (T := T) N S1 l4 0 2 hw4) y1 sz M1) ?_
        refine ye_if_ne rfl (fun h4 => ?_) (fun h4 => ?_)
        · replace h := yiT h4 h
          refine ye_aload rfl g0 ?_
          refine ye_iload rfl g1 ?_
          refine ye_iload rfl g2 ?_
          refine ye_iload rfl g3 ?_
          obtain ⟨w5, hw5, h⟩ := bV_some h
          refine ye_callV (As := [.int l1, .int l2, .int l3]) (rest := []) 0 (Or.inl rfl) rfl rfl rfl (Nat.le_of_ble_eq_true rfl) (M1.obj fa0 ⟨rfl, rfl⟩) ((m_X12_wordAt (d := d + 1) (T := T) N S1 l1 l2 l3 a0 fa0 hw5) y1 sz M1) ?_
          refine ye_p rfl rfl ?_
          have g0_z1 := xG_o1 (i := 5) (v := .int w5) g0 rfl
          have g4_z1 := xG_o1 (i := 5) (v := .int w5) g4 rfl
          have g5_z1 := xG_same lv 5 (.int w5)
          generalize xSt1 lv 5 (.int w5) = lvz1 at g0_z1 g4_z1 g5_z1 ⊢
          refine ye_iload rfl g5_z1 ?_
          refine ye_p rfl rfl ?_
          refine ye_icmp_ne rfl (fun h5 => ?_) (fun h5 => ?_)
          · replace h := yiT h5 h
            refine ye_aload rfl g0_z1 ?_
            refine ye_getr rfl (M1.obj fa0 ⟨rfl, rfl⟩) rfl (fun cx1 ecx1 => ?_)
            have fcx1 := yAt.row fa0 ecx1
            refine ye_iload rfl g5_z1 ?_
            refine ye_iload rfl g4_z1 ?_
            refine ye_if_ne rfl (fun h6 => ?_) (fun h6 => ?_)
            · replace h := yiT h6 h
              refine ye_iload rfl g4_z1 ?_
              refine ye_p rfl rfl ?_
              refine ye_icmp_ne rfl (fun h7 => ?_) (fun h7 => ?_)
              · replace h := yiT h7 h
                refine ye_p rfl rfl ?_
                exact w_X12_heard_93 (prim := prim) (d := d) N S1 w5 3 y1 lvz1 cx1 fcx1 M1 h
              · replace h := yiN h7 h
                refine ye_p rfl rfl ?_
                refine ye_p rfl rfl ?_
                exact w_X12_heard_93 (prim := prim) (d := d) N S1 w5 2 y1 lvz1 cx1 fcx1 M1 h
            · replace h := yiN h6 h
              refine ye_p rfl rfl ?_
              refine ye_p rfl rfl ?_
              exact w_X12_heard_93 (prim := prim) (d := d) N S1 w5 1 y1 lvz1 cx1 fcx1 M1 h
          · replace h := yiN h5 h
            refine ye_aload rfl g0_z1 ?_
            obtain ⟨w6, S2, hw6, h⟩ := bS_some h
            obtain ⟨y2, cy2, M2⟩ := (m_X12_lost (d := d + 1) (T := T) N S1 a0 fa0 hw6) y1 sz M1
            refine ye_callV (As := []) (rest := []) 0 (Or.inl rfl) rfl rfl rfl (Nat.le_of_ble_eq_true rfl) (M1.obj fa0 ⟨rfl, rfl⟩) cy2 ?_
            exact ye_ret rfl rfl (rQ h M2)
        · replace h := yiN h4 h
          exact w_X12_heard_42 (prim := prim) (d := d) N S1 y1 lv a0 fa0 g0 M1 h
def f_X12_heard (N : Nat) (S : yS) (xl1 : Int32) (xl2 : Int32) (xl3 : Int32) (xl4 : Int32) : Option (Int32 × yS) := f_X12_heard_0 N S xl1 xl2 xl3 xl4
theorem m_X12_heard {F : xH} {ev : xEv} {prim : xRel} {d : Nat} {T : yT} {v : Int32} {S' : yS} (N : Nat) (S : yS) (xl1 : Int32) (xl2 : Int32) (xl3 : Int32) (xl4 : Int32) (a0 : Nat) (fa0 : yAt T 12 8 0 a0) (h : f_X12_heard N S xl1 xl2 xl3 xl4 = some (v, S')) : ykQ [8] F ev prim (d + 3) 218 T S [.ref a0, .int xl1, .int xl2, .int xl3, .int xl4] (some (.int v)) S' :=
  ykQ.of (pg_218 ev) mi_218 (Nat.le_of_ble_eq_true rfl) (fun hp sz hM => w_X12_heard_0 (prim := prim) (d := d) N S xl1 xl2 xl3 xl4 hp _ a0 fa0 rfl rfl rfl rfl rfl hM h)

def f_X12_plane3_68 (N : Nat) (S : yS) : Option (Int32 × yS) := some ((-1), S)
set_option maxHeartbeats 4000000 in
set_option maxRecDepth 40000 in
theorem w_X12_plane3_68 {F : xH} {ev : xEv} {prim : xRel} {d sz : Nat} {T : yT} {v : Int32} {S' : yS} (N : Nat) (S : yS) (hp : xH) (lv : xLv) (hM : cR [8] F ev T S hp) (h : f_X12_plane3_68 N S = some (v, S')) : yWE ev.2.1 (xstr ev) (xCalls ev xmi (xprog ev) prim (d + 2)) (pX12_plane__ ev) (68, lv, [], hp, sz, 0) (ypQ [8] F ev T sz (some (.int v)) S') := by
  unfold f_X12_plane3_68 at h
  refine ye_p rfl rfl ?_
  exact ye_ret rfl rfl (rQ h hM)

def f_X12_plane3_126 : Nat → Nat → yS → Int32 → Int32 → Option (Int32 × yS)
  | 0, _, _, _, _ => none
  | n + 1, N, S, l1, l7 => if 23 ≤ l7 then bS (f_X12_plane2 N S (S.1 8 21) 0 l1) fun w1 S1 => bS (f_X12_plane2 N S1 (S1.1 8 21) 1 ((-1))) fun w2 S2 => bS (f_X12_plane2 N S2 (S2.1 8 21) 2 ((-1))) fun w3 S3 => bS (f_X12_plane2 N S3 (S3.1 8 21) 6 400) fun w4 S4 => bS (f_X12_plane2 N S4 (S4.1 8 21) 11 ((-1))) fun w5 S5 => bS (f_X12_plane2 N S5 (S5.1 8 21) 12 ((-1))) fun w6 S6 => sq (yI S6 8 21 ((S6.1 8 21) + 1)) fun S7 => some ((S7.1 8 21) - 1, S7) else bS (f_X12_plane2 N S (S.1 8 21) l7 0) fun w7 S8 => f_X12_plane3_126 n N S8 l1 (l7 + 1)
set_option maxHeartbeats 4000000 in
set_option maxRecDepth 40000 in
theorem w_X12_plane3_126 {F : xH} {ev : xEv} {prim : xRel} {d sz : Nat} {T : yT} {v : Int32} {S' : yS} (N : Nat) (n : Nat) : ∀ (S : yS) (l1 : Int32) (l7 : Int32) (hp : xH) (lv : xLv) (a0 : Nat) (fa0 : yAt T 12 8 0 a0) (g0 : xG lv 0 = some (.ref a0)) (g1 : xG lv 1 = some (.int l1)) (g7 : xG lv 7 = some (.int l7)) (hM : cR [8] F ev T S hp) (h : f_X12_plane3_126 n N S l1 l7 = some (v, S')), yWE ev.2.1 (xstr ev) (xCalls ev xmi (xprog ev) prim (d + 2)) (pX12_plane__ ev) (126, lv, [], hp, sz, 0) (ypQ [8] F ev T sz (some (.int v)) S') := by
  induction n with
  | zero => intro S l1 l7 hp lv a0 fa0 g0 g1 g7 hM h; exact n_some h
  | succ n ih =>
    intro S l1 l7 hp lv a0 fa0 g0 g1 g7 hM h
    unfold f_X12_plane3_126 at h
    refine ye_iload rfl g7 ?_
    refine ye_p rfl rfl ?_
    refine ye_icmp_ge rfl (fun h1 => ?_) (fun h1 => ?_)
    · replace h := yiT h1 h
      refine ye_aload rfl g0 ?_
      refine ye_aload rfl g0 ?_
      refine ye_getf rfl (hM.obj fa0 ⟨rfl, rfl⟩) rfl ?_
      refine ye_p rfl rfl ?_
      refine ye_iload rfl g1 ?_
      obtain ⟨w1, S1, hw1, h⟩ := bS_some h
      obtain ⟨y1, cy1, M1⟩ := (m_X12_plane2 (d := d + 1) (T := T) N S (S.1 8 21) 0 l1 a0 fa0 hw1) hp sz hM
      refine ye_callV (As := [.int (S.1 8 21), .int 0, .int l1]) (rest := []) 0 (Or.inl rfl) rfl rfl rfl (Nat.le_of_ble_eq_true rfl) (hM.obj fa0 ⟨rfl, rfl⟩) cy1 ?_
      refine ye_aload rfl g0 ?_
      refine ye_aload rfl g0 ?_
      refine ye_getf rfl (M1.obj fa0 ⟨rfl, rfl⟩) rfl ?_
      refine ye_p rfl rfl ?_
      refine ye_p rfl rfl ?_
      obtain ⟨w2, S2, hw2, h⟩ := bS_some h
      obtain ⟨y2, cy2, M2⟩ := (m_X12_plane2 (d := d + 1) (T := T) N S1 (S1.1 8 21) 1 ((-1)) a0 fa0 hw2) y1 sz M1
      refine ye_callV (As := [.int (S1.1 8 21), .int 1, .int ((-1))]) (rest := []) 0 (Or.inl rfl) rfl rfl rfl (Nat.le_of_ble_eq_true rfl) (M1.obj fa0 ⟨rfl, rfl⟩) cy2 ?_
      refine ye_aload rfl g0 ?_
      refine ye_aload rfl g0 ?_
      refine ye_getf rfl (M2.obj fa0 ⟨rfl, rfl⟩) rfl ?_
      refine ye_p rfl rfl ?_
      refine ye_p rfl rfl ?_
      obtain ⟨w3, S3, hw3, h⟩ := bS_some h
      obtain ⟨y3, cy3, M3⟩ := (m_X12_plane2 (d := d + 1) (T := T) N S2 (S2.1 8 21) 2 ((-1)) a0 fa0 hw3) y2 sz M2
      refine ye_callV (As := [.int (S2.1 8 21), .int 2, .int ((-1))]) (rest := []) 0 (Or.inl rfl) rfl rfl rfl (Nat.le_of_ble_eq_true rfl) (M2.obj fa0 ⟨rfl, rfl⟩) cy3 ?_
      refine ye_aload rfl g0 ?_
      refine ye_aload rfl g0 ?_
      refine ye_getf rfl (M3.obj fa0 ⟨rfl, rfl⟩) rfl ?_
      refine ye_p rfl rfl ?_
      refine ye_p rfl rfl ?_
      obtain ⟨w4, S4, hw4, h⟩ := bS_some h
      obtain ⟨y4, cy4, M4⟩ := (m_X12_plane2 (d := d + 1) (T := T) N S3 (S3.1 8 21) 6 400 a0 fa0 hw4) y3 sz M3
      refine ye_callV (As := [.int (S3.1 8 21), .int 6, .int 400]) (rest := []) 0 (Or.inl rfl) rfl rfl rfl (Nat.le_of_ble_eq_true rfl) (M3.obj fa0 ⟨rfl, rfl⟩) cy4 ?_
      refine ye_aload rfl g0 ?_
      refine ye_aload rfl g0 ?_
      refine ye_getf rfl (M4.obj fa0 ⟨rfl, rfl⟩) rfl ?_
      refine ye_p rfl rfl ?_
      refine ye_p rfl rfl ?_
      obtain ⟨w5, S5, hw5, h⟩ := bS_some h
      obtain ⟨y5, cy5, M5⟩ := (m_X12_plane2 (d := d + 1) (T := T) N S4 (S4.1 8 21) 11 ((-1)) a0 fa0 hw5) y4 sz M4
      refine ye_callV (As := [.int (S4.1 8 21), .int 11, .int ((-1))]) (rest := []) 0 (Or.inl rfl) rfl rfl rfl (Nat.le_of_ble_eq_true rfl) (M4.obj fa0 ⟨rfl, rfl⟩) cy5 ?_
      refine ye_aload rfl g0 ?_
      refine ye_aload rfl g0 ?_
      refine ye_getf rfl (M5.obj fa0 ⟨rfl, rfl⟩) rfl ?_
      refine ye_p rfl rfl ?_
      refine ye_p rfl rfl ?_
      obtain ⟨w6, S6, hw6, h⟩ := bS_some h
      obtain ⟨y6, cy6, M6⟩ := (m_X12_plane2 (d := d + 1) (T := T) N S5 (S5.1 8 21) 12 ((-1)) a0 fa0 hw6) y5 sz M5
      refine ye_callV (As := [.int (S5.1 8 21), .int 12, .int ((-1))]) (rest := []) 0 (Or.inl rfl) rfl rfl rfl (Nat.le_of_ble_eq_true rfl) (M5.obj fa0 ⟨rfl, rfl⟩) cy6 ?_
      refine ye_aload rfl g0 ?_
      refine ye_p rfl rfl ?_
      refine ye_getf rfl (M6.obj fa0 ⟨rfl, rfl⟩) rfl ?_
      refine ye_p rfl rfl ?_
      refine ye_p rfl rfl ?_
      obtain ⟨S7, eS7, h⟩ := sq_some h
      refine yw_putI rfl M6 fa0 rfl ⟨rfl, rfl⟩ (Nat.le_of_ble_eq_true rfl) rfl rfl (ys_12_21 ev T _ ((S6.1 8 21) + 1)) (fun q => absurd q (by decide)) eS7 (fun y7 M7 => ?_)
      refine ye_aload rfl g0 ?_
      refine ye_getf rfl (M7.obj fa0 ⟨rfl, rfl⟩) rfl ?_
      refine ye_p rfl rfl ?_
      refine ye_p rfl rfl ?_
      exact ye_ret rfl rfl (rQ h M7)
    · replace h := yiN h1 h
      refine ye_aload rfl g0 ?_
      refine ye_aload rfl g0 ?_
      refine ye_getf rfl (hM.obj fa0 ⟨rfl, rfl⟩) rfl ?_
      refine ye_iload rfl g7 ?_
      refine ye_p rfl rfl ?_
      obtain ⟨w7, S8, hw7, h⟩ := bS_some h
      obtain ⟨y8, cy8, M8⟩ := (m_X12_plane2 (d := d + 1) (T := T) N S (S.1 8 21) l7 0 a0 fa0 hw7) hp sz hM
      refine ye_callV (As := [.int (S.1 8 21), .int l7, .int 0]) (rest := []) 0 (Or.inl rfl) rfl rfl rfl (Nat.le_of_ble_eq_true rfl) (hM.obj fa0 ⟨rfl, rfl⟩) cy8 ?_
      refine ye_iinc rfl g7 ?_
      have g0_z1 := xG_o1 (i := 7) (v := .int (l7 + 1)) g0 rfl
      have g1_z1 := xG_o1 (i := 7) (v := .int (l7 + 1)) g1 rfl
      have g7_z1 := xG_same lv 7 (.int (l7 + 1))
      generalize xSt1 lv 7 (.int (l7 + 1)) = lvz1 at g0_z1 g1_z1 g7_z1 ⊢
      refine ye_p rfl rfl ?_
      exact ih S8 l1 (l7 + 1) y8 lvz1 a0 fa0 g0_z1 g1_z1 g7_z1 M8 h

def f_X12_plane3_0 (N : Nat) (S : yS) (l1 : Int32) (l2 : Int32) (l3 : Int32) (l4 : Int32) (l5 : Int32) (l6 : Int32) : Option (Int32 × yS) := sq (yI S 8 47 0) fun S1 => bV (f_X12_isField N S1 l1) fun w1 => if w1 = 0 then f_X12_plane3_68 N S1 else bV (f_X12_in N S1 l2 5 60) fun w2 => if w2 = 0 then f_X12_plane3_68 N S1 else bV (f_X12_in N S1 l3 50 3000) fun w3 => if w3 = 0 then f_X12_plane3_68 N S1 else bV (f_X12_in N S1 l4 20 250) fun w4 => if w4 = 0 then f_X12_plane3_68 N S1 else bV (f_X12_in N S1 l5 1 60) fun w5 => if w5 = 0 then f_X12_plane3_68 N S1 else if ¬ (S1.1 8 21) = 8 then gA 8 (S1.1 8 21) fun j1 => sq (yA S1 8 16 (upd (S1.2.1 8 16) j1 l2)) fun S2 => gA 8 (S2.1 8 21) fun j2 => sq (yA S2 8 17 (upd (S2.2.1 8 17) j2 l3)) fun S3 => gA 8 (S3.1 8 21) fun j3 => sq (yA S3 8 18 (upd (S3.2.1 8 18) j3 l4)) fun S4 => gA 8 (S4.1 8 21) fun j4 => sq (yA S4 8 19 (upd (S4.2.1 8 19) j4 l5)) fun S5 => gA 8 (S5.1 8 21) fun j5 => sq (yA S5 8 20 (upd (S5.2.1 8 20) j5 (vp_nar .boolean l6))) fun S6 => f_X12_plane3_126 N N S6 l1 0 else f_X12_plane3_68 N S1
set_option maxHeartbeats 4000000 in
set_option maxRecDepth 40000 in
theorem w_X12_plane3_0 {F : xH} {ev : xEv} {prim : xRel} {d sz : Nat} {T : yT} {v : Int32} {S' : yS} (N : Nat) (S : yS) (l1 : Int32) (l2 : Int32) (l3 : Int32) (l4 : Int32) (l5 : Int32) (l6 : Int32) (hp : xH) (lv : xLv) (a0 : Nat) (fa0 : yAt T 12 8 0 a0) (g0 : xG lv 0 = some (.ref a0)) (g1 : xG lv 1 = some (.int l1)) (g2 : xG lv 2 = some (.int l2)) (g3 : xG lv 3 = some (.int l3)) (g4 : xG lv 4 = some (.int l4)) (g5 : xG lv 5 = some (.int l5)) (g6 : xG lv 6 = some (.int l6)) (hM : cR [8] F ev T S hp) (h : f_X12_plane3_0 N S l1 l2 l3 l4 l5 l6 = some (v, S')) : yWE ev.2.1 (xstr ev) (xCalls ev xmi (xprog ev) prim (d + 2)) (pX12_plane__ ev) (0, lv, [], hp, sz, 0) (ypQ [8] F ev T sz (some (.int v)) S') := by
  unfold f_X12_plane3_0 at h
  refine ye_aload rfl g0 ?_
  refine ye_p rfl rfl ?_
  obtain ⟨S1, eS1, h⟩ := sq_some h
  refine yw_putI rfl hM fa0 rfl ⟨rfl, rfl⟩ (Nat.le_of_ble_eq_true rfl) rfl rfl (ys_12_47 ev T _ 0) (fun q => absurd q (by decide)) eS1 (fun y1 M1 => ?_)
  refine ye_aload rfl g0 ?_
  refine ye_iload rfl g1 ?_
  obtain ⟨w1, hw1, h⟩ := bV_some h
  refine ye_callV (As := [.int l1]) (rest := []) 0 (Or.inl rfl) rfl rfl rfl (Nat.le_of_ble_eq_true rfl) (M1.obj fa0 ⟨rfl, rfl⟩) ((m_X12_isField (d := d + 0) (T := T) N S1 l1 a0 fa0 hw1) y1 sz M1) ?_
  refine ye_if_eq rfl (fun h1 => ?_) (fun h1 => ?_)
  · replace h := yiT h1 h
    exact w_X12_plane3_68 (prim := prim) (d := d) N S1 y1 lv M1 h
  · replace h := yiN h1 h
    refine ye_iload rfl g2 ?_
    refine ye_p rfl rfl ?_
    refine ye_p rfl rfl ?_
    obtain ⟨w2, hw2, h⟩ := bV_some h
    refine ye_callS (As := [.int l2, .int 5, .int 60]) (rest := []) 1 (Or.inl rfl) rfl rfl rfl (Nat.le_of_ble_eq_true rfl) ((m_X12_in (d := d + 1) (T := T) N S1 l2 5 60 hw2) y1 sz M1) ?_
    refine ye_if_eq rfl (fun h2 => ?_) (fun h2 => ?_)
    · replace h := yiT h2 h
      exact w_X12_plane3_68 (prim := prim) (d := d) N S1 y1 lv M1 h
    · replace h := yiN h2 h
      refine ye_iload rfl g3 ?_
      refine ye_p rfl rfl ?_
      refine ye_p rfl rfl ?_
      obtain ⟨w3, hw3, h⟩ := bV_some h
      refine ye_callS (As := [.int l3, .int 50, .int 3000]) (rest := []) 1 (Or.inl rfl) rfl rfl rfl (Nat.le_of_ble_eq_true rfl) ((m_X12_in (d := d + 1) (T := T) N S1 l3 50 3000 hw3) y1 sz M1) ?_
      refine ye_if_eq rfl (fun h3 => ?_) (fun h3 => ?_)
      · replace h := yiT h3 h
        exact w_X12_plane3_68 (prim := prim) (d := d) N S1 y1 lv M1 h
      · replace h := yiN h3 h
        refine ye_iload rfl g4 ?_
        refine ye_p rfl rfl ?_
        refine ye_p rfl rfl ?_
        obtain ⟨w4, hw4, h⟩ := bV_some h
        refine ye_callS (As := [.int l4, .int 20, .int 250]) (rest := []) 1 (Or.inl rfl) rfl rfl rfl (Nat.le_of_ble_eq_true rfl) ((m_X12_in (d := d + 1) (T := T) N S1 l4 20 250 hw4) y1 sz M1) ?_
        refine ye_if_eq rfl (fun h4 => ?_) (fun h4 => ?_)
        · replace h := yiT h4 h
          exact w_X12_plane3_68 (prim := prim) (d := d) N S1 y1 lv M1 h
        · replace h := yiN h4 h
          refine ye_iload rfl g5 ?_
          refine ye_p rfl rfl ?_
          refine ye_p rfl rfl ?_
          obtain ⟨w5, hw5, h⟩ := bV_some h
          refine ye_callS (As := [.int l5, .int 1, .int 60]) (rest := []) 1 (Or.inl rfl) rfl rfl rfl (Nat.le_of_ble_eq_true rfl) ((m_X12_in (d := d + 1) (T := T) N S1 l5 1 60 hw5) y1 sz M1) ?_
          refine ye_if_eq rfl (fun h5 => ?_) (fun h5 => ?_)
          · replace h := yiT h5 h
            exact w_X12_plane3_68 (prim := prim) (d := d) N S1 y1 lv M1 h
          · replace h := yiN h5 h
            refine ye_aload rfl g0 ?_
            refine ye_getf rfl (M1.obj fa0 ⟨rfl, rfl⟩) rfl ?_
            refine ye_p rfl rfl ?_
            refine ye_icmp_ne rfl (fun h6 => ?_) (fun h6 => ?_)
            · replace h := yiT h6 h
              refine ye_aload rfl g0 ?_
              refine ye_getr rfl (M1.obj fa0 ⟨rfl, rfl⟩) rfl (fun cx1 ecx1 => ?_)
              have fcx1 := yAt.row fa0 ecx1
              refine ye_aload rfl g0 ?_
              refine ye_getf rfl (M1.obj fa0 ⟨rfl, rfl⟩) rfl ?_
              refine ye_iload rfl g2 ?_
              obtain ⟨j1, ej1, ij1, h⟩ := gA_some h
              obtain ⟨S2, eS2, h⟩ := sq_some h
              refine yw_ast rfl M1 fcx1 yr_12_16 (by decide) ij1 ej1 eS2 (fun y2 M2 => ?_)
              refine ye_aload rfl g0 ?_
              refine ye_getr rfl (M2.obj fa0 ⟨rfl, rfl⟩) rfl (fun cx2 ecx2 => ?_)
              have fcx2 := yAt.row fa0 ecx2
              refine ye_aload rfl g0 ?_
              refine ye_getf rfl (M2.obj fa0 ⟨rfl, rfl⟩) rfl ?_
              refine ye_iload rfl g3 ?_
              obtain ⟨j2, ej2, ij2, h⟩ := gA_some h
              obtain ⟨S3, eS3, h⟩ := sq_some h
              refine yw_ast rfl M2 fcx2 yr_12_17 (by decide) ij2 ej2 eS3 (fun y3 M3 => ?_)
              refine ye_aload rfl g0 ?_
              refine ye_getr rfl (M3.obj fa0 ⟨rfl, rfl⟩) rfl (fun cx3 ecx3 => ?_)
              have fcx3 := yAt.row fa0 ecx3
              refine ye_aload rfl g0 ?_
              refine ye_getf rfl (M3.obj fa0 ⟨rfl, rfl⟩) rfl ?_
              refine ye_iload rfl g4 ?_
              obtain ⟨j3, ej3, ij3, h⟩ := gA_some h
              obtain ⟨S4, eS4, h⟩ := sq_some h
              refine yw_ast rfl M3 fcx3 yr_12_18 (by decide) ij3 ej3 eS4 (fun y4 M4 => ?_)
              refine ye_aload rfl g0 ?_
              refine ye_getr rfl (M4.obj fa0 ⟨rfl, rfl⟩) rfl (fun cx4 ecx4 => ?_)
              have fcx4 := yAt.row fa0 ecx4
              refine ye_aload rfl g0 ?_
              refine ye_getf rfl (M4.obj fa0 ⟨rfl, rfl⟩) rfl ?_
              refine ye_iload rfl g5 ?_
              obtain ⟨j4, ej4, ij4, h⟩ := gA_some h
              obtain ⟨S5, eS5, h⟩ := sq_some h
              refine yw_ast rfl M4 fcx4 yr_12_19 (by decide) ij4 ej4 eS5 (fun y5 M5 => ?_)
              refine ye_aload rfl g0 ?_
              refine ye_getr rfl (M5.obj fa0 ⟨rfl, rfl⟩) rfl (fun cx5 ecx5 => ?_)
              have fcx5 := yAt.row fa0 ecx5
              refine ye_aload rfl g0 ?_
              refine ye_getf rfl (M5.obj fa0 ⟨rfl, rfl⟩) rfl ?_
              refine ye_iload rfl g6 ?_
              obtain ⟨j5, ej5, ij5, h⟩ := gA_some h
              obtain ⟨S6, eS6, h⟩ := sq_some h
              refine yw_ast rfl M5 fcx5 yr_12_20 (by decide) ij5 ej5 eS6 (fun y6 M6 => ?_)
              refine ye_p rfl rfl ?_
              refine ye_p rfl rfl ?_
              have g0_z1 := xG_o1 (i := 7) (v := .int 0) g0 rfl
              have g1_z1 := xG_o1 (i := 7) (v := .int 0) g1 rfl
              have g7_z1 := xG_same lv 7 (.int 0)
              generalize xSt1 lv 7 (.int 0) = lvz1 at g0_z1 g1_z1 g7_z1 ⊢
              exact w_X12_plane3_126 (prim := prim) (d := d) N N S6 l1 0 y6 lvz1 a0 fa0 g0_z1 g1_z1 g7_z1 M6 h
            · replace h := yiN h6 h
              exact w_X12_plane3_68 (prim := prim) (d := d) N S1 y1 lv M1 h
def f_X12_plane3 (N : Nat) (S : yS) (xl1 : Int32) (xl2 : Int32) (xl3 : Int32) (xl4 : Int32) (xl5 : Int32) (xl6 : Int32) : Option (Int32 × yS) := f_X12_plane3_0 N S xl1 xl2 xl3 xl4 xl5 xl6
theorem m_X12_plane3 {F : xH} {ev : xEv} {prim : xRel} {d : Nat} {T : yT} {v : Int32} {S' : yS} (N : Nat) (S : yS) (xl1 : Int32) (xl2 : Int32) (xl3 : Int32) (xl4 : Int32) (xl5 : Int32) (xl6 : Int32) (a0 : Nat) (fa0 : yAt T 12 8 0 a0) (h : f_X12_plane3 N S xl1 xl2 xl3 xl4 xl5 xl6 = some (v, S')) : ykQ [8] F ev prim (d + 3) 219 T S [.ref a0, .int xl1, .int xl2, .int xl3, .int xl4, .int xl5, .int xl6] (some (.int v)) S' :=
  ykQ.of (pg_219 ev) mi_219 (Nat.le_of_ble_eq_true rfl) (fun hp sz hM => w_X12_plane3_0 (prim := prim) (d := d) N S xl1 xl2 xl3 xl4 xl5 xl6 hp _ a0 fa0 rfl rfl rfl rfl rfl rfl rfl hM h)

def f_X12_engine_47 (N : Nat) (S : yS) : Option (Int32 × yS) := some (0, S)
set_option maxHeartbeats 4000000 in
set_option maxRecDepth 40000 in
theorem w_X12_engine_47 {F : xH} {ev : xEv} {prim : xRel} {d sz : Nat} {T : yT} {v : Int32} {S' : yS} (N : Nat) (S : yS) (hp : xH) (lv : xLv) (hM : cR [8] F ev T S hp) (h : f_X12_engine_47 N S = some (v, S')) : yWE ev.2.1 (xstr ev) (xCalls ev xmi (xprog ev) prim (d + 2)) (pX12_engine ev) (47, lv, [], hp, sz, 0) (ypQ [8] F ev T sz (some (.int v)) S') := by
  unfold f_X12_engine_47 at h
  refine ye_p rfl rfl ?_
  exact ye_ret rfl rfl (rQ h hM)

def f_X12_engine_0 (N : Nat) (S : yS) (l1 : Int32) (l2 : Int32) (l3 : Int32) (l4 : Int32) : Option (Int32 × yS) := sq (yI S 8 47 0) fun S1 => bV (f_X12_isPlane N S1 l1) fun w1 => if w1 = 0 then f_X12_engine_47 N S1 else bV (f_X12_in N S1 l2 0 999) fun w2 => if w2 = 0 then f_X12_engine_47 N S1 else bV (f_X12_in N S1 l3 1 999) fun w3 => if w3 = 0 then f_X12_engine_47 N S1 else bV (f_X12_in N S1 l4 0 999) fun w4 => if ¬ w4 = 0 then bS (f_X12_plane2 N S1 l1 5 l2) fun w5 S2 => bS (f_X12_plane2 N S2 l1 6 l3) fun w6 S3 => bS (f_X12_plane2 N S3 l1 7 l4) fun w7 S4 => some (1, S4) else f_X12_engine_47 N S1
set_option maxHeartbeats 4000000 in
set_option maxRecDepth 40000 in
theorem w_X12_engine_0 {F : xH} {ev : xEv} {prim : xRel} {d sz : Nat} {T : yT} {v : Int32} {S' : yS} (N : Nat) (S : yS) (l1 : Int32) (l2 : Int32) (l3 : Int32) (l4 : Int32) (hp : xH) (lv : xLv) (a0 : Nat) (fa0 : yAt T 12 8 0 a0) (g0 : xG lv 0 = some (.ref a0)) (g1 : xG lv 1 = some (.int l1)) (g2 : xG lv 2 = some (.int l2)) (g3 : xG lv 3 = some (.int l3)) (g4 : xG lv 4 = some (.int l4)) (hM : cR [8] F ev T S hp) (h : f_X12_engine_0 N S l1 l2 l3 l4 = some (v, S')) : yWE ev.2.1 (xstr ev) (xCalls ev xmi (xprog ev) prim (d + 2)) (pX12_engine ev) (0, lv, [], hp, sz, 0) (ypQ [8] F ev T sz (some (.int v)) S') := by
  unfold f_X12_engine_0 at h
  refine ye_aload rfl g0 ?_
  refine ye_p rfl rfl ?_
  obtain ⟨S1, eS1, h⟩ := sq_some h
  refine yw_putI rfl hM fa0 rfl ⟨rfl, rfl⟩ (Nat.le_of_ble_eq_true rfl) rfl rfl (ys_12_47 ev T _ 0) (fun q => absurd q (by decide)) eS1 (fun y1 M1 => ?_)
  refine ye_aload rfl g0 ?_
  refine ye_iload rfl g1 ?_
  obtain ⟨w1, hw1, h⟩ := bV_some h
  refine ye_callV (As := [.int l1]) (rest := []) 0 (Or.inl rfl) rfl rfl rfl (Nat.le_of_ble_eq_true rfl) (M1.obj fa0 ⟨rfl, rfl⟩) ((m_X12_isPlane (d := d + 0) (T := T) N S1 l1 a0 fa0 hw1) y1 sz M1) ?_
  refine ye_if_eq rfl (fun h1 => ?_) (fun h1 => ?_)
  · replace h := yiT h1 h
    exact w_X12_engine_47 (prim := prim) (d := d) N S1 y1 lv M1 h
  · replace h := yiN h1 h
    refine ye_iload rfl g2 ?_
    refine ye_p rfl rfl ?_
    refine ye_p rfl rfl ?_
    obtain ⟨w2, hw2, h⟩ := bV_some h
    refine ye_callS (As := [.int l2, .int 0, .int 999]) (rest := []) 1 (Or.inl rfl) rfl rfl rfl (Nat.le_of_ble_eq_true rfl) ((m_X12_in (d := d + 1) (T := T) N S1 l2 0 999 hw2) y1 sz M1) ?_
    refine ye_if_eq rfl (fun h2 => ?_) (fun h2 => ?_)
    · replace h := yiT h2 h
      exact w_X12_engine_47 (prim := prim) (d := d) N S1 y1 lv M1 h
    · replace h := yiN h2 h
      refine ye_iload rfl g3 ?_
      refine ye_p rfl rfl ?_
      refine ye_p rfl rfl ?_
      obtain ⟨w3, hw3, h⟩ := bV_some h
      refine ye_callS (As := [.int l3, .int 1, .int 999]) (rest := []) 1 (Or.inl rfl) rfl rfl rfl (Nat.le_of_ble_eq_true rfl) ((m_X12_in (d := d + 1) (T := T) N S1 l3 1 999 hw3) y1 sz M1) ?_
      refine ye_if_eq rfl (fun h3 => ?_) (fun h3 => ?_)
      · replace h := yiT h3 h
        exact w_X12_engine_47 (prim := prim) (d := d) N S1 y1 lv M1 h
      · replace h := yiN h3 h
        refine ye_iload rfl g4 ?_
        refine ye_p rfl rfl ?_
        refine ye_p rfl rfl ?_
        obtain ⟨w4, hw4, h⟩ := bV_some h
        refine ye_callS (As := [.int l4, .int 0, .int 999]) (rest := []) 1 (Or.inl rfl) rfl rfl rfl (Nat.le_of_ble_eq_true rfl) ((m_X12_in (d := d + 1) (T := T) N S1 l4 0 999 hw4) y1 sz M1) ?_
        refine ye_if_ne rfl (fun h4 => ?_) (fun h4 => ?_)
        · replace h := yiT h4 h
          refine ye_aload rfl g0 ?_
          refine ye_iload rfl g1 ?_
          refine ye_p rfl rfl ?_
          refine ye_iload rfl g2 ?_
          obtain ⟨w5, S2, hw5, h⟩ := bS_some h
          obtain ⟨y2, cy2, M2⟩ := (m_X12_plane2 (d := d + 1) (T := T) N S1 l1 5 l2 a0 fa0 hw5) y1 sz M1
          refine ye_callV (As := [.int l1, .int 5, .int l2]) (rest := []) 0 (Or.inl rfl) rfl rfl rfl (Nat.le_of_ble_eq_true rfl) (M1.obj fa0 ⟨rfl, rfl⟩) cy2 ?_
          refine ye_aload rfl g0 ?_
          refine ye_iload rfl g1 ?_
          refine ye_p rfl rfl ?_
          refine ye_iload rfl g3 ?_
          obtain ⟨w6, S3, hw6, h⟩ := bS_some h
          obtain ⟨y3, cy3, M3⟩ := (m_X12_plane2 (d := d + 1) (T := T) N S2 l1 6 l3 a0 fa0 hw6) y2 sz M2
          refine ye_callV (As := [.int l1, .int 6, .int l3]) (rest := []) 0 (Or.inl rfl) rfl rfl rfl (Nat.le_of_ble_eq_true rfl) (M2.obj fa0 ⟨rfl, rfl⟩) cy3 ?_
          refine ye_aload rfl g0 ?_
          refine ye_iload rfl g1 ?_
          refine ye_p rfl rfl ?_
          refine ye_iload rfl g4 ?_
          obtain ⟨w7, S4, hw7, h⟩ := bS_some h
          obtain ⟨y4, cy4, M4⟩ := (m_X12_plane2 (d := d + 1) (T := T) N S3 l1 7 l4 a0 fa0 hw7) y3 sz M3
          refine ye_callV (As := [.int l1, .int 7, .int l4]) (rest := []) 0 (Or.inl rfl) rfl rfl rfl (Nat.le_of_ble_eq_true rfl) (M3.obj fa0 ⟨rfl, rfl⟩) cy4 ?_
          refine ye_p rfl rfl ?_
          exact ye_ret rfl rfl (rQ h M4)
        · replace h := yiN h4 h
          exact w_X12_engine_47 (prim := prim) (d := d) N S1 y1 lv M1 h
def f_X12_engine (N : Nat) (S : yS) (xl1 : Int32) (xl2 : Int32) (xl3 : Int32) (xl4 : Int32) : Option (Int32 × yS) := f_X12_engine_0 N S xl1 xl2 xl3 xl4
theorem m_X12_engine {F : xH} {ev : xEv} {prim : xRel} {d : Nat} {T : yT} {v : Int32} {S' : yS} (N : Nat) (S : yS) (xl1 : Int32) (xl2 : Int32) (xl3 : Int32) (xl4 : Int32) (a0 : Nat) (fa0 : yAt T 12 8 0 a0) (h : f_X12_engine N S xl1 xl2 xl3 xl4 = some (v, S')) : ykQ [8] F ev prim (d + 3) 220 T S [.ref a0, .int xl1, .int xl2, .int xl3, .int xl4] (some (.int v)) S' :=
  ykQ.of (pg_220 ev) mi_220 (Nat.le_of_ble_eq_true rfl) (fun hp sz hM => w_X12_engine_0 (prim := prim) (d := d) N S xl1 xl2 xl3 xl4 hp _ a0 fa0 rfl rfl rfl rfl rfl hM h)

def f_X12_pilot_38 (N : Nat) (S : yS) : Option (Int32 × yS) := some ((-1), S)
set_option maxHeartbeats 4000000 in
set_option maxRecDepth 40000 in
theorem w_X12_pilot_38 {F : xH} {ev : xEv} {prim : xRel} {d sz : Nat} {T : yT} {v : Int32} {S' : yS} (N : Nat) (S : yS) (hp : xH) (lv : xLv) (hM : cR [8] F ev T S hp) (h : f_X12_pilot_38 N S = some (v, S')) : yWE ev.2.1 (xstr ev) (xCalls ev xmi (xprog ev) prim (d + 2)) (pX12_pilot ev) (38, lv, [], hp, sz, 0) (ypQ [8] F ev T sz (some (.int v)) S') := by
  unfold f_X12_pilot_38 at h
  refine ye_p rfl rfl ?_
  exact ye_ret rfl rfl (rQ h hM)

def f_X12_pilot_0 (N : Nat) (S : yS) (l1 : Int32) (l2 : Int32) : Option (Int32 × yS) := sq (yI S 8 47 0) fun S1 => bV (f_X12_isField N S1 l1) fun w1 => if w1 = 0 then f_X12_pilot_38 N S1 else bV (f_X12_in N S1 l2 0 ((1 <<< ((S1.1 8 9) &&& 31)) - 1)) fun w2 => if w2 = 0 then f_X12_pilot_38 N S1 else if ¬ (S1.1 8 22) = 8 then bS (f_X12_setPilot N S1 (S1.1 8 22) 0 l1) fun w3 S2 => bS (f_X12_setPilot N S2 (S2.1 8 22) 1 ((-1))) fun w4 S3 => bS (f_X12_setPilot N S3 (S3.1 8 22) 2 0) fun w5 S4 => bS (f_X12_setPilot N S4 (S4.1 8 22) 3 l2) fun w6 S5 => sq (yI S5 8 22 ((S5.1 8 22) + 1)) fun S6 => some ((S6.1 8 22) - 1, S6) else f_X12_pilot_38 N S1
set_option maxHeartbeats 4000000 in
set_option maxRecDepth 40000 in
theorem w_X12_pilot_0 {F : xH} {ev : xEv} {prim : xRel} {d sz : Nat} {T : yT} {v : Int32} {S' : yS} (N : Nat) (S : yS) (l1 : Int32) (l2 : Int32) (hp : xH) (lv : xLv) (a0 : Nat) (fa0 : yAt T 12 8 0 a0) (g0 : xG lv 0 = some (.ref a0)) (g1 : xG lv 1 = some (.int l1)) (g2 : xG lv 2 = some (.int l2)) (hM : cR [8] F ev T S hp) (h : f_X12_pilot_0 N S l1 l2 = some (v, S')) : yWE ev.2.1 (xstr ev) (xCalls ev xmi (xprog ev) prim (d + 2)) (pX12_pilot ev) (0, lv, [], hp, sz, 0) (ypQ [8] F ev T sz (some (.int v)) S') := by
  unfold f_X12_pilot_0 at h
  refine ye_aload rfl g0 ?_
  refine ye_p rfl rfl ?_
  obtain ⟨S1, eS1, h⟩ := sq_some h
  refine yw_putI rfl hM fa0 rfl ⟨rfl, rfl⟩ (Nat.le_of_ble_eq_true rfl) rfl rfl (ys_12_47 ev T _ 0) (fun q => absurd q (by decide)) eS1 (fun y1 M1 => ?_)
  refine ye_aload rfl g0 ?_
  refine ye_iload rfl g1 ?_
  obtain ⟨w1, hw1, h⟩ := bV_some h
  refine ye_callV (As := [.int l1]) (rest := []) 0 (Or.inl rfl) rfl rfl rfl (Nat.le_of_ble_eq_true rfl) (M1.obj fa0 ⟨rfl, rfl⟩) ((m_X12_isField (d := d + 0) (T := T) N S1 l1 a0 fa0 hw1) y1 sz M1) ?_
  refine ye_if_eq rfl (fun h1 => ?_) (fun h1 => ?_)
  · replace h := yiT h1 h
    exact w_X12_pilot_38 (prim := prim) (d := d) N S1 y1 lv M1 h
  · replace h := yiN h1 h
    refine ye_iload rfl g2 ?_
    refine ye_p rfl rfl ?_
    refine ye_p rfl rfl ?_
    refine ye_aload rfl g0 ?_
    refine ye_getf rfl (M1.obj fa0 ⟨rfl, rfl⟩) rfl ?_
    refine ye_p rfl rfl ?_
    refine ye_p rfl rfl ?_
    refine ye_p rfl rfl ?_
    obtain ⟨w2, hw2, h⟩ := bV_some h
    refine ye_callS (As := [.int l2, .int 0, .int ((1 <<< ((S1.1 8 9) &&& 31)) - 1)]) (rest := []) 1 (Or.inl rfl) rfl rfl rfl (Nat.le_of_ble_eq_true rfl) ((m_X12_in (d := d + 1) (T := T) N S1 l2 0 ((1 <<< ((S1.1 8 9) &&& 31)) - 1) hw2) y1 sz M1) ?_
    refine ye_if_eq rfl (fun h2 => ?_) (fun h2 => ?_)
    · replace h := yiT h2 h
      exact w_X12_pilot_38 (prim := prim) (d := d) N S1 y1 lv M1 h
    · replace h := yiN h2 h
      refine ye_aload rfl g0 ?_
      refine ye_getf rfl (M1.obj fa0 ⟨rfl, rfl⟩) rfl ?_
      refine ye_p rfl rfl ?_
      refine ye_icmp_ne rfl (fun h3 => ?_) (fun h3 => ?_)
      · replace h := yiT h3 h
        refine ye_aload rfl g0 ?_
        refine ye_aload rfl g0 ?_
        refine ye_getf rfl (M1.obj fa0 ⟨rfl, rfl⟩) rfl ?_
        refine ye_p rfl rfl ?_
        refine ye_iload rfl g1 ?_
        obtain ⟨w3, S2, hw3, h⟩ := bS_some h
        obtain ⟨y2, cy2, M2⟩ := (m_X12_setPilot (d := d + 1) (T := T) N S1 (S1.1 8 22) 0 l1 a0 fa0 hw3) y1 sz M1
        refine ye_callV (As := [.int (S1.1 8 22), .int 0, .int l1]) (rest := []) 0 (Or.inl rfl) rfl rfl rfl (Nat.le_of_ble_eq_true rfl) (M1.obj fa0 ⟨rfl, rfl⟩) cy2 ?_
        refine ye_aload rfl g0 ?_
        refine ye_aload rfl g0 ?_
        refine ye_getf rfl (M2.obj fa0 ⟨rfl, rfl⟩) rfl ?_
        refine ye_p rfl rfl ?_
        refine ye_p rfl rfl ?_
        obtain ⟨w4, S3, hw4, h⟩ := bS_some h
        obtain ⟨y3, cy3, M3⟩ := (m_X12_setPilot (d := d + 1) (T := T) N S2 (S2.1 8 22) 1 ((-1)) a0 fa0 hw4) y2 sz M2
        refine ye_callV (As := [.int (S2.1 8 22), .int 1, .int ((-1))]) (rest := []) 0 (Or.inl rfl) rfl rfl rfl (Nat.le_of_ble_eq_true rfl) (M2.obj fa0 ⟨rfl, rfl⟩) cy3 ?_
        refine ye_aload rfl g0 ?_
        refine ye_aload rfl g0 ?_
        refine ye_getf rfl (M3.obj fa0 ⟨rfl, rfl⟩) rfl ?_
        refine ye_p rfl rfl ?_
        refine ye_p rfl rfl ?_
        obtain ⟨w5, S4, hw5, h⟩ := bS_some h
        obtain ⟨y4, cy4, M4⟩ := (m_X12_setPilot (d := d + 1) (T := T) N S3 (S3.1 8 22) 2 0 a0 fa0 hw5) y3 sz M3
        refine ye_callV (As := [.int (S3.1 8 22), .int 2, .int 0]) (rest := []) 0 (Or.inl rfl) rfl rfl rfl (Nat.le_of_ble_eq_true rfl) (M3.obj fa0 ⟨rfl, rfl⟩) cy4 ?_
        refine ye_aload rfl g0 ?_
        refine ye_aload rfl g0 ?_
        refine ye_getf rfl (M4.obj fa0 ⟨rfl, rfl⟩) rfl ?_
        refine ye_p rfl rfl ?_
        refine ye_iload rfl g2 ?_
        obtain ⟨w6, S5, hw6, h⟩ := bS_some h
        obtain ⟨y5, cy5, M5⟩ := (m_X12_setPilot (d := d + 1) (T := T) N S4 (S4.1 8 22) 3 l2 a0 fa0 hw6) y4 sz M4
        refine ye_callV (As := [.int (S4.1 8 22), .int 3, .int l2]) (rest := []) 0 (Or.inl rfl) rfl rfl rfl (Nat.le_of_ble_eq_true rfl) (M4.obj fa0 ⟨rfl, rfl⟩) cy5 ?_
        refine ye_aload rfl g0 ?_
        refine ye_p rfl rfl ?_
        refine ye_getf rfl (M5.obj fa0 ⟨rfl, rfl⟩) rfl ?_
        refine ye_p rfl rfl ?_
        refine ye_p rfl rfl ?_
        obtain ⟨S6, eS6, h⟩ := sq_some h
        refine yw_putI rfl M5 fa0 rfl ⟨rfl, rfl⟩ (Nat.le_of_ble_eq_true rfl) rfl rfl (ys_12_22 ev T _ ((S5.1 8 22) + 1)) (fun q => absurd q (by decide)) eS6 (fun y6 M6 => ?_)
        refine ye_aload rfl g0 ?_
        refine ye_getf rfl (M6.obj fa0 ⟨rfl, rfl⟩) rfl ?_
        refine ye_p rfl rfl ?_
        refine ye_p rfl rfl ?_
        exact ye_ret rfl rfl (rQ h M6)
      · replace h := yiN h3 h
        exact w_X12_pilot_38 (prim := prim) (d := d) N S1 y1 lv M1 h
def f_X12_pilot (N : Nat) (S : yS) (xl1 : Int32) (xl2 : Int32) : Option (Int32 × yS) := f_X12_pilot_0 N S xl1 xl2
theorem m_X12_pilot {F : xH} {ev : xEv} {prim : xRel} {d : Nat} {T : yT} {v : Int32} {S' : yS} (N : Nat) (S : yS) (xl1 : Int32) (xl2 : Int32) (a0 : Nat) (fa0 : yAt T 12 8 0 a0) (h : f_X12_pilot N S xl1 xl2 = some (v, S')) : ykQ [8] F ev prim (d + 3) 221 T S [.ref a0, .int xl1, .int xl2] (some (.int v)) S' :=
  ykQ.of (pg_221 ev) mi_221 (Nat.le_of_ble_eq_true rfl) (fun hp sz hM => w_X12_pilot_0 (prim := prim) (d := d) N S xl1 xl2 hp _ a0 fa0 rfl rfl rfl hM h)

def f_X12_learns_21 (N : Nat) (S : yS) : Option (Int32 × yS) := some (0, S)
set_option maxHeartbeats 4000000 in
set_option maxRecDepth 40000 in
theorem w_X12_learns_21 {F : xH} {ev : xEv} {prim : xRel} {d sz : Nat} {T : yT} {v : Int32} {S' : yS} (N : Nat) (S : yS) (hp : xH) (lv : xLv) (hM : cR [8] F ev T S hp) (h : f_X12_learns_21 N S = some (v, S')) : yWE ev.2.1 (xstr ev) (xCalls ev xmi (xprog ev) prim (d + 2)) (pX12_learns ev) (21, lv, [], hp, sz, 0) (ypQ [8] F ev T sz (some (.int v)) S') := by
  unfold f_X12_learns_21 at h
  refine ye_p rfl rfl ?_
  exact ye_ret rfl rfl (rQ h hM)

def f_X12_learns_0 (N : Nat) (S : yS) (l1 : Int32) (l2 : Int32) : Option (Int32 × yS) := sq (yI S 8 47 0) fun S1 => bV (f_X12_isPilot N S1 l1) fun w1 => if w1 = 0 then f_X12_learns_21 N S1 else bV (f_X12_isLeg N S1 l2) fun w2 => if ¬ w2 = 0 then bV (f_X12_pilotOf N S1 l1 3) fun w3 => bS (f_X12_setPilot N S1 l1 3 (w3 ||| (1 <<< (l2 &&& 31)))) fun w4 S2 => some (1, S2) else f_X12_learns_21 N S1
set_option maxHeartbeats 4000000 in
set_option maxRecDepth 40000 in
theorem w_X12_learns_0 {F : xH} {ev : xEv} {prim : xRel} {d sz : Nat} {T : yT} {v : Int32} {S' : yS} (N : Nat) (S : yS) (l1 : Int32) (l2 : Int32) (hp : xH) (lv : xLv) (a0 : Nat) (fa0 : yAt T 12 8 0 a0) (g0 : xG lv 0 = some (.ref a0)) (g1 : xG lv 1 = some (.int l1)) (g2 : xG lv 2 = some (.int l2)) (hM : cR [8] F ev T S hp) (h : f_X12_learns_0 N S l1 l2 = some (v, S')) : yWE ev.2.1 (xstr ev) (xCalls ev xmi (xprog ev) prim (d + 2)) (pX12_learns ev) (0, lv, [], hp, sz, 0) (ypQ [8] F ev T sz (some (.int v)) S') := by
  unfold f_X12_learns_0 at h
  refine ye_aload rfl g0 ?_
  refine ye_p rfl rfl ?_
  obtain ⟨S1, eS1, h⟩ := sq_some h
  refine yw_putI rfl hM fa0 rfl ⟨rfl, rfl⟩ (Nat.le_of_ble_eq_true rfl) rfl rfl (ys_12_47 ev T _ 0) (fun q => absurd q (by decide)) eS1 (fun y1 M1 => ?_)
  refine ye_aload rfl g0 ?_
  refine ye_iload rfl g1 ?_
  obtain ⟨w1, hw1, h⟩ := bV_some h
  refine ye_callV (As := [.int l1]) (rest := []) 0 (Or.inl rfl) rfl rfl rfl (Nat.le_of_ble_eq_true rfl) (M1.obj fa0 ⟨rfl, rfl⟩) ((m_X12_isPilot (d := d + 0) (T := T) N S1 l1 a0 fa0 hw1) y1 sz M1) ?_
  refine ye_if_eq rfl (fun h1 => ?_) (fun h1 => ?_)
  · replace h := yiT h1 h
    exact w_X12_learns_21 (prim := prim) (d := d) N S1 y1 lv M1 h
  · replace h := yiN h1 h
    refine ye_aload rfl g0 ?_
    refine ye_iload rfl g2 ?_
    obtain ⟨w2, hw2, h⟩ := bV_some h
    refine ye_callV (As := [.int l2]) (rest := []) 0 (Or.inl rfl) rfl rfl rfl (Nat.le_of_ble_eq_true rfl) (M1.obj fa0 ⟨rfl, rfl⟩) ((m_X12_isLeg (d := d + 0) (T := T) N S1 l2 a0 fa0 hw2) y1 sz M1) ?_
    refine ye_if_ne rfl (fun h2 => ?_) (fun h2 => ?_)
    · replace h := yiT h2 h
      refine ye_aload rfl g0 ?_
      refine ye_iload rfl g1 ?_
      refine ye_p rfl rfl ?_
      refine ye_aload rfl g0 ?_
      refine ye_iload rfl g1 ?_
      refine ye_p rfl rfl ?_
      obtain ⟨w3, hw3, h⟩ := bV_some h
      refine ye_callV (As := [.int l1, .int 3]) (rest := [.int 3, .int l1, .ref a0]) 0 (Or.inl rfl) rfl rfl rfl (Nat.le_of_ble_eq_true rfl) (M1.obj fa0 ⟨rfl, rfl⟩) ((m_X12_pilotOf (d := d + 1) (T := T) N S1 l1 3 a0 fa0 hw3) y1 sz M1) ?_
      refine ye_p rfl rfl ?_
      refine ye_iload rfl g2 ?_
      refine ye_p rfl rfl ?_
      refine ye_p rfl rfl ?_
      obtain ⟨w4, S2, hw4, h⟩ := bS_some h
      obtain ⟨y2, cy2, M2⟩ := (m_X12_setPilot (d := d + 1) (T := T) N S1 l1 3 (w3 ||| (1 <<< (l2 &&& 31))) a0 fa0 hw4) y1 sz M1
      refine ye_callV (As := [.int l1, .int 3, .int (w3 ||| (1 <<< (l2 &&& 31)))]) (rest := []) 0 (Or.inl rfl) rfl rfl rfl (Nat.le_of_ble_eq_true rfl) (M1.obj fa0 ⟨rfl, rfl⟩) cy2 ?_
      refine ye_p rfl rfl ?_
      exact ye_ret rfl rfl (rQ h M2)
    · replace h := yiN h2 h
      exact w_X12_learns_21 (prim := prim) (d := d) N S1 y1 lv M1 h
def f_X12_learns (N : Nat) (S : yS) (xl1 : Int32) (xl2 : Int32) : Option (Int32 × yS) := f_X12_learns_0 N S xl1 xl2
theorem m_X12_learns {F : xH} {ev : xEv} {prim : xRel} {d : Nat} {T : yT} {v : Int32} {S' : yS} (N : Nat) (S : yS) (xl1 : Int32) (xl2 : Int32) (a0 : Nat) (fa0 : yAt T 12 8 0 a0) (h : f_X12_learns N S xl1 xl2 = some (v, S')) : ykQ [8] F ev prim (d + 3) 222 T S [.ref a0, .int xl1, .int xl2] (some (.int v)) S' :=
  ykQ.of (pg_222 ev) mi_222 (Nat.le_of_ble_eq_true rfl) (fun hp sz hM => w_X12_learns_0 (prim := prim) (d := d) N S xl1 xl2 hp _ a0 fa0 rfl rfl rfl hM h)

def f_X12_led_0 (N : Nat) (S : yS) (l1 : Int32) (l2 : Int32) : Option (Int32 × yS) := bV (f_X12_bagOf N S l1 4) fun w1 => if ¬ w1 = 16 then gA 2305 0 fun j1 => bS (f_X12_setBag N S l1 (5 + (2 * w1)) (S.2.1 8 48 j1)) fun w2 S1 => bS (f_X12_setBag N S1 l1 ((5 + (2 * w1)) + 1) l2) fun w3 S2 => bS (f_X12_setBag N S2 l1 4 (w1 + 1)) fun w4 S3 => some (0, S3) else some (0, S)
set_option maxHeartbeats 4000000 in
set_option maxRecDepth 40000 in
theorem w_X12_led_0 {F : xH} {ev : xEv} {prim : xRel} {d sz : Nat} {T : yT} {v : Int32} {S' : yS} (N : Nat) (S : yS) (l1 : Int32) (l2 : Int32) (hp : xH) (lv : xLv) (a0 : Nat) (fa0 : yAt T 12 8 0 a0) (g0 : xG lv 0 = some (.ref a0)) (g1 : xG lv 1 = some (.int l1)) (g2 : xG lv 2 = some (.int l2)) (hM : cR [8] F ev T S hp) (h : f_X12_led_0 N S l1 l2 = some (v, S')) : yWE ev.2.1 (xstr ev) (xCalls ev xmi (xprog ev) prim (d + 1)) (pX12_led ev) (0, lv, [], hp, sz, 0) (ypQ [8] F ev T sz (none) S') := by
  unfold f_X12_led_0 at h
  refine ye_aload rfl g0 ?_
  refine ye_iload rfl g1 ?_
  refine ye_p rfl rfl ?_
  obtain ⟨w1, hw1, h⟩ := bV_some h
  refine ye_callV (As := [.int l1, .int 4]) (rest := []) 0 (Or.inl rfl) rfl rfl rfl (Nat.le_of_ble_eq_true rfl) (hM.obj fa0 ⟨rfl, rfl⟩) ((m_X12_bagOf (d := d + 0) (T := T) N S l1 4 a0 fa0 hw1) hp sz hM) ?_
  refine ye_p rfl rfl ?_
  have g0_z1 := xG_o1 (i := 3) (v := .int w1) g0 rfl
  have g1_z1 := xG_o1 (i := 3) (v := .int w1) g1 rfl
  have g2_z1 := xG_o1 (i := 3) (v := .int w1) g2 rfl
  have g3_z1 := xG_same lv 3 (.int w1)
  generalize xSt1 lv 3 (.int w1) = lvz1 at g0_z1 g1_z1 g2_z1 g3_z1 ⊢
  refine ye_iload rfl g3_z1 ?_
  refine ye_p rfl rfl ?_
  refine ye_icmp_ne rfl (fun h1 => ?_) (fun h1 => ?_)
  · replace h := yiT h1 h
    refine ye_aload rfl g0_z1 ?_
    refine ye_iload rfl g1_z1 ?_
    refine ye_p rfl rfl ?_
    refine ye_p rfl rfl ?_
    refine ye_iload rfl g3_z1 ?_
    refine ye_p rfl rfl ?_
    refine ye_p rfl rfl ?_
    refine ye_aload rfl g0_z1 ?_
    refine ye_getr rfl (hM.obj fa0 ⟨rfl, rfl⟩) rfl (fun cx1 ecx1 => ?_)
    have fcx1 := yAt.row fa0 ecx1
    refine ye_p rfl rfl ?_
    obtain ⟨j1, ej1, ij1, h⟩ := gA_some h
    refine yj_ald rfl (hM.arr fcx1 yr_12_48) ij1 ej1 ?_
    obtain ⟨w2, S1, hw2, h⟩ := bS_some h
    obtain ⟨y1, cy1, M1⟩ := (m_X12_setBag (d := d + 0) (T := T) N S l1 (5 + (2 * w1)) (S.2.1 8 48 j1) a0 fa0 hw2) hp sz hM
    refine ye_callV (As := [.int l1, .int (5 + (2 * w1)), .int (S.2.1 8 48 j1)]) (rest := []) 0 (Or.inl rfl) rfl rfl rfl (Nat.le_of_ble_eq_true rfl) (hM.obj fa0 ⟨rfl, rfl⟩) cy1 ?_
    refine ye_aload rfl g0_z1 ?_
    refine ye_iload rfl g1_z1 ?_
    refine ye_p rfl rfl ?_
    refine ye_p rfl rfl ?_
    refine ye_iload rfl g3_z1 ?_
    refine ye_p rfl rfl ?_
    refine ye_p rfl rfl ?_
    refine ye_p rfl rfl ?_
    refine ye_p rfl rfl ?_
    refine ye_iload rfl g2_z1 ?_
    obtain ⟨w3, S2, hw3, h⟩ := bS_some h
    obtain ⟨y2, cy2, M2⟩ := (m_X12_setBag (d := d + 0) (T := T) N S1 l1 ((5 + (2 * w1)) + 1) l2 a0 fa0 hw3) y1 sz M1
    refine ye_callV (As := [.int l1, .int ((5 + (2 * w1)) + 1), .int l2]) (rest := []) 0 (Or.inl rfl) rfl rfl rfl (Nat.le_of_ble_eq_true rfl) (M1.obj fa0 ⟨rfl, rfl⟩) cy2 ?_
    refine ye_aload rfl g0_z1 ?_
    refine ye_iload rfl g1_z1 ?_
    refine ye_p rfl rfl ?_
    refine ye_iload rfl g3_z1 ?_
    refine ye_p rfl rfl ?_
    refine ye_p rfl rfl ?_
    obtain ⟨w4, S3, hw4, h⟩ := bS_some h
    obtain ⟨y3, cy3, M3⟩ := (m_X12_setBag (d := d + 0) (T := T) N S2 l1 4 (w1 + 1) a0 fa0 hw4) y2 sz M2
    refine ye_callV (As := [.int l1, .int 4, .int (w1 + 1)]) (rest := []) 0 (Or.inl rfl) rfl rfl rfl (Nat.le_of_ble_eq_true rfl) (M2.obj fa0 ⟨rfl, rfl⟩) cy3 ?_
    exact ye_ret rfl rfl (rQV h M3)
  · replace h := yiN h1 h
    exact ye_ret rfl rfl (rQV h hM)
def f_X12_led (N : Nat) (S : yS) (xl1 : Int32) (xl2 : Int32) : Option (Int32 × yS) := f_X12_led_0 N S xl1 xl2
theorem m_X12_led {F : xH} {ev : xEv} {prim : xRel} {d : Nat} {T : yT} {v : Int32} {S' : yS} (N : Nat) (S : yS) (xl1 : Int32) (xl2 : Int32) (a0 : Nat) (fa0 : yAt T 12 8 0 a0) (h : f_X12_led N S xl1 xl2 = some (v, S')) : ykQ [8] F ev prim (d + 2) 223 T S [.ref a0, .int xl1, .int xl2] (none) S' :=
  ykQ.of (pg_223 ev) mi_223 (Nat.le_of_ble_eq_true rfl) (fun hp sz hM => w_X12_led_0 (prim := prim) (d := d) N S xl1 xl2 hp _ a0 fa0 rfl rfl rfl hM h)

def f_X12_bag_85 (N : Nat) (S : yS) : Option (Int32 × yS) := some ((-1), S)
set_option maxHeartbeats 4000000 in
set_option maxRecDepth 40000 in
theorem w_X12_bag_85 {F : xH} {ev : xEv} {prim : xRel} {d sz : Nat} {T : yT} {v : Int32} {S' : yS} (N : Nat) (S : yS) (hp : xH) (lv : xLv) (hM : cR [8] F ev T S hp) (h : f_X12_bag_85 N S = some (v, S')) : yWE ev.2.1 (xstr ev) (xCalls ev xmi (xprog ev) prim (d + 2)) (pX12_bag ev) (85, lv, [], hp, sz, 0) (ypQ [8] F ev T sz (some (.int v)) S') := by
  unfold f_X12_bag_85 at h
  refine ye_p rfl rfl ?_
  exact ye_ret rfl rfl (rQ h hM)

def f_X12_bag_0 (N : Nat) (S : yS) (l1 : Int32) (l2 : Int32) (l3 : Int32) (l4 : Int32) (l5 : Int32) : Option (Int32 × yS) := sq (yI S 8 47 0) fun S1 => bV (f_X12_isField N S1 l1) fun w1 => if w1 = 0 then f_X12_bag_85 N S1 else bV (f_X12_isField N S1 l2) fun w2 => if w2 = 0 then f_X12_bag_85 N S1 else if l1 = l2 then f_X12_bag_85 N S1 else gA 64 ((8 * l1) + l2) fun j1 => if 268435456 ≤ (S1.2.1 8 10 j1) then f_X12_bag_85 N S1 else bV (f_X12_in N S1 l3 1 500) fun w3 => if w3 = 0 then f_X12_bag_85 N S1 else bV (f_X12_in N S1 l4 0 9) fun w4 => if w4 = 0 then f_X12_bag_85 N S1 else bV (f_X12_in N S1 l5 0 3000) fun w5 => if w5 = 0 then f_X12_bag_85 N S1 else if ¬ (S1.1 8 28) = 30 then gA 30 (S1.1 8 28) fun j2 => sq (yA S1 8 23 (upd (S1.2.1 8 23) j2 l1)) fun S2 => gA 30 (S2.1 8 28) fun j3 => sq (yA S2 8 24 (upd (S2.2.1 8 24) j3 l2)) fun S3 => gA 30 (S3.1 8 28) fun j4 => sq (yA S3 8 25 (upd (S3.2.1 8 25) j4 l3)) fun S4 => gA 30 (S4.1 8 28) fun j5 => sq (yA S4 8 26 (upd (S4.2.1 8 26) j5 l4)) fun S5 => gA 30 (S5.1 8 28) fun j6 => sq (yA S5 8 27 (upd (S5.2.1 8 27) j6 l5)) fun S6 => bS (f_X12_setBag N S6 (S6.1 8 28) 0 l1) fun w6 S7 => bS (f_X12_setBag N S7 (S7.1 8 28) 1 ((-1))) fun w7 S8 => bS (f_X12_setBag N S8 (S8.1 8 28) 2 ((-1))) fun w8 S9 => bS (f_X12_setBag N S9 (S9.1 8 28) 3 ((-1))) fun w9 S10 => bS (f_X12_setBag N S10 (S10.1 8 28) 4 0) fun w10 S11 => bS (f_X12_led N S11 (S11.1 8 28) l1) fun w11 S12 => sq (yI S12 8 28 ((S12.1 8 28) + 1)) fun S13 => some ((S13.1 8 28) - 1, S13) else f_X12_bag_85 N S1
set_option maxHeartbeats 4000000 in
set_option maxRecDepth 40000 in
theorem w_X12_bag_0 {F : xH} {ev : xEv} {prim : xRel} {d sz : Nat} {T : yT} {v : Int32} {S' : yS} (N : Nat) (S : yS) (l1 : Int32) (l2 : Int32) (l3 : Int32) (l4 : Int32) (l5 : Int32) (hp : xH) (lv : xLv) (a0 : Nat) (fa0 : yAt T 12 8 0 a0) (g0 : xG lv 0 = some (.ref a0)) (g1 : xG lv 1 = some (.int l1)) (g2 : xG lv 2 = some (.int l2)) (g3 : xG lv 3 = some (.int l3)) (g4 : xG lv 4 = some (.int l4)) (g5 : xG lv 5 = some (.int l5)) (hM : cR [8] F ev T S hp) (h : f_X12_bag_0 N S l1 l2 l3 l4 l5 = some (v, S')) : yWE ev.2.1 (xstr ev) (xCalls ev xmi (xprog ev) prim (d + 2)) (pX12_bag ev) (0, lv, [], hp, sz, 0) (ypQ [8] F ev T sz (some (.int v)) S') := by
  unfold f_X12_bag_0 at h
  refine ye_aload rfl g0 ?_
  refine ye_p rfl rfl ?_
  obtain ⟨S1, eS1, h⟩ := sq_some h
  refine yw_putI rfl hM fa0 rfl ⟨rfl, rfl⟩ (Nat.le_of_ble_eq_true rfl) rfl rfl (ys_12_47 ev T _ 0) (fun q => absurd q (by decide)) eS1 (fun y1 M1 => ?_)
  refine ye_aload rfl g0 ?_
  refine ye_iload rfl g1 ?_
  obtain ⟨w1, hw1, h⟩ := bV_some h
  refine ye_callV (As := [.int l1]) (rest := []) 0 (Or.inl rfl) rfl rfl rfl (Nat.le_of_ble_eq_true rfl) (M1.obj fa0 ⟨rfl, rfl⟩) ((m_X12_isField (d := d + 0) (T := T) N S1 l1 a0 fa0 hw1) y1 sz M1) ?_
  refine ye_if_eq rfl (fun h1 => ?_) (fun h1 => ?_)
  · replace h := yiT h1 h
    exact w_X12_bag_85 (prim := prim) (d := d) N S1 y1 lv M1 h
  · replace h := yiN h1 h
    refine ye_aload rfl g0 ?_
    refine ye_iload rfl g2 ?_
    obtain ⟨w2, hw2, h⟩ := bV_some h
    refine ye_callV (As := [.int l2]) (rest := []) 0 (Or.inl rfl) rfl rfl rfl (Nat.le_of_ble_eq_true rfl) (M1.obj fa0 ⟨rfl, rfl⟩) ((m_X12_isField (d := d + 0) (T := T) N S1 l2 a0 fa0 hw2) y1 sz M1) ?_
    refine ye_if_eq rfl (fun h2 => ?_) (fun h2 => ?_)
    · replace h := yiT h2 h
      exact w_X12_bag_85 (prim := prim) (d := d) N S1 y1 lv M1 h
    · replace h := yiN h2 h
      refine ye_iload rfl g1 ?_
      refine ye_iload rfl g2 ?_
      refine ye_icmp_eq rfl (fun h3 => ?_) (fun h3 => ?_)
      · replace h := yiT h3 h
        exact w_X12_bag_85 (prim := prim) (d := d) N S1 y1 lv M1 h
      · replace h := yiN h3 h
        refine ye_aload rfl g0 ?_
        refine ye_getr rfl (M1.obj fa0 ⟨rfl, rfl⟩) rfl (fun cx1 ecx1 => ?_)
        have fcx1 := yAt.row fa0 ecx1
        refine ye_p rfl rfl ?_
        refine ye_iload rfl g1 ?_
        refine ye_p rfl rfl ?_
        refine ye_iload rfl g2 ?_
        refine ye_p rfl rfl ?_
        obtain ⟨j1, ej1, ij1, h⟩ := gA_some h
        refine yj_ald rfl (M1.arr fcx1 yr_12_10) ij1 ej1 ?_
        refine ye_p rfl rfl ?_
        refine ye_icmp_ge rfl (fun h4 => ?_) (fun h4 => ?_)
        · replace h := yiT h4 h
          exact w_X12_bag_85 (prim := prim) (d := d) N S1 y1 lv M1 h
        · replace h := yiN h4 h
          refine ye_iload rfl g3 ?_
          refine ye_p rfl rfl ?_
          refine ye_p rfl rfl ?_
          obtain ⟨w3, hw3, h⟩ := bV_some h
          refine ye_callS (As := [.int l3, .int 1, .int 500]) (rest := []) 1 (Or.inl rfl) rfl rfl rfl (Nat.le_of_ble_eq_true rfl) ((m_X12_in (d := d + 1) (T := T) N S1 l3 1 500 hw3) y1 sz M1) ?_
          refine ye_if_eq rfl (fun h5 => ?_) (fun h5 => ?_)
          · replace h := yiT h5 h
            exact w_X12_bag_85 (prim := prim) (d := d) N S1 y1 lv M1 h
          · replace h := yiN h5 h
            refine ye_iload rfl g4 ?_
            refine ye_p rfl rfl ?_
            refine ye_p rfl rfl ?_
            obtain ⟨w4, hw4, h⟩ := bV_some h
            refine ye_callS (As := [.int l4, .int 0, .int 9]) (rest := []) 1 (Or.inl rfl) rfl rfl rfl (Nat.le_of_ble_eq_true rfl) ((m_X12_in (d := d + 1) (T := T) N S1 l4 0 9 hw4) y1 sz M1) ?_
            refine ye_if_eq rfl (fun h6 => ?_) (fun h6 => ?_)
            · replace h := yiT h6 h
              exact w_X12_bag_85 (prim := prim) (d := d) N S1 y1 lv M1 h
            · replace h := yiN h6 h
              refine ye_iload rfl g5 ?_
              refine ye_p rfl rfl ?_
              refine ye_p rfl rfl ?_
              obtain ⟨w5, hw5, h⟩ := bV_some h
              refine ye_callS (As := [.int l5, .int 0, .int 3000]) (rest := []) 1 (Or.inl rfl) rfl rfl rfl (Nat.le_of_ble_eq_true rfl) ((m_X12_in (d := d + 1) (T := T) N S1 l5 0 3000 hw5) y1 sz M1) ?_
              refine ye_if_eq rfl (fun h7 => ?_) (fun h7 => ?_)
              · replace h := yiT h7 h
                exact w_X12_bag_85 (prim := prim) (d := d) N S1 y1 lv M1 h
              · replace h := yiN h7 h
                refine ye_aload rfl g0 ?_
                refine ye_getf rfl (M1.obj fa0 ⟨rfl, rfl⟩) rfl ?_
                refine ye_p rfl rfl ?_
                refine ye_icmp_ne rfl (fun h8 => ?_) (fun h8 => ?_)
                · replace h := yiT h8 h
                  refine ye_aload rfl g0 ?_
                  refine ye_getr rfl (M1.obj fa0 ⟨rfl, rfl⟩) rfl (fun cx2 ecx2 => ?_)
                  have fcx2 := yAt.row fa0 ecx2
                  refine ye_aload rfl g0 ?_
                  refine ye_getf rfl (M1.obj fa0 ⟨rfl, rfl⟩) rfl ?_
                  refine ye_iload rfl g1 ?_
                  obtain ⟨j2, ej2, ij2, h⟩ := gA_some h
                  obtain ⟨S2, eS2, h⟩ := sq_some h
                  refine yw_ast rfl M1 fcx2 yr_12_23 (by decide) ij2 ej2 eS2 (fun y2 M2 => ?_)
                  refine ye_aload rfl g0 ?_
                  refine ye_getr rfl (M2.obj fa0 ⟨rfl, rfl⟩) rfl (fun cx3 ecx3 => ?_)
                  have fcx3 := yAt.row fa0 ecx3
                  refine ye_aload rfl g0 ?_
                  refine ye_getf rfl (M2.obj fa0 ⟨rfl, rfl⟩) rfl ?_
                  refine ye_iload rfl g2 ?_
                  obtain ⟨j3, ej3, ij3, h⟩ := gA_some h
                  obtain ⟨S3, eS3, h⟩ := sq_some h
                  refine yw_ast rfl M2 fcx3 yr_12_24 (by decide) ij3 ej3 eS3 (fun y3 M3 => ?_)
                  refine ye_aload rfl g0 ?_
                  refine ye_getr rfl (M3.obj fa0 ⟨rfl, rfl⟩) rfl (fun cx4 ecx4 => ?_)
                  have fcx4 := yAt.row fa0 ecx4
                  refine ye_aload rfl g0 ?_
                  refine ye_getf rfl (M3.obj fa0 ⟨rfl, rfl⟩) rfl ?_
                  refine ye_iload rfl g3 ?_
                  obtain ⟨j4, ej4, ij4, h⟩ := gA_some h
                  obtain ⟨S4, eS4, h⟩ := sq_some h
                  refine yw_ast rfl M3 fcx4 yr_12_25 (by decide) ij4 ej4 eS4 (fun y4 M4 => ?_)
                  refine ye_aload rfl g0 ?_
                  refine ye_getr rfl (M4.obj fa0 ⟨rfl, rfl⟩) rfl (fun cx5 ecx5 => ?_)
                  have fcx5 := yAt.row fa0 ecx5
                  refine ye_aload rfl g0 ?_
                  refine ye_getf rfl (M4.obj fa0 ⟨rfl, rfl⟩) rfl ?_
                  refine ye_iload rfl g4 ?_
                  obtain ⟨j5, ej5, ij5, h⟩ := gA_some h
                  obtain ⟨S5, eS5, h⟩ := sq_some h
                  refine yw_ast rfl M4 fcx5 yr_12_26 (by decide) ij5 ej5 eS5 (fun y5 M5 => ?_)
                  refine ye_aload rfl g0 ?_
                  refine ye_getr rfl (M5.obj fa0 ⟨rfl, rfl⟩) rfl (fun cx6 ecx6 => ?_)
                  have fcx6 := yAt.row fa0 ecx6
                  refine ye_aload rfl g0 ?_
                  refine ye_getf rfl (M5.obj fa0 ⟨rfl, rfl⟩) rfl ?_
                  refine ye_iload rfl g5 ?_
                  obtain ⟨j6, ej6, ij6, h⟩ := gA_some h
                  obtain ⟨S6, eS6, h⟩ := sq_some h
                  refine yw_ast rfl M5 fcx6 yr_12_27 (by decide) ij6 ej6 eS6 (fun y6 M6 => ?_)
                  refine ye_aload rfl g0 ?_
                  refine ye_aload rfl g0 ?_
                  refine ye_getf rfl (M6.obj fa0 ⟨rfl, rfl⟩) rfl ?_
                  refine ye_p rfl rfl ?_
                  refine ye_iload rfl g1 ?_
                  obtain ⟨w6, S7, hw6, h⟩ := bS_some h
                  obtain ⟨y7, cy7, M7⟩ := (m_X12_setBag (d := d + 1) (T := T) N S6 (S6.1 8 28) 0 l1 a0 fa0 hw6) y6 sz M6
                  refine ye_callV (As := [.int (S6.1 8 28), .int 0, .int l1]) (rest := []) 0 (Or.inl rfl) rfl rfl rfl (Nat.le_of_ble_eq_true rfl) (M6.obj fa0 ⟨rfl, rfl⟩) cy7 ?_
                  refine ye_aload rfl g0 ?_
                  refine ye_aload rfl g0 ?_
                  refine ye_getf rfl (M7.obj fa0 ⟨rfl, rfl⟩) rfl ?_
                  refine ye_p rfl rfl ?_
                  refine ye_p rfl rfl ?_
                  obtain ⟨w7, S8, hw7, h⟩ := bS_some h
                  obtain ⟨y8, cy8, M8⟩ := (m_X12_setBag (d := d + 1) (T := T) N S7 (S7.1 8 28) 1 ((-1)) a0 fa0 hw7) y7 sz M7
                  refine ye_callV (As := [.int (S7.1 8 28), .int 1, .int ((-1))]) (rest := []) 0 (Or.inl rfl) rfl rfl rfl (Nat.le_of_ble_eq_true rfl) (M7.obj fa0 ⟨rfl, rfl⟩) cy8 ?_
                  refine ye_aload rfl g0 ?_
                  refine ye_aload rfl g0 ?_
                  refine ye_getf rfl (M8.obj fa0 ⟨rfl, rfl⟩) rfl ?_
                  refine ye_p rfl rfl ?_
                  refine ye_p rfl rfl ?_
                  obtain ⟨w8, S9, hw8, h⟩ := bS_some h
                  obtain ⟨y9, cy9, M9⟩ := (m_X12_setBag (d := d + 1) (T := T) N S8 (S8.1 8 28) 2 ((-1)) a0 fa0 hw8) y8 sz M8
                  refine ye_callV (As := [.int (S8.1 8 28), .int 2, .int ((-1))]) (rest := []) 0 (Or.inl rfl) rfl rfl rfl (Nat.le_of_ble_eq_true rfl) (M8.obj fa0 ⟨rfl, rfl⟩) cy9 ?_
                  refine ye_aload rfl g0 ?_
                  refine ye_aload rfl g0 ?_
                  refine ye_getf rfl (M9.obj fa0 ⟨rfl, rfl⟩) rfl ?_
                  refine ye_p rfl rfl ?_
                  refine ye_p rfl rfl ?_
                  obtain ⟨w9, S10, hw9, h⟩ := bS_some h
                  obtain ⟨y10, cy10, M10⟩ := (m_X12_setBag (d := d + 1) (T := T) N S9 (S9.1 8 28) 3 ((-1)) a0 fa0 hw9) y9 sz M9
                  refine ye_callV (As := [.int (S9.1 8 28), .int 3, .int ((-1))]) (rest := []) 0 (Or.inl rfl) rfl rfl rfl (Nat.le_of_ble_eq_true rfl) (M9.obj fa0 ⟨rfl, rfl⟩) cy10 ?_
                  refine ye_aload rfl g0 ?_
                  refine ye_aload rfl g0 ?_
                  refine ye_getf rfl (M10.obj fa0 ⟨rfl, rfl⟩) rfl ?_
                  refine ye_p rfl rfl ?_
                  refine ye_p rfl rfl ?_
                  obtain ⟨w10, S11, hw10, h⟩ := bS_some h
                  obtain ⟨y11, cy11, M11⟩ := (m_X12_setBag (d := d + 1) (T := T) N S10 (S10.1 8 28) 4 0 a0 fa0 hw10) y10 sz M10
                  refine ye_callV (As := [.int (S10.1 8 28), .int 4, .int 0]) (rest := []) 0 (Or.inl rfl) rfl rfl rfl (Nat.le_of_ble_eq_true rfl) (M10.obj fa0 ⟨rfl, rfl⟩) cy11 ?_
                  refine ye_aload rfl g0 ?_
                  refine ye_aload rfl g0 ?_
                  refine ye_getf rfl (M11.obj fa0 ⟨rfl, rfl⟩) rfl ?_
                  refine ye_iload rfl g1 ?_
                  obtain ⟨w11, S12, hw11, h⟩ := bS_some h
                  obtain ⟨y12, cy12, M12⟩ := (m_X12_led (d := d + 0) (T := T) N S11 (S11.1 8 28) l1 a0 fa0 hw11) y11 sz M11
                  refine ye_callV (As := [.int (S11.1 8 28), .int l1]) (rest := []) 0 (Or.inl rfl) rfl rfl rfl (Nat.le_of_ble_eq_true rfl) (M11.obj fa0 ⟨rfl, rfl⟩) cy12 ?_
                  refine ye_aload rfl g0 ?_
                  refine ye_p rfl rfl ?_
                  refine ye_getf rfl (M12.obj fa0 ⟨rfl, rfl⟩) rfl ?_
                  refine ye_p rfl rfl ?_
                  refine ye_p rfl rfl ?_
                  obtain ⟨S13, eS13, h⟩ := sq_some h
                  refine yw_putI rfl M12 fa0 rfl ⟨rfl, rfl⟩ (Nat.le_of_ble_eq_true rfl) rfl rfl (ys_12_28 ev T _ ((S12.1 8 28) + 1)) (fun q => absurd q (by decide)) eS13 (fun y13 M13 => ?_)
                  refine ye_aload rfl g0 ?_
                  refine ye_getf rfl (M13.obj fa0 ⟨rfl, rfl⟩) rfl ?_
                  refine ye_p rfl rfl ?_
                  refine ye_p rfl rfl ?_
                  exact ye_ret rfl rfl (rQ h M13)
                · replace h := yiN h8 h
                  exact w_X12_bag_85 (prim := prim) (d := d) N S1 y1 lv M1 h
def f_X12_bag (N : Nat) (S : yS) (xl1 : Int32) (xl2 : Int32) (xl3 : Int32) (xl4 : Int32) (xl5 : Int32) : Option (Int32 × yS) := f_X12_bag_0 N S xl1 xl2 xl3 xl4 xl5
theorem m_X12_bag {F : xH} {ev : xEv} {prim : xRel} {d : Nat} {T : yT} {v : Int32} {S' : yS} (N : Nat) (S : yS) (xl1 : Int32) (xl2 : Int32) (xl3 : Int32) (xl4 : Int32) (xl5 : Int32) (a0 : Nat) (fa0 : yAt T 12 8 0 a0) (h : f_X12_bag N S xl1 xl2 xl3 xl4 xl5 = some (v, S')) : ykQ [8] F ev prim (d + 3) 224 T S [.ref a0, .int xl1, .int xl2, .int xl3, .int xl4, .int xl5] (some (.int v)) S' :=
  ykQ.of (pg_224 ev) mi_224 (Nat.le_of_ble_eq_true rfl) (fun hp sz hM => w_X12_bag_0 (prim := prim) (d := d) N S xl1 xl2 xl3 xl4 xl5 hp _ a0 fa0 rfl rfl rfl rfl rfl rfl hM h)

def f_X12_arrive_67 (N : Nat) (S : yS) : Option (Int32 × yS) := some (0, S)
set_option maxHeartbeats 4000000 in
set_option maxRecDepth 40000 in
theorem w_X12_arrive_67 {F : xH} {ev : xEv} {prim : xRel} {d sz : Nat} {T : yT} {v : Int32} {S' : yS} (N : Nat) (S : yS) (hp : xH) (lv : xLv) (hM : cR [8] F ev T S hp) (h : f_X12_arrive_67 N S = some (v, S')) : yWE ev.2.1 (xstr ev) (xCalls ev xmi (xprog ev) prim (d + 2)) (pX12_arrive ev) (67, lv, [], hp, sz, 0) (ypQ [8] F ev T sz (none) S') := by
  unfold f_X12_arrive_67 at h
  exact ye_ret rfl rfl (rQV h hM)

def f_X12_arrive_0 (N : Nat) (S : yS) (l1 : Int32) (l2 : Int32) : Option (Int32 × yS) := bS (f_X12_setBag N S l1 1 ((-1))) fun w1 S1 => bS (f_X12_setBag N S1 l1 2 ((-1))) fun w2 S2 => gA 30 l1 fun j1 => if ¬ (S2.2.1 8 24 j1) = l2 then bS (f_X12_setBag N S2 l1 0 l2) fun w3 S3 => bS (f_X12_led N S3 l1 l2) fun w4 S4 => f_X12_arrive_67 N S4 else bS (f_X12_setBag N S2 l1 0 ((-1))) fun w5 S5 => gA 2305 0 fun j2 => bS (f_X12_setBag N S5 l1 3 (S5.2.1 8 48 j2)) fun w6 S6 => bS (f_X12_led N S6 l1 300) fun w7 S7 => f_X12_arrive_67 N S7
set_option maxHeartbeats 4000000 in
set_option maxRecDepth 40000 in
theorem w_X12_arrive_0 {F : xH} {ev : xEv} {prim : xRel} {d sz : Nat} {T : yT} {v : Int32} {S' : yS} (N : Nat) (S : yS) (l1 : Int32) (l2 : Int32) (hp : xH) (lv : xLv) (a0 : Nat) (fa0 : yAt T 12 8 0 a0) (g0 : xG lv 0 = some (.ref a0)) (g1 : xG lv 1 = some (.int l1)) (g2 : xG lv 2 = some (.int l2)) (hM : cR [8] F ev T S hp) (h : f_X12_arrive_0 N S l1 l2 = some (v, S')) : yWE ev.2.1 (xstr ev) (xCalls ev xmi (xprog ev) prim (d + 2)) (pX12_arrive ev) (0, lv, [], hp, sz, 0) (ypQ [8] F ev T sz (none) S') := by
  unfold f_X12_arrive_0 at h
  refine ye_aload rfl g0 ?_
  refine ye_iload rfl g1 ?_
  refine ye_p rfl rfl ?_
  refine ye_p rfl rfl ?_
  obtain ⟨w1, S1, hw1, h⟩ := bS_some h
  obtain ⟨y1, cy1, M1⟩ := (m_X12_setBag (d := d + 1) (T := T) N S l1 1 ((-1)) a0 fa0 hw1) hp sz hM
  refine ye_callV (As := [.int l1, .int 1, .int ((-1))]) (rest := []) 0 (Or.inl rfl) rfl rfl rfl (Nat.le_of_ble_eq_true rfl) (hM.obj fa0 ⟨rfl, rfl⟩) cy1 ?_
  refine ye_aload rfl g0 ?_
  refine ye_iload rfl g1 ?_
  refine ye_p rfl rfl ?_
  refine ye_p rfl rfl ?_
  obtain ⟨w2, S2, hw2, h⟩ := bS_some h
  obtain ⟨y2, cy2, M2⟩ := (m_X12_setBag (d := d + 1) (T := T) N S1 l1 2 ((-1)) a0 fa0 hw2) y1 sz M1
  refine ye_callV (As := [.int l1, .int 2, .int ((-1))]) (rest := []) 0 (Or.inl rfl) rfl rfl rfl (Nat.le_of_ble_eq_true rfl) (M1.obj fa0 ⟨rfl, rfl⟩) cy2 ?_
  refine ye_aload rfl g0 ?_
  refine ye_getr rfl (M2.obj fa0 ⟨rfl, rfl⟩) rfl (fun cx1 ecx1 => ?_)
  have fcx1 := yAt.row fa0 ecx1
  refine ye_iload rfl g1 ?_
  obtain ⟨j1, ej1, ij1, h⟩ := gA_some h
  refine yj_ald rfl (M2.arr fcx1 yr_12_24) ij1 ej1 ?_
  refine ye_iload rfl g2 ?_
  refine ye_icmp_ne rfl (fun h1 => ?_) (fun h1 => ?_)
  · replace h := yiT h1 h
    refine ye_aload rfl g0 ?_
    refine ye_iload rfl g1 ?_
    refine ye_p rfl rfl ?_
    refine ye_iload rfl g2 ?_
    obtain ⟨w3, S3, hw3, h⟩ := bS_some h
    obtain ⟨y3, cy3, M3⟩ := (m_X12_setBag (d := d + 1) (T := T) N S2 l1 0 l2 a0 fa0 hw3) y2 sz M2
    refine ye_callV (As := [.int l1, .int 0, .int l2]) (rest := []) 0 (Or.inl rfl) rfl rfl rfl (Nat.le_of_ble_eq_true rfl) (M2.obj fa0 ⟨rfl, rfl⟩) cy3 ?_
    refine ye_aload rfl g0 ?_
    refine ye_iload rfl g1 ?_
    refine ye_iload rfl g2 ?_
    obtain ⟨w4, S4, hw4, h⟩ := bS_some h
    obtain ⟨y4, cy4, M4⟩ := (m_X12_led (d := d + 0) (T := T) N S3 l1 l2 a0 fa0 hw4) y3 sz M3
    refine ye_callV (As := [.int l1, .int l2]) (rest := []) 0 (Or.inl rfl) rfl rfl rfl (Nat.le_of_ble_eq_true rfl) (M3.obj fa0 ⟨rfl, rfl⟩) cy4 ?_
    exact w_X12_arrive_67 (prim := prim) (d := d) N S4 y4 lv M4 h
  · replace h := yiN h1 h
    refine ye_aload rfl g0 ?_
    refine ye_iload rfl g1 ?_
    refine ye_p rfl rfl ?_
    refine ye_p rfl rfl ?_
    obtain ⟨w5, S5, hw5, h⟩ := bS_some h
    obtain ⟨y5, cy5, M5⟩ := (m_X12_setBag (d := d + 1) (T := T) N S2 l1 0 ((-1)) a0 fa0 hw5) y2 sz M2
    refine ye_callV (As := [.int l1, .int 0, .int ((-1))]) (rest := []) 0 (Or.inl rfl) rfl rfl rfl (Nat.le_of_ble_eq_true rfl) (M2.obj fa0 ⟨rfl, rfl⟩) cy5 ?_
    refine ye_aload rfl g0 ?_
    refine ye_iload rfl g1 ?_
    refine ye_p rfl rfl ?_
    refine ye_aload rfl g0 ?_
    refine ye_getr rfl (M5.obj fa0 ⟨rfl, rfl⟩) rfl (fun cx2 ecx2 => ?_)
    have fcx2 := yAt.row fa0 ecx2
    refine ye_p rfl rfl ?_
    obtain ⟨j2, ej2, ij2, h⟩ := gA_some h
    refine yj_ald rfl (M5.arr fcx2 yr_12_48) ij2 ej2 ?_
    obtain ⟨w6, S6, hw6, h⟩ := bS_some h
    obtain ⟨y6, cy6, M6⟩ := (m_X12_setBag (d := d + 1) (T := T) N S5 l1 3 (S5.2.1 8 48 j2) a0 fa0 hw6) y5 sz M5
    refine ye_callV (As := [.int l1, .int 3, .int (S5.2.1 8 48 j2)]) (rest := []) 0 (Or.inl rfl) rfl rfl rfl (Nat.le_of_ble_eq_true rfl) (M5.obj fa0 ⟨rfl, rfl⟩) cy6 ?_
    refine ye_aload rfl g0 ?_
    refine ye_iload rfl g1 ?_
    refine ye_p rfl rfl ?_
    obtain ⟨w7, S7, hw7, h⟩ := bS_some h
    obtain ⟨y7, cy7, M7⟩ := (m_X12_led (d := d + 0) (T := T) N S6 l1 300 a0 fa0 hw7) y6 sz M6
    refine ye_callV (As := [.int l1, .int 300]) (rest := []) 0 (Or.inl rfl) rfl rfl rfl (Nat.le_of_ble_eq_true rfl) (M6.obj fa0 ⟨rfl, rfl⟩) cy7 ?_
    refine ye_p rfl rfl ?_
    exact w_X12_arrive_67 (prim := prim) (d := d) N S7 y7 lv M7 h
def f_X12_arrive (N : Nat) (S : yS) (xl1 : Int32) (xl2 : Int32) : Option (Int32 × yS) := f_X12_arrive_0 N S xl1 xl2
theorem m_X12_arrive {F : xH} {ev : xEv} {prim : xRel} {d : Nat} {T : yT} {v : Int32} {S' : yS} (N : Nat) (S : yS) (xl1 : Int32) (xl2 : Int32) (a0 : Nat) (fa0 : yAt T 12 8 0 a0) (h : f_X12_arrive N S xl1 xl2 = some (v, S')) : ykQ [8] F ev prim (d + 3) 225 T S [.ref a0, .int xl1, .int xl2] (none) S' :=
  ykQ.of (pg_225 ev) mi_225 (Nat.le_of_ble_eq_true rfl) (fun hp sz hM => w_X12_arrive_0 (prim := prim) (d := d) N S xl1 xl2 hp _ a0 fa0 rfl rfl rfl hM h)

def f_X12_up_0 (N : Nat) (S : yS) (l0 : Int32) (l1 : Int32) : Option Int32 := gP (¬ l1 = 0) (some (((l0 + l1) - 1) / l1))
set_option maxHeartbeats 4000000 in
set_option maxRecDepth 40000 in
theorem w_X12_up_0 {F : xH} {ev : xEv} {prim : xRel} {d sz : Nat} {T : yT} {v : Int32} {hp : xH} (N : Nat) (S : yS) (l0 : Int32) (l1 : Int32) (lv : xLv) (g0 : xG lv 0 = some (.int l0)) (g1 : xG lv 1 = some (.int l1)) (hM : cR [8] F ev T S hp) (h : f_X12_up_0 N S l0 l1 = some v) : yWE ev.2.1 (xstr ev) (xCalls ev xmi (xprog ev) prim (d + 0)) (pX12_up ev) (0, lv, [], hp, sz, 0) (ypP hp sz (.int v)) := by
  unfold f_X12_up_0 at h
  refine ye_iload rfl g0 ?_
  refine ye_iload rfl g1 ?_
  refine ye_p rfl rfl ?_
  refine ye_p rfl rfl ?_
  refine ye_p rfl rfl ?_
  refine ye_iload rfl g1 ?_
  obtain ⟨i1, h⟩ := gP_some h
  refine ye_div rfl i1 ?_
  exact ye_ret rfl rfl (rP h)
def f_X12_up (N : Nat) (S : yS) (xl0 : Int32) (xl1 : Int32) : Option Int32 := f_X12_up_0 N S xl0 xl1
theorem m_X12_up {F : xH} {ev : xEv} {prim : xRel} {d : Nat} {T : yT} {v : Int32} (N : Nat) (S : yS) (xl0 : Int32) (xl1 : Int32) (h : f_X12_up N S xl0 xl1 = some v) : ykP [8] F ev prim (d + 1) 226 T S [.int xl0, .int xl1] (.int v) :=
  ykP.of (pg_226 ev) mi_226 (Nat.le_of_ble_eq_true rfl) (fun hp sz hM => w_X12_up_0 (prim := prim) (d := d) N S xl0 xl1 _ rfl rfl hM h)

def f_X12_train_23 (N : Nat) (S : yS) : Option (Int32 × yS) := some ((-1), S)
set_option maxHeartbeats 4000000 in
set_option maxRecDepth 40000 in
theorem w_X12_train_23 {F : xH} {ev : xEv} {prim : xRel} {d sz : Nat} {T : yT} {v : Int32} {S' : yS} (N : Nat) (S : yS) (hp : xH) (lv : xLv) (hM : cR [8] F ev T S hp) (h : f_X12_train_23 N S = some (v, S')) : yWE ev.2.1 (xstr ev) (xCalls ev xmi (xprog ev) prim (d + 2)) (pX12_train ev) (23, lv, [], hp, sz, 0) (ypQ [8] F ev T sz (some (.int v)) S') := by
  unfold f_X12_train_23 at h
  refine ye_p rfl rfl ?_
  exact ye_ret rfl rfl (rQ h hM)

def f_X12_train_0 (N : Nat) (S : yS) (l1 : Int32) : Option (Int32 × yS) := sq (yI S 8 47 0) fun S1 => bV (f_X12_isBag N S1 l1) fun w1 => if w1 = 0 then f_X12_train_23 N S1 else bV (f_X12_bagOf N S1 l1 0) fun w2 => if ¬ w2 = ((-1)) then gA 2305 0 fun j1 => bV (f_X12_bagOf N S1 l1 0) fun w3 => gA 30 l1 fun j2 => gA 64 ((8 * w3) + (S1.2.1 8 24 j2)) fun j3 => bV (f_X12_up N S1 (S1.2.1 8 10 j3) 4) fun w4 => bS (f_X12_setBag N S1 l1 0 ((-1))) fun w5 S2 => bS (f_X12_setBag N S2 l1 2 ((S1.2.1 8 48 j1) + (if 1 < w4 then w4 else 1))) fun w6 S3 => bS (f_X12_led N S3 l1 200) fun w7 S4 => some ((S1.2.1 8 48 j1) + (if 1 < w4 then w4 else 1), S4) else f_X12_train_23 N S1
set_option maxHeartbeats 4000000 in
set_option maxRecDepth 40000 in
theorem w_X12_train_0 {F : xH} {ev : xEv} {prim : xRel} {d sz : Nat} {T : yT} {v : Int32} {S' : yS} (N : Nat) (S : yS) (l1 : Int32) (hp : xH) (lv : xLv) (a0 : Nat) (fa0 : yAt T 12 8 0 a0) (g0 : xG lv 0 = some (.ref a0)) (g1 : xG lv 1 = some (.int l1)) (hM : cR [8] F ev T S hp) (h : f_X12_train_0 N S l1 = some (v, S')) : yWE ev.2.1 (xstr ev) (xCalls ev xmi (xprog ev) prim (d + 2)) (pX12_train ev) (0, lv, [], hp, sz, 0) (ypQ [8] F ev T sz (some (.int v)) S') := by
  unfold f_X12_train_0 at h
  refine ye_aload rfl g0 ?_
  refine ye_p rfl rfl ?_
  obtain ⟨S1, eS1, h⟩ := sq_some h
  refine yw_putI rfl hM fa0 rfl ⟨rfl, rfl⟩ (Nat.le_of_ble_eq_true rfl) rfl rfl (ys_12_47 ev T _ 0) (fun q => absurd q (by decide)) eS1 (fun y1 M1 => ?_)
  refine ye_aload rfl g0 ?_
  refine ye_iload rfl g1 ?_
  obtain ⟨w1, hw1, h⟩ := bV_some h
  refine ye_callV (As := [.int l1]) (rest := []) 0 (Or.inl rfl) rfl rfl rfl (Nat.le_of_ble_eq_true rfl) (M1.obj fa0 ⟨rfl, rfl⟩) ((m_X12_isBag (d := d + 0) (T := T) N S1 l1 a0 fa0 hw1) y1 sz M1) ?_
  refine ye_if_eq rfl (fun h1 => ?_) (fun h1 => ?_)
  · replace h := yiT h1 h
    exact w_X12_train_23 (prim := prim) (d := d) N S1 y1 lv M1 h
  · replace h := yiN h1 h
    refine ye_aload rfl g0 ?_
    refine ye_iload rfl g1 ?_
    refine ye_p rfl rfl ?_
    obtain ⟨w2, hw2, h⟩ := bV_some h
    refine ye_callV (As := [.int l1, .int 0]) (rest := []) 0 (Or.inl rfl) rfl rfl rfl (Nat.le_of_ble_eq_true rfl) (M1.obj fa0 ⟨rfl, rfl⟩) ((m_X12_bagOf (d := d + 1) (T := T) N S1 l1 0 a0 fa0 hw2) y1 sz M1) ?_
    refine ye_p rfl rfl ?_
    refine ye_icmp_ne rfl (fun h2 => ?_) (fun h2 => ?_)
    · replace h := yiT h2 h
      refine ye_aload rfl g0 ?_
      refine ye_getr rfl (M1.obj fa0 ⟨rfl, rfl⟩) rfl (fun cx1 ecx1 => ?_)
      have fcx1 := yAt.row fa0 ecx1
      refine ye_p rfl rfl ?_
      obtain ⟨j1, ej1, ij1, h⟩ := gA_some h
      refine yj_ald rfl (M1.arr fcx1 yr_12_48) ij1 ej1 ?_
      refine ye_p rfl rfl ?_
      refine ye_aload rfl g0 ?_
      refine ye_getr rfl (M1.obj fa0 ⟨rfl, rfl⟩) rfl (fun cx2 ecx2 => ?_)
      have fcx2 := yAt.row fa0 ecx2
      refine ye_p rfl rfl ?_
      refine ye_aload rfl g0 ?_
      refine ye_iload rfl g1 ?_
      refine ye_p rfl rfl ?_
      obtain ⟨w3, hw3, h⟩ := bV_some h
      refine ye_callV (As := [.int l1, .int 0]) (rest := [.int 8, .ref cx2, .int 1, .int (S1.2.1 8 48 j1)]) 0 (Or.inl rfl) rfl rfl rfl (Nat.le_of_ble_eq_true rfl) (M1.obj fa0 ⟨rfl, rfl⟩) ((m_X12_bagOf (d := d + 1) (T := T) N S1 l1 0 a0 fa0 hw3) y1 sz M1) ?_
      refine ye_p rfl rfl ?_
      refine ye_aload rfl g0 ?_
      refine ye_getr rfl (M1.obj fa0 ⟨rfl, rfl⟩) rfl (fun cx3 ecx3 => ?_)
      have fcx3 := yAt.row fa0 ecx3
      refine ye_iload rfl g1 ?_
      obtain ⟨j2, ej2, ij2, h⟩ := gA_some h
      refine yj_ald rfl (M1.arr fcx3 yr_12_24) ij2 ej2 ?_
      refine ye_p rfl rfl ?_
      obtain ⟨j3, ej3, ij3, h⟩ := gA_some h
      refine yj_ald rfl (M1.arr fcx2 yr_12_10) ij3 ej3 ?_
      refine ye_p rfl rfl ?_
      obtain ⟨w4, hw4, h⟩ := bV_some h
      refine ye_callS (As := [.int (S1.2.1 8 10 j3), .int 4]) (rest := [.int 1, .int (S1.2.1 8 48 j1)]) 1 (Or.inl rfl) rfl rfl rfl (Nat.le_of_ble_eq_true rfl) ((m_X12_up (d := d + 1) (T := T) N S1 (S1.2.1 8 10 j3) 4 hw4) y1 sz M1) ?_
      refine ye_p rfl rfl ?_
      refine ye_p rfl rfl ?_
      refine ye_p rfl rfl ?_
      have g0_z1 := xG_o1 (i := 2) (v := .int ((S1.2.1 8 48 j1) + (if 1 < w4 then w4 else 1))) g0 rfl
      have g1_z1 := xG_o1 (i := 2) (v := .int ((S1.2.1 8 48 j1) + (if 1 < w4 then w4 else 1))) g1 rfl
      have g2_z1 := xG_same lv 2 (.int ((S1.2.1 8 48 j1) + (if 1 < w4 then w4 else 1)))
      generalize xSt1 lv 2 (.int ((S1.2.1 8 48 j1) + (if 1 < w4 then w4 else 1))) = lvz1 at g0_z1 g1_z1 g2_z1 ⊢
      refine ye_aload rfl g0_z1 ?_
      refine ye_iload rfl g1_z1 ?_
      refine ye_p rfl rfl ?_
      refine ye_p rfl rfl ?_
      obtain ⟨w5, S2, hw5, h⟩ := bS_some h
      obtain ⟨y2, cy2, M2⟩ := (m_X12_setBag (d := d + 1) (T := T) N S1 l1 0 ((-1)) a0 fa0 hw5) y1 sz M1
      refine ye_callV (As := [.int l1, .int 0, .int ((-1))]) (rest := []) 0 (Or.inl rfl) rfl rfl rfl (Nat.le_of_ble_eq_true rfl) (M1.obj fa0 ⟨rfl, rfl⟩) cy2 ?_
      refine ye_aload rfl g0_z1 ?_
      refine ye_iload rfl g1_z1 ?_
      refine ye_p rfl rfl ?_
      refine ye_iload rfl g2_z1 ?_
      obtain ⟨w6, S3, hw6, h⟩ := bS_some h
      obtain ⟨y3, cy3, M3⟩ := (m_X12_setBag (d := d + 1) (T := T) N S2 l1 2 ((S1.2.1 8 48 j1) + (if 1 < w4 then w4 else 1)) a0 fa0 hw6) y2 sz M2
      refine ye_callV (As := [.int l1, .int 2, .int ((S1.2.1 8 48 j1) + (if 1 < w4 then w4 else 1))]) (rest := []) 0 (Or.inl rfl) rfl rfl rfl (Nat.le_of_ble_eq_true rfl) (M2.obj fa0 ⟨rfl, rfl⟩) cy3 ?_
      refine ye_aload rfl g0_z1 ?_
      refine ye_iload rfl g1_z1 ?_
      refine ye_p rfl rfl ?_
      obtain ⟨w7, S4, hw7, h⟩ := bS_some h
      obtain ⟨y4, cy4, M4⟩ := (m_X12_led (d := d + 0) (T := T) N S3 l1 200 a0 fa0 hw7) y3 sz M3
      refine ye_callV (As := [.int l1, .int 200]) (rest := []) 0 (Or.inl rfl) rfl rfl rfl (Nat.le_of_ble_eq_true rfl) (M3.obj fa0 ⟨rfl, rfl⟩) cy4 ?_
      refine ye_iload rfl g2_z1 ?_
      exact ye_ret rfl rfl (rQ h M4)
    · replace h := yiN h2 h
      exact w_X12_train_23 (prim := prim) (d := d) N S1 y1 lv M1 h
def f_X12_train (N : Nat) (S : yS) (xl1 : Int32) : Option (Int32 × yS) := f_X12_train_0 N S xl1
theorem m_X12_train {F : xH} {ev : xEv} {prim : xRel} {d : Nat} {T : yT} {v : Int32} {S' : yS} (N : Nat) (S : yS) (xl1 : Int32) (a0 : Nat) (fa0 : yAt T 12 8 0 a0) (h : f_X12_train N S xl1 = some (v, S')) : ykQ [8] F ev prim (d + 3) 227 T S [.ref a0, .int xl1] (some (.int v)) S' :=
  ykQ.of (pg_227 ev) mi_227 (Nat.le_of_ble_eq_true rfl) (fun hp sz hM => w_X12_train_0 (prim := prim) (d := d) N S xl1 hp _ a0 fa0 rfl rfl hM h)

def f_X12_set_43 (N : Nat) (S : yS) : Option (Int32 × yS) := some ((-1), S)
set_option maxHeartbeats 4000000 in
set_option maxRecDepth 40000 in
theorem w_X12_set_43 {F : xH} {ev : xEv} {prim : xRel} {d sz : Nat} {T : yT} {v : Int32} {S' : yS} (N : Nat) (S : yS) (hp : xH) (lv : xLv) (hM : cR [8] F ev T S hp) (h : f_X12_set_43 N S = some (v, S')) : yWE ev.2.1 (xstr ev) (xCalls ev xmi (xprog ev) prim (d + 1)) (pX12_set ev) (43, lv, [], hp, sz, 0) (ypQ [8] F ev T sz (some (.int v)) S') := by
  unfold f_X12_set_43 at h
  refine ye_p rfl rfl ?_
  exact ye_ret rfl rfl (rQ h hM)

def f_X12_set_103 (N : Nat) (S : yS) (l3 : Int32) : Option (Int32 × yS) := some (l3, S)
set_option maxHeartbeats 4000000 in
set_option maxRecDepth 40000 in
theorem w_X12_set_103 {F : xH} {ev : xEv} {prim : xRel} {d sz : Nat} {T : yT} {v : Int32} {S' : yS} (N : Nat) (S : yS) (l3 : Int32) (hp : xH) (lv : xLv) (g3 : xG lv 3 = some (.int l3)) (hM : cR [8] F ev T S hp) (h : f_X12_set_103 N S l3 = some (v, S')) : yWE ev.2.1 (xstr ev) (xCalls ev xmi (xprog ev) prim (d + 1)) (pX12_set ev) (103, lv, [], hp, sz, 0) (ypQ [8] F ev T sz (some (.int v)) S') := by
  unfold f_X12_set_103 at h
  refine ye_iload rfl g3 ?_
  exact ye_ret rfl rfl (rQ h hM)

def f_X12_set_72 (N : Nat) (S : yS) (l1 : Int32) (l2 : Int32) (t0 : Int32) : Option (Int32 × yS) := if ¬ l1 = 0 then if ¬ l1 = 1 then sq (yI S 8 36 l2) fun S1 => f_X12_set_103 N S1 t0 else sq (yI S 8 35 l2) fun S2 => f_X12_set_103 N S2 t0 else sq (yI S 8 34 l2) fun S3 => f_X12_set_103 N S3 t0
set_option maxHeartbeats 4000000 in
set_option maxRecDepth 40000 in
theorem w_X12_set_72 {F : xH} {ev : xEv} {prim : xRel} {d sz : Nat} {T : yT} {v : Int32} {S' : yS} (N : Nat) (S : yS) (l1 : Int32) (l2 : Int32) (t0 : Int32) (hp : xH) (lv : xLv) (a0 : Nat) (fa0 : yAt T 12 8 0 a0) (g0 : xG lv 0 = some (.ref a0)) (g1 : xG lv 1 = some (.int l1)) (g2 : xG lv 2 = some (.int l2)) (hM : cR [8] F ev T S hp) (h : f_X12_set_72 N S l1 l2 t0 = some (v, S')) : yWE ev.2.1 (xstr ev) (xCalls ev xmi (xprog ev) prim (d + 1)) (pX12_set ev) (72, lv, [.int t0], hp, sz, 0) (ypQ [8] F ev T sz (some (.int v)) S') := by
  unfold f_X12_set_72 at h
  refine ye_p rfl rfl ?_
  have g0_z1 := xG_o1 (i := 3) (v := .int t0) g0 rfl
  have g1_z1 := xG_o1 (i := 3) (v := .int t0) g1 rfl
  have g2_z1 := xG_o1 (i := 3) (v := .int t0) g2 rfl
  have g3_z1 := xG_same lv 3 (.int t0)
  generalize xSt1 lv 3 (.int t0) = lvz1 at g0_z1 g1_z1 g2_z1 g3_z1 ⊢
  refine ye_iload rfl g1_z1 ?_
  refine ye_if_ne rfl (fun h1 => ?_) (fun h1 => ?_)
  · replace h := yiT h1 h
    refine ye_iload rfl g1_z1 ?_
    refine ye_p rfl rfl ?_
    refine ye_icmp_ne rfl (fun h2 => ?_) (fun h2 => ?_)
    · replace h := yiT h2 h
      refine ye_aload rfl g0_z1 ?_
      refine ye_iload rfl g2_z1 ?_
      obtain ⟨S1, eS1, h⟩ := sq_some h
      refine yw_putI rfl hM fa0 rfl ⟨rfl, rfl⟩ (Nat.le_of_ble_eq_true rfl) rfl rfl (ys_12_36 ev T _ l2) (fun q => absurd q (by decide)) eS1 (fun y1 M1 => ?_)
      exact w_X12_set_103 (prim := prim) (d := d) N S1 t0 y1 lvz1 g3_z1 M1 h
    · replace h := yiN h2 h
      refine ye_aload rfl g0_z1 ?_
      refine ye_iload rfl g2_z1 ?_
      obtain ⟨S2, eS2, h⟩ := sq_some h
      refine yw_putI rfl hM fa0 rfl ⟨rfl, rfl⟩ (Nat.le_of_ble_eq_true rfl) rfl rfl (ys_12_35 ev T _ l2) (fun q => absurd q (by decide)) eS2 (fun y2 M2 => ?_)
      refine ye_p rfl rfl ?_
      exact w_X12_set_103 (prim := prim) (d := d) N S2 t0 y2 lvz1 g3_z1 M2 h
  · replace h := yiN h1 h
    refine ye_aload rfl g0_z1 ?_
    refine ye_iload rfl g2_z1 ?_
    obtain ⟨S3, eS3, h⟩ := sq_some h
    refine yw_putI rfl hM fa0 rfl ⟨rfl, rfl⟩ (Nat.le_of_ble_eq_true rfl) rfl rfl (ys_12_34 ev T _ l2) (fun q => absurd q (by decide)) eS3 (fun y3 M3 => ?_)
    refine ye_p rfl rfl ?_
    exact w_X12_set_103 (prim := prim) (d := d) N S3 t0 y3 lvz1 g3_z1 M3 h

def f_X12_set_37 (N : Nat) (S : yS) (l1 : Int32) (l2 : Int32) (t0 : Int32) (t1 : Int32) (t2 : Int32) : Option (Int32 × yS) := bV (f_X12_in N S t0 t1 t2) fun w1 => if ¬ w1 = 0 then if ¬ l1 = 0 then if ¬ l1 = 1 then f_X12_set_72 N S l1 l2 (S.1 8 36) else f_X12_set_72 N S l1 l2 (S.1 8 35) else f_X12_set_72 N S l1 l2 (S.1 8 34) else f_X12_set_43 N S
set_option maxHeartbeats 4000000 in
set_option maxRecDepth 40000 in
theorem w_X12_set_37 {F : xH} {ev : xEv} {prim : xRel} {d sz : Nat} {T : yT} {v : Int32} {S' : yS} (N : Nat) (S : yS) (l1 : Int32) (l2 : Int32) (t0 : Int32) (t1 : Int32) (t2 : Int32) (hp : xH) (lv : xLv) (a0 : Nat) (fa0 : yAt T 12 8 0 a0) (g0 : xG lv 0 = some (.ref a0)) (g1 : xG lv 1 = some (.int l1)) (g2 : xG lv 2 = some (.int l2)) (hM : cR [8] F ev T S hp) (h : f_X12_set_37 N S l1 l2 t0 t1 t2 = some (v, S')) : yWE ev.2.1 (xstr ev) (xCalls ev xmi (xprog ev) prim (d + 1)) (pX12_set ev) (37, lv, [.int t2, .int t1, .int t0], hp, sz, 0) (ypQ [8] F ev T sz (some (.int v)) S') := by
  unfold f_X12_set_37 at h
  obtain ⟨w1, hw1, h⟩ := bV_some h
  refine ye_callS (As := [.int t0, .int t1, .int t2]) (rest := []) 1 (Or.inl rfl) rfl rfl rfl (Nat.le_of_ble_eq_true rfl) ((m_X12_in (d := d + 0) (T := T) N S t0 t1 t2 hw1) hp sz hM) ?_
  refine ye_if_ne rfl (fun h1 => ?_) (fun h1 => ?_)
  · replace h := yiT h1 h
    refine ye_iload rfl g1 ?_
    refine ye_if_ne rfl (fun h2 => ?_) (fun h2 => ?_)
    · replace h := yiT h2 h
      refine ye_iload rfl g1 ?_
      refine ye_p rfl rfl ?_
      refine ye_icmp_ne rfl (fun h3 => ?_) (fun h3 => ?_)
      · replace h := yiT h3 h
        refine ye_aload rfl g0 ?_
        refine ye_getf rfl (hM.obj fa0 ⟨rfl, rfl⟩) rfl ?_
        exact w_X12_set_72 (prim := prim) (d := d) N S l1 l2 (S.1 8 36) hp lv a0 fa0 g0 g1 g2 hM h
      · replace h := yiN h3 h
        refine ye_aload rfl g0 ?_
        refine ye_getf rfl (hM.obj fa0 ⟨rfl, rfl⟩) rfl ?_
        refine ye_p rfl rfl ?_
        exact w_X12_set_72 (prim := prim) (d := d) N S l1 l2 (S.1 8 35) hp lv a0 fa0 g0 g1 g2 hM h
    · replace h := yiN h2 h
      refine ye_aload rfl g0 ?_
      refine ye_getf rfl (hM.obj fa0 ⟨rfl, rfl⟩) rfl ?_
      refine ye_p rfl rfl ?_
      exact w_X12_set_72 (prim := prim) (d := d) N S l1 l2 (S.1 8 34) hp lv a0 fa0 g0 g1 g2 hM h
  · replace h := yiN h1 h
    exact w_X12_set_43 (prim := prim) (d := d) N S hp lv hM h

def f_X12_set_0 (N : Nat) (S : yS) (l1 : Int32) (l2 : Int32) : Option (Int32 × yS) := sq (yI S 8 47 0) fun S1 => bV (f_X12_in N S1 l1 0 2) fun w1 => if w1 = 0 then f_X12_set_43 N S1 else if ¬ l1 = 0 then if ¬ l1 = 1 then f_X12_set_37 N S1 l1 l2 l2 0 99 else f_X12_set_37 N S1 l1 l2 l2 0 50 else f_X12_set_37 N S1 l1 l2 l2 0 20
set_option maxHeartbeats 4000000 in
set_option maxRecDepth 40000 in
theorem w_X12_set_0 {F : xH} {ev : xEv} {prim : xRel} {d sz : Nat} {T : yT} {v : Int32} {S' : yS} (N : Nat) (S : yS) (l1 : Int32) (l2 : Int32) (hp : xH) (lv : xLv) (a0 : Nat) (fa0 : yAt T 12 8 0 a0) (g0 : xG lv 0 = some (.ref a0)) (g1 : xG lv 1 = some (.int l1)) (g2 : xG lv 2 = some (.int l2)) (hM : cR [8] F ev T S hp) (h : f_X12_set_0 N S l1 l2 = some (v, S')) : yWE ev.2.1 (xstr ev) (xCalls ev xmi (xprog ev) prim (d + 1)) (pX12_set ev) (0, lv, [], hp, sz, 0) (ypQ [8] F ev T sz (some (.int v)) S') := by
  unfold f_X12_set_0 at h
  refine ye_aload rfl g0 ?_
  refine ye_p rfl rfl ?_
  obtain ⟨S1, eS1, h⟩ := sq_some h
  refine yw_putI rfl hM fa0 rfl ⟨rfl, rfl⟩ (Nat.le_of_ble_eq_true rfl) rfl rfl (ys_12_47 ev T _ 0) (fun q => absurd q (by decide)) eS1 (fun y1 M1 => ?_)
  refine ye_iload rfl g1 ?_
  refine ye_p rfl rfl ?_
  refine ye_p rfl rfl ?_
  obtain ⟨w1, hw1, h⟩ := bV_some h
  refine ye_callS (As := [.int l1, .int 0, .int 2]) (rest := []) 1 (Or.inl rfl) rfl rfl rfl (Nat.le_of_ble_eq_true rfl) ((m_X12_in (d := d + 0) (T := T) N S1 l1 0 2 hw1) y1 sz M1) ?_
  refine ye_if_eq rfl (fun h1 => ?_) (fun h1 => ?_)
  · replace h := yiT h1 h
    exact w_X12_set_43 (prim := prim) (d := d) N S1 y1 lv M1 h
  · replace h := yiN h1 h
    refine ye_iload rfl g2 ?_
    refine ye_p rfl rfl ?_
    refine ye_iload rfl g1 ?_
    refine ye_if_ne rfl (fun h2 => ?_) (fun h2 => ?_)
    · replace h := yiT h2 h
      refine ye_iload rfl g1 ?_
      refine ye_p rfl rfl ?_
      refine ye_icmp_ne rfl (fun h3 => ?_) (fun h3 => ?_)
      · replace h := yiT h3 h
        refine ye_p rfl rfl ?_
        exact w_X12_set_37 (prim := prim) (d := d) N S1 l1 l2 l2 0 99 y1 lv a0 fa0 g0 g1 g2 M1 h
      · replace h := yiN h3 h
        refine ye_p rfl rfl ?_
        refine ye_p rfl rfl ?_
        exact w_X12_set_37 (prim := prim) (d := d) N S1 l1 l2 l2 0 50 y1 lv a0 fa0 g0 g1 g2 M1 h
    · replace h := yiN h2 h
      refine ye_p rfl rfl ?_
      refine ye_p rfl rfl ?_
      exact w_X12_set_37 (prim := prim) (d := d) N S1 l1 l2 l2 0 20 y1 lv a0 fa0 g0 g1 g2 M1 h
def f_X12_set (N : Nat) (S : yS) (xl1 : Int32) (xl2 : Int32) : Option (Int32 × yS) := f_X12_set_0 N S xl1 xl2
theorem m_X12_set {F : xH} {ev : xEv} {prim : xRel} {d : Nat} {T : yT} {v : Int32} {S' : yS} (N : Nat) (S : yS) (xl1 : Int32) (xl2 : Int32) (a0 : Nat) (fa0 : yAt T 12 8 0 a0) (h : f_X12_set N S xl1 xl2 = some (v, S')) : ykQ [8] F ev prim (d + 2) 228 T S [.ref a0, .int xl1, .int xl2] (some (.int v)) S' :=
  ykQ.of (pg_228 ev) mi_228 (Nat.le_of_ble_eq_true rfl) (fun hp sz hM => w_X12_set_0 (prim := prim) (d := d) N S xl1 xl2 hp _ a0 fa0 rfl rfl rfl hM h)
